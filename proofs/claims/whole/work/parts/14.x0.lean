def rm_X0_forgetAll : Room := { frames := 0, cells := 0, slots := 0, locals := 0 }
set_option maxHeartbeats 4000000 in
set_option maxRecDepth 100000 in
theorem w_X0_forgetAll {p : Program} {l : Launch} {e : Env} {s : State} {m : MethodId} {args : Array Value} {below : List Frame} {meth : Method} {c : Code} {g : GP} (hB : BX p s m args meth c g LX cX0_forgetAll 1 RX0 none) {z : Nat} (k_z : KD LX z 0) {o : Mem} : ∀ (V : Mem) (H : Heap) (locs : List Loc) (ls : Array Slot), f_X0_forgetAll z V = some o → OK g LX V s H locs → lv_has ls 1 [(0, .ref (ad g z))] → W p l e rm_X0_forgetAll s m args below meth c H locs 0 0 (MQ below (QQ g LX none o) args s 0 0 (Ar g LX)) (F0 m 0 ls []) := by
  obtain ⟨hx, hb, hml, hown, hT, hr, hlk, hK, hJ, hZ, hN⟩ := id hB
  intro V H locs ls hE hz hl
  unfold f_X0_forgetAll at hE
  refine lv_aload_n hx hb dX0_forgetAll_0 rfl (lv_at hl 0 rfl) ?_
  refine lv_iconst (v := (0 : Int32)) hx hb dX0_forgetAll_1 (by decide) ?_
  refine p_X0_16 hB hz k_z dX0_forgetAll_2 (fun H locs hz => ?_)
  refine lv_aload_n hx hb dX0_forgetAll_5 rfl (lv_at hl 0 rfl) ?_
  refine lv_iconst (v := (0 : Int32)) hx hb dX0_forgetAll_6 (by decide) ?_
  refine p_X0_20 hB hz k_z dX0_forgetAll_7 (fun H locs hz => ?_)
  exact x_vret hB hz hE dX0_forgetAll_10
theorem c_X0_forgetAll (l : Launch) (g : GP) {z : Nat} (k_z : KD LX z 0) {V : Mem} {o : Mem} (hE : f_X0_forgetAll z V = some o) : CT l g LX yX0_forgetAll cX0_forgetAll 1 none rm_X0_forgetAll [.ref (ad g z)] V none o := by
  refine ct_of (by decide) (Nat.le_of_ble_eq_true rfl) ?_
  intro p e s m args below meth c ls hB hz hl
  exact w_X0_forgetAll hB k_z  _ _ _ _  hE hz hl
def rm_X0_keep : Room := { frames := 0, cells := 0, slots := 0, locals := 0 }
set_option maxHeartbeats 4000000 in
set_option maxRecDepth 100000 in
theorem w_X0_keep_32 {p : Program} {l : Launch} {e : Env} {s : State} {m : MethodId} {args : Array Value} {below : List Frame} {meth : Method} {c : Code} {g : GP} (hB : BX p s m args meth c g LX cX0_keep 8 RX0 none) {z : Nat} (k_z : KD LX z 0) {o : Mem} : ∀ (x1 : Int32) (x2 : Int32) (x3 : Int32) (x4 : Int32) (x5 : Int32) (x6 : Int32) (V : Mem) (H : Heap) (locs : List Loc) (ls : Array Slot), f_X0_keep_32 z x1 x2 x3 x4 x5 x6 V = some o → OK g LX V s H locs → lv_has ls 8 [(0, .ref (ad g z)), (1, .int x1), (2, .int x2), (3, .int x3), (4, .int x4), (5, .int x5), (6, .int x6)] → W p l e rm_X0_keep s m args below meth c H locs 0 0 (MQ below (QQ g LX none o) args s 0 0 (Ar g LX)) (F0 m 32 ls []) := by
  obtain ⟨hx, hb, hml, hown, hT, hr, hlk, hK, hJ, hZ, hN⟩ := id hB
  intro x1 x2 x3 x4 x5 x6 V H locs ls hE hz hl
  unfold f_X0_keep_32 at hE
  refine lv_aload_n hx hb dX0_keep_32 rfl (lv_at hl 0 rfl) ?_
  refine g_X0_11 hB hz k_z dX0_keep_33 ?_
  refine lv_aload_n hx hb dX0_keep_36 rfl (lv_at hl 0 rfl) ?_
  refine g_X0_16 hB hz k_z dX0_keep_37 ?_
  refine lv_aload_n hx hb dX0_keep_40 rfl (lv_at hl 0 rfl) ?_
  refine g_X0_20 hB hz k_z dX0_keep_41 ?_
  refine lv_iadd hx hb dX0_keep_44 ?_
  refine lv_bipush (v := (24 : Int32)) hx hb dX0_keep_45 (by decide) ?_
  refine lv_irem hx hb dX0_keep_47 (by decide) ?_
  obtain ⟨hi48, hE⟩ := x_chk hE
  refine x_aalK hB hz (kd_ac k_z) hi48 dX0_keep_48 ?_
  refine lv_astore (lv' := [(7, .ref (ad g ((z + 1) + 1 + ((((V z 1) + (V z 2)) - (((V z 1) + (V z 2)) / (24 : Int32)) * (24 : Int32))).toNatClampNeg))), (0, .ref (ad g z)), (1, .int x1), (2, .int x2), (3, .int x3), (4, .int x4), (5, .int x5), (6, .int x6)]) hx hb dX0_keep_49 hl (by decide) rfl (fun ls hl => ?_)
  refine lv_aload hx hb dX0_keep_51 (lv_at hl 0 rfl) ?_
  refine lv_iconst (v := (0 : Int32)) hx hb dX0_keep_53 (by decide) ?_
  refine lv_iload_n hx hb dX0_keep_54 rfl (lv_at hl 2 rfl) ?_
  obtain ⟨hi55, hE⟩ := x_chk hE
  refine x_iast (n := 6) hB hz (kd_kp (kd_ac k_z) hi48) hi55 dX0_keep_55 (fun H locs hz => ?_)
  refine lv_aload hx hb dX0_keep_56 (lv_at hl 0 rfl) ?_
  refine lv_iconst (v := (1 : Int32)) hx hb dX0_keep_58 (by decide) ?_
  refine lv_iload_n hx hb dX0_keep_59 rfl (lv_at hl 3 rfl) ?_
  obtain ⟨hi60, hE⟩ := x_chk hE
  refine x_iast (n := 6) hB hz (kd_kp (kd_ac k_z) hi48) hi60 dX0_keep_60 (fun H locs hz => ?_)
  refine lv_aload hx hb dX0_keep_61 (lv_at hl 0 rfl) ?_
  refine lv_iconst (v := (2 : Int32)) hx hb dX0_keep_63 (by decide) ?_
  refine lv_iload_n hx hb dX0_keep_64 rfl (lv_at hl 4 rfl) ?_
  obtain ⟨hi65, hE⟩ := x_chk hE
  refine x_iast (n := 6) hB hz (kd_kp (kd_ac k_z) hi48) hi65 dX0_keep_65 (fun H locs hz => ?_)
  refine lv_aload hx hb dX0_keep_66 (lv_at hl 0 rfl) ?_
  refine lv_iconst (v := (3 : Int32)) hx hb dX0_keep_68 (by decide) ?_
  refine lv_iload hx hb dX0_keep_69 (lv_at hl 5 rfl) ?_
  obtain ⟨hi71, hE⟩ := x_chk hE
  refine x_iast (n := 6) hB hz (kd_kp (kd_ac k_z) hi48) hi71 dX0_keep_71 (fun H locs hz => ?_)
  refine lv_aload hx hb dX0_keep_72 (lv_at hl 0 rfl) ?_
  refine lv_iconst (v := (4 : Int32)) hx hb dX0_keep_74 (by decide) ?_
  refine lv_iload hx hb dX0_keep_75 (lv_at hl 6 rfl) ?_
  obtain ⟨hi77, hE⟩ := x_chk hE
  refine x_iast (n := 6) hB hz (kd_kp (kd_ac k_z) hi48) hi77 dX0_keep_77 (fun H locs hz => ?_)
  refine lv_aload hx hb dX0_keep_78 (lv_at hl 0 rfl) ?_
  refine lv_iconst (v := (5 : Int32)) hx hb dX0_keep_80 (by decide) ?_
  refine lv_iload hx hb dX0_keep_81 (lv_at hl 7 rfl) ?_
  obtain ⟨hi83, hE⟩ := x_chk hE
  refine x_iast (n := 6) hB hz (kd_kp (kd_ac k_z) hi48) hi83 dX0_keep_83 (fun H locs hz => ?_)
  refine lv_aload_n hx hb dX0_keep_84 rfl (lv_at hl 1 rfl) ?_
  refine lv_dup hx hb dX0_keep_85 rfl ?_
  refine g_X0_20 hB hz k_z dX0_keep_86 ?_
  refine lv_iconst (v := (1 : Int32)) hx hb dX0_keep_89 (by decide) ?_
  refine lv_iadd hx hb dX0_keep_90 ?_
  refine p_X0_20 hB hz k_z dX0_keep_91 (fun H locs hz => ?_)
  exact x_vret hB hz hE dX0_keep_94

set_option maxHeartbeats 4000000 in
set_option maxRecDepth 100000 in
theorem w_X0_keep {p : Program} {l : Launch} {e : Env} {s : State} {m : MethodId} {args : Array Value} {below : List Frame} {meth : Method} {c : Code} {g : GP} (hB : BX p s m args meth c g LX cX0_keep 8 RX0 none) {z : Nat} (k_z : KD LX z 0) {o : Mem} : ∀ (x1 : Int32) (x2 : Int32) (x3 : Int32) (x4 : Int32) (x5 : Int32) (x6 : Int32) (V : Mem) (H : Heap) (locs : List Loc) (ls : Array Slot), f_X0_keep z x1 x2 x3 x4 x5 x6 V = some o → OK g LX V s H locs → lv_has ls 8 [(0, .ref (ad g z)), (1, .int x1), (2, .int x2), (3, .int x3), (4, .int x4), (5, .int x5), (6, .int x6)] → W p l e rm_X0_keep s m args below meth c H locs 0 0 (MQ below (QQ g LX none o) args s 0 0 (Ar g LX)) (F0 m 0 ls []) := by
  obtain ⟨hx, hb, hml, hown, hT, hr, hlk, hK, hJ, hZ, hN⟩ := id hB
  intro x1 x2 x3 x4 x5 x6 V H locs ls hE hz hl
  unfold f_X0_keep at hE
  refine lv_aload_n hx hb dX0_keep_0 rfl (lv_at hl 0 rfl) ?_
  refine g_X0_20 hB hz k_z dX0_keep_1 ?_
  refine lv_bipush (v := (24 : Int32)) hx hb dX0_keep_4 (by decide) ?_
  refine lv_icmp_ne (tgt := 32) hx hb dX0_keep_6 (by decide) (fun c6 => ?_) (fun c6 => ?_)
  · have hE := (if_neg c6).symm.trans hE
    exact w_X0_keep_32 hB k_z  _ _ _ _ _ _ _ _ _ _  hE hz (lv_sub hl [0, 1, 2, 3, 4, 5, 6] rfl)
  · have hE := (if_pos c6).symm.trans hE
    refine lv_aload_n hx hb dX0_keep_9 rfl (lv_at hl 0 rfl) ?_
    refine lv_aload_n hx hb dX0_keep_10 rfl (lv_at hl 0 rfl) ?_
    refine g_X0_16 hB hz k_z dX0_keep_11 ?_
    refine lv_iconst (v := (1 : Int32)) hx hb dX0_keep_14 (by decide) ?_
    refine lv_iadd hx hb dX0_keep_15 ?_
    refine lv_bipush (v := (24 : Int32)) hx hb dX0_keep_16 (by decide) ?_
    refine lv_irem hx hb dX0_keep_18 (by decide) ?_
    refine p_X0_16 hB hz k_z dX0_keep_19 (fun H locs hz => ?_)
    refine lv_aload_n hx hb dX0_keep_22 rfl (lv_at hl 0 rfl) ?_
    refine lv_dup hx hb dX0_keep_23 rfl ?_
    refine g_X0_20 hB hz k_z dX0_keep_24 ?_
    refine lv_iconst (v := (1 : Int32)) hx hb dX0_keep_27 (by decide) ?_
    refine lv_isub hx hb dX0_keep_28 ?_
    refine p_X0_20 hB hz k_z dX0_keep_29 (fun H locs hz => ?_)
    exact w_X0_keep_32 hB k_z  _ _ _ _ _ _ _ _ _ _  hE hz (lv_sub hl [0, 1, 2, 3, 4, 5, 6] rfl)
theorem c_X0_keep (l : Launch) (g : GP) {z : Nat} (k_z : KD LX z 0) {x1 : Int32} {x2 : Int32} {x3 : Int32} {x4 : Int32} {x5 : Int32} {x6 : Int32} {V : Mem} {o : Mem} (hE : f_X0_keep z x1 x2 x3 x4 x5 x6 V = some o) : CT l g LX yX0_keep cX0_keep 8 none rm_X0_keep [.ref (ad g z), .int x1, .int x2, .int x3, .int x4, .int x5, .int x6] V none o := by
  refine ct_of (by decide) (Nat.le_of_ble_eq_true rfl) ?_
  intro p e s m args below meth c ls hB hz hl
  exact w_X0_keep hB k_z _ _ _ _ _ _ _ _ _ _  hE hz hl
def rm_X0_undoLatest : Room := { frames := 4, cells := 0, slots := 0, locals := 173 }
theorem i_X0_23 {p : Program} {l : Launch} {e : Env} {R : Room} {s : State} {m : MethodId} {args : Array Value} {below : List Frame} {meth : Method} {c : Code} {H : Heap} {locs : List Loc} {Q : State → Prop} {cc : ByteArray} {pc : Nat} {ls : Array Slot} {rest : List Value} {g : GP} {V : Mem} {nL : Nat} {ret : Option FieldType} (hB : BX p s m args meth c g LX cc nL RX0 ret) (hz : OK g LX V s H locs) {i : Nat} (hk : KD LX i 2) {a0 : Int32} {V1 : Mem} (hM : CT l g LX yX3_remove cX3_remove 2 none rm_X3_remove [.ref (ad g i), .int a0] V none V1) (hR : rm_X3_remove.frames + 1 ≤ R.frames ∧ 8 + (2 + 11) + rm_X3_remove.locals ≤ R.locals) (hsz : ls.size = nL) (hrest : (rest.map fun v => v.category).sum ≤ 8) (hdg : decode cc pc = .ok (.invokevirtual 23, 3)) (kk : ∀ (H1 : Heap) (locs1 : List Loc), OK g LX V1 s H1 locs1 → W p l e R s m args below meth c H1 locs1 0 0 Q (F0 m (pc + 3) ls (rest))) : W p l e R s m args below meth c H locs 0 0 Q (F0 m pc ls (.int a0 :: .ref (ad g i) :: rest)) :=
  x_cv (As := [.int a0]) (n := 1) (T := TX3) (N := 7) hB hz hM hk rfl rfl rfl rfl kw_409 kw_64 kw_406 kw_407 kw_408 (by decide +kernel) rfl hR hsz hrest hdg kk
theorem i_X0_29 {p : Program} {l : Launch} {e : Env} {R : Room} {s : State} {m : MethodId} {args : Array Value} {below : List Frame} {meth : Method} {c : Code} {H : Heap} {locs : List Loc} {Q : State → Prop} {cc : ByteArray} {pc : Nat} {ls : Array Slot} {rest : List Value} {g : GP} {V : Mem} {nL : Nat} {ret : Option FieldType} (hB : BX p s m args meth c g LX cc nL RX0 ret) (hz : OK g LX V s H locs) {i : Nat} (hk : KD LX i 2) {a0 : Int32} {a1 : Int32} {a2 : Int32} {a3 : Int32} {V1 : Mem} (hM : CT l g LX yX3_insert cX3_insert 5 none rm_X3_insert [.ref (ad g i), .int a0, .int a1, .int a2, .int a3] V none V1) (hR : rm_X3_insert.frames + 1 ≤ R.frames ∧ 8 + (5 + 11) + rm_X3_insert.locals ≤ R.locals) (hsz : ls.size = nL) (hrest : (rest.map fun v => v.category).sum ≤ 8) (hdg : decode cc pc = .ok (.invokevirtual 29, 3)) (kk : ∀ (H1 : Heap) (locs1 : List Loc), OK g LX V1 s H1 locs1 → W p l e R s m args below meth c H1 locs1 0 0 Q (F0 m (pc + 3) ls (rest))) : W p l e R s m args below meth c H locs 0 0 Q (F0 m pc ls (.int a3 :: .int a2 :: .int a1 :: .int a0 :: .ref (ad g i) :: rest)) :=
  x_cv (As := [.int a0, .int a1, .int a2, .int a3]) (n := 4) (T := TX3) (N := 7) hB hz hM hk rfl rfl rfl rfl kw_367 kw_64 kw_410 kw_365 kw_366 (by decide +kernel) rfl hR hsz hrest hdg kk
theorem i_X0_33 {p : Program} {l : Launch} {e : Env} {R : Room} {s : State} {m : MethodId} {args : Array Value} {below : List Frame} {meth : Method} {c : Code} {H : Heap} {locs : List Loc} {Q : State → Prop} {cc : ByteArray} {pc : Nat} {ls : Array Slot} {rest : List Value} {g : GP} {V : Mem} {nL : Nat} {ret : Option FieldType} (hB : BX p s m args meth c g LX cc nL RX0 ret) (hz : OK g LX V s H locs) {i : Nat} (hk : KD LX i 2) {a0 : Int32} {a1 : Int32} {V1 : Mem} (hM : CT l g LX yX3_shift cX3_shift 6 none rm_X3_shift [.ref (ad g i), .int a0, .int a1] V none V1) (hR : rm_X3_shift.frames + 1 ≤ R.frames ∧ 8 + (6 + 11) + rm_X3_shift.locals ≤ R.locals) (hsz : ls.size = nL) (hrest : (rest.map fun v => v.category).sum ≤ 8) (hdg : decode cc pc = .ok (.invokevirtual 33, 3)) (kk : ∀ (H1 : Heap) (locs1 : List Loc), OK g LX V1 s H1 locs1 → W p l e R s m args below meth c H1 locs1 0 0 Q (F0 m (pc + 3) ls (rest))) : W p l e R s m args below meth c H locs 0 0 Q (F0 m pc ls (.int a1 :: .int a0 :: .ref (ad g i) :: rest)) :=
  x_cv (As := [.int a0, .int a1]) (n := 2) (T := TX3) (N := 7) hB hz hM hk rfl rfl rfl rfl kw_414 kw_64 kw_411 kw_412 kw_413 (by decide +kernel) rfl hR hsz hrest hdg kk
theorem i_X0_37 {p : Program} {l : Launch} {e : Env} {R : Room} {s : State} {m : MethodId} {args : Array Value} {below : List Frame} {meth : Method} {c : Code} {H : Heap} {locs : List Loc} {Q : State → Prop} {cc : ByteArray} {pc : Nat} {ls : Array Slot} {rest : List Value} {g : GP} {V : Mem} {nL : Nat} {ret : Option FieldType} (hB : BX p s m args meth c g LX cc nL RX0 ret) (hz : OK g LX V s H locs) {i : Nat} (hk : KD LX i 2) {a0 : Int32} {a1 : Int32} {a2 : Int32} {a3 : Int32} {V1 : Mem} (hM : CT l g LX yX3_alter cX3_alter 5 none rm_X3_alter [.ref (ad g i), .int a0, .int a1, .int a2, .int a3] V none V1) (hR : rm_X3_alter.frames + 1 ≤ R.frames ∧ 8 + (5 + 11) + rm_X3_alter.locals ≤ R.locals) (hsz : ls.size = nL) (hrest : (rest.map fun v => v.category).sum ≤ 8) (hdg : decode cc pc = .ok (.invokevirtual 37, 3)) (kk : ∀ (H1 : Heap) (locs1 : List Loc), OK g LX V1 s H1 locs1 → W p l e R s m args below meth c H1 locs1 0 0 Q (F0 m (pc + 3) ls (rest))) : W p l e R s m args below meth c H locs 0 0 Q (F0 m pc ls (.int a3 :: .int a2 :: .int a1 :: .int a0 :: .ref (ad g i) :: rest)) :=
  x_cv (As := [.int a0, .int a1, .int a2, .int a3]) (n := 4) (T := TX3) (N := 7) hB hz hM hk rfl rfl rfl rfl kw_376 kw_64 kw_417 kw_374 kw_375 (by decide +kernel) rfl hR hsz hrest hdg kk
set_option maxHeartbeats 4000000 in
set_option maxRecDepth 100000 in
theorem w_X0_undoLatest {p : Program} {l : Launch} {e : Env} {s : State} {m : MethodId} {args : Array Value} {below : List Frame} {meth : Method} {c : Code} {g : GP} (hB : BX p s m args meth c g LX cX0_undoLatest 4 RX0 none) {z : Nat} (k_z : KD LX z 0) {o : Mem} : ∀ (r1 : Nat) (V : Mem) (H : Heap) (locs : List Loc) (ls : Array Slot), KD LX r1 2 → f_X0_undoLatest z r1 V = some o → OK g LX V s H locs → lv_has ls 4 [(0, .ref (ad g z)), (1, .ref (ad g r1))] → W p l e rm_X0_undoLatest s m args below meth c H locs 0 0 (MQ below (QQ g LX none o) args s 0 0 (Ar g LX)) (F0 m 0 ls []) := by
  obtain ⟨hx, hb, hml, hown, hT, hr, hlk, hK, hJ, hZ, hN⟩ := id hB
  intro r1 V H locs ls k_r1 hE hz hl
  unfold f_X0_undoLatest at hE
  refine lv_aload_n hx hb dX0_undoLatest_0 rfl (lv_at hl 0 rfl) ?_
  refine g_X0_20 hB hz k_z dX0_undoLatest_1 ?_
  refine lv_if_ne (tgt := 8) hx hb dX0_undoLatest_4 (by decide) (fun c4 => ?_) (fun c4 => ?_)
  · have hE := (if_neg c4).symm.trans hE
    refine lv_aload_n hx hb dX0_undoLatest_8 rfl (lv_at hl 0 rfl) ?_
    refine lv_dup hx hb dX0_undoLatest_9 rfl ?_
    refine g_X0_20 hB hz k_z dX0_undoLatest_10 ?_
    refine lv_iconst (v := (1 : Int32)) hx hb dX0_undoLatest_13 (by decide) ?_
    refine lv_isub hx hb dX0_undoLatest_14 ?_
    refine p_X0_20 hB hz k_z dX0_undoLatest_15 (fun H locs hz => ?_)
    refine lv_aload_n hx hb dX0_undoLatest_18 rfl (lv_at hl 0 rfl) ?_
    refine g_X0_11 hB hz k_z dX0_undoLatest_19 ?_
    refine lv_aload_n hx hb dX0_undoLatest_22 rfl (lv_at hl 0 rfl) ?_
    refine g_X0_16 hB hz k_z dX0_undoLatest_23 ?_
    refine lv_aload_n hx hb dX0_undoLatest_26 rfl (lv_at hl 0 rfl) ?_
    refine g_X0_20 hB hz k_z dX0_undoLatest_27 ?_
    refine lv_iadd hx hb dX0_undoLatest_30 ?_
    refine lv_bipush (v := (24 : Int32)) hx hb dX0_undoLatest_31 (by decide) ?_
    refine lv_irem hx hb dX0_undoLatest_33 (by decide) ?_
    obtain ⟨hi34, hE⟩ := x_chk hE
    refine x_aalK hB hz (kd_ac k_z) hi34 dX0_undoLatest_34 ?_
    refine lv_astore_n (lv' := [(2, .ref (ad g ((z + 1) + 1 + (((((st V z 2 ((V z 2) - (1 : Int32))) z 1) + ((st V z 2 ((V z 2) - (1 : Int32))) z 2)) - ((((st V z 2 ((V z 2) - (1 : Int32))) z 1) + ((st V z 2 ((V z 2) - (1 : Int32))) z 2)) / (24 : Int32)) * (24 : Int32))).toNatClampNeg))), (0, .ref (ad g z)), (1, .ref (ad g r1))]) hx hb dX0_undoLatest_35 rfl hl (by decide) rfl (fun ls hl => ?_)
    refine lv_aload_n hx hb dX0_undoLatest_36 rfl (lv_at hl 0 rfl) ?_
    refine lv_iconst (v := (1 : Int32)) hx hb dX0_undoLatest_37 (by decide) ?_
    obtain ⟨hi38, hE⟩ := x_chk hE
    refine x_iald (n := 6) hB hz (kd_kp (kd_ac k_z) hi34) hi38 dX0_undoLatest_38 ?_
    refine lv_istore_n (lv' := [(3, .int ((st V z 2 ((V z 2) - (1 : Int32))) ((z + 1) + 1 + (((((st V z 2 ((V z 2) - (1 : Int32))) z 1) + ((st V z 2 ((V z 2) - (1 : Int32))) z 2)) - ((((st V z 2 ((V z 2) - (1 : Int32))) z 1) + ((st V z 2 ((V z 2) - (1 : Int32))) z 2)) / (24 : Int32)) * (24 : Int32))).toNatClampNeg) ((1 : Int32)).toNatClampNeg)), (2, .ref (ad g ((z + 1) + 1 + (((((st V z 2 ((V z 2) - (1 : Int32))) z 1) + ((st V z 2 ((V z 2) - (1 : Int32))) z 2)) - ((((st V z 2 ((V z 2) - (1 : Int32))) z 1) + ((st V z 2 ((V z 2) - (1 : Int32))) z 2)) / (24 : Int32)) * (24 : Int32))).toNatClampNeg))), (0, .ref (ad g z)), (1, .ref (ad g r1))]) hx hb dX0_undoLatest_39 rfl hl (by decide) rfl (fun ls hl => ?_)
    refine lv_aload_n hx hb dX0_undoLatest_40 rfl (lv_at hl 1 rfl) ?_
    refine lv_iconst (v := (0 : Int32)) hx hb dX0_undoLatest_41 (by decide) ?_
    obtain ⟨hi42, hE⟩ := x_chk hE
    refine x_iald (n := 6) hB hz (kd_kp (kd_ac k_z) hi34) hi42 dX0_undoLatest_42 ?_
    by_cases c43_0 : ((st V z 2 ((V z 2) - (1 : Int32))) ((z + 1) + 1 + (((((st V z 2 ((V z 2) - (1 : Int32))) z 1) + ((st V z 2 ((V z 2) - (1 : Int32))) z 2)) - ((((st V z 2 ((V z 2) - (1 : Int32))) z 1) + ((st V z 2 ((V z 2) - (1 : Int32))) z 2)) / (24 : Int32)) * (24 : Int32))).toNatClampNeg) ((0 : Int32)).toNatClampNeg) = (0 : Int32)
    · have hE := (if_pos c43_0).symm.trans hE
      refine lv_tableIn (tgt := 72) hx hb dX0_undoLatest_43 (by rw [c43_0]; decide) (by rw [c43_0]; decide) (by rw [c43_0]; rfl) (by decide) ?_
      refine lv_aload_n hx hb dX0_undoLatest_72 rfl (lv_at hl 3 rfl) ?_
      refine lv_iload_n hx hb dX0_undoLatest_73 rfl (lv_at hl 0 rfl) ?_
      obtain ⟨q74, hq74, hE⟩ := x_bind hE
      refine i_X0_23 hB hz k_r1 (c_X3_remove l g k_r1 hq74) ⟨(Nat.le_of_ble_eq_true rfl), (Nat.le_of_ble_eq_true rfl)⟩ hl.1 (Nat.le_of_ble_eq_true rfl) dX0_undoLatest_74 (fun H locs hz => ?_)
      refine lv_goto (tgt := 134) hx hb dX0_undoLatest_77 (by decide) ?_
      exact x_vret hB hz hE dX0_undoLatest_134
    have hE := (if_neg c43_0).symm.trans hE
    by_cases c43_1 : ((st V z 2 ((V z 2) - (1 : Int32))) ((z + 1) + 1 + (((((st V z 2 ((V z 2) - (1 : Int32))) z 1) + ((st V z 2 ((V z 2) - (1 : Int32))) z 2)) - ((((st V z 2 ((V z 2) - (1 : Int32))) z 1) + ((st V z 2 ((V z 2) - (1 : Int32))) z 2)) / (24 : Int32)) * (24 : Int32))).toNatClampNeg) ((0 : Int32)).toNatClampNeg) = (1 : Int32)
    · have hE := (if_pos c43_1).symm.trans hE
      refine lv_tableIn (tgt := 80) hx hb dX0_undoLatest_43 (by rw [c43_1]; decide) (by rw [c43_1]; decide) (by rw [c43_1]; rfl) (by decide) ?_
      refine lv_aload_n hx hb dX0_undoLatest_80 rfl (lv_at hl 3 rfl) ?_
      refine lv_iload_n hx hb dX0_undoLatest_81 rfl (lv_at hl 0 rfl) ?_
      refine lv_aload_n hx hb dX0_undoLatest_82 rfl (lv_at hl 1 rfl) ?_
      refine lv_iconst (v := (3 : Int32)) hx hb dX0_undoLatest_83 (by decide) ?_
      obtain ⟨hi84, hE⟩ := x_chk hE
      refine x_iald (n := 6) hB hz (kd_kp (kd_ac k_z) hi34) hi84 dX0_undoLatest_84 ?_
      refine lv_aload_n hx hb dX0_undoLatest_85 rfl (lv_at hl 1 rfl) ?_
      refine lv_iconst (v := (4 : Int32)) hx hb dX0_undoLatest_86 (by decide) ?_
      obtain ⟨hi87, hE⟩ := x_chk hE
      refine x_iald (n := 6) hB hz (kd_kp (kd_ac k_z) hi34) hi87 dX0_undoLatest_87 ?_
      refine lv_aload_n hx hb dX0_undoLatest_88 rfl (lv_at hl 1 rfl) ?_
      refine lv_iconst (v := (5 : Int32)) hx hb dX0_undoLatest_89 (by decide) ?_
      obtain ⟨hi90, hE⟩ := x_chk hE
      refine x_iald (n := 6) hB hz (kd_kp (kd_ac k_z) hi34) hi90 dX0_undoLatest_90 ?_
      obtain ⟨q91, hq91, hE⟩ := x_bind hE
      refine i_X0_29 hB hz k_r1 (c_X3_insert l g k_r1 hq91) ⟨(Nat.le_of_ble_eq_true rfl), (Nat.le_of_ble_eq_true rfl)⟩ hl.1 (Nat.le_of_ble_eq_true rfl) dX0_undoLatest_91 (fun H locs hz => ?_)
      refine lv_goto (tgt := 134) hx hb dX0_undoLatest_94 (by decide) ?_
      exact x_vret hB hz hE dX0_undoLatest_134
    have hE := (if_neg c43_1).symm.trans hE
    by_cases c43_2 : ((st V z 2 ((V z 2) - (1 : Int32))) ((z + 1) + 1 + (((((st V z 2 ((V z 2) - (1 : Int32))) z 1) + ((st V z 2 ((V z 2) - (1 : Int32))) z 2)) - ((((st V z 2 ((V z 2) - (1 : Int32))) z 1) + ((st V z 2 ((V z 2) - (1 : Int32))) z 2)) / (24 : Int32)) * (24 : Int32))).toNatClampNeg) ((0 : Int32)).toNatClampNeg) = (2 : Int32)
    · have hE := (if_pos c43_2).symm.trans hE
      refine lv_tableIn (tgt := 97) hx hb dX0_undoLatest_43 (by rw [c43_2]; decide) (by rw [c43_2]; decide) (by rw [c43_2]; rfl) (by decide) ?_
      refine lv_aload_n hx hb dX0_undoLatest_97 rfl (lv_at hl 3 rfl) ?_
      refine lv_aload_n hx hb dX0_undoLatest_98 rfl (lv_at hl 1 rfl) ?_
      refine lv_iconst (v := (2 : Int32)) hx hb dX0_undoLatest_99 (by decide) ?_
      obtain ⟨hi100, hE⟩ := x_chk hE
      refine x_iald (n := 6) hB hz (kd_kp (kd_ac k_z) hi34) hi100 dX0_undoLatest_100 ?_
      refine lv_iload_n hx hb dX0_undoLatest_101 rfl (lv_at hl 0 rfl) ?_
      obtain ⟨q102, hq102, hE⟩ := x_bind hE
      refine i_X0_33 hB hz k_r1 (c_X3_shift l g k_r1 hq102) ⟨(Nat.le_of_ble_eq_true rfl), (Nat.le_of_ble_eq_true rfl)⟩ hl.1 (Nat.le_of_ble_eq_true rfl) dX0_undoLatest_102 (fun H locs hz => ?_)
      refine lv_goto (tgt := 134) hx hb dX0_undoLatest_105 (by decide) ?_
      exact x_vret hB hz hE dX0_undoLatest_134
    have hE := (if_neg c43_2).symm.trans hE
    by_cases c43_3 : ((st V z 2 ((V z 2) - (1 : Int32))) ((z + 1) + 1 + (((((st V z 2 ((V z 2) - (1 : Int32))) z 1) + ((st V z 2 ((V z 2) - (1 : Int32))) z 2)) - ((((st V z 2 ((V z 2) - (1 : Int32))) z 1) + ((st V z 2 ((V z 2) - (1 : Int32))) z 2)) / (24 : Int32)) * (24 : Int32))).toNatClampNeg) ((0 : Int32)).toNatClampNeg) = (3 : Int32)
    · have hE := (if_pos c43_3).symm.trans hE
      refine lv_tableIn (tgt := 108) hx hb dX0_undoLatest_43 (by rw [c43_3]; decide) (by rw [c43_3]; decide) (by rw [c43_3]; rfl) (by decide) ?_
      refine lv_aload_n hx hb dX0_undoLatest_108 rfl (lv_at hl 3 rfl) ?_
      refine lv_iload_n hx hb dX0_undoLatest_109 rfl (lv_at hl 0 rfl) ?_
      refine lv_aload_n hx hb dX0_undoLatest_110 rfl (lv_at hl 1 rfl) ?_
      refine lv_iconst (v := (3 : Int32)) hx hb dX0_undoLatest_111 (by decide) ?_
      obtain ⟨hi112, hE⟩ := x_chk hE
      refine x_iald (n := 6) hB hz (kd_kp (kd_ac k_z) hi34) hi112 dX0_undoLatest_112 ?_
      refine lv_aload_n hx hb dX0_undoLatest_113 rfl (lv_at hl 1 rfl) ?_
      refine lv_iconst (v := (4 : Int32)) hx hb dX0_undoLatest_114 (by decide) ?_
      obtain ⟨hi115, hE⟩ := x_chk hE
      refine x_iald (n := 6) hB hz (kd_kp (kd_ac k_z) hi34) hi115 dX0_undoLatest_115 ?_
      refine lv_aload_n hx hb dX0_undoLatest_116 rfl (lv_at hl 1 rfl) ?_
      refine lv_iconst (v := (5 : Int32)) hx hb dX0_undoLatest_117 (by decide) ?_
      obtain ⟨hi118, hE⟩ := x_chk hE
      refine x_iald (n := 6) hB hz (kd_kp (kd_ac k_z) hi34) hi118 dX0_undoLatest_118 ?_
      obtain ⟨q119, hq119, hE⟩ := x_bind hE
      refine i_X0_37 hB hz k_r1 (c_X3_alter l g k_r1 hq119) ⟨(Nat.le_of_ble_eq_true rfl), (Nat.le_of_ble_eq_true rfl)⟩ hl.1 (Nat.le_of_ble_eq_true rfl) dX0_undoLatest_119 (fun H locs hz => ?_)
      refine lv_goto (tgt := 134) hx hb dX0_undoLatest_122 (by decide) ?_
      exact x_vret hB hz hE dX0_undoLatest_134
    have hE := (if_neg c43_3).symm.trans hE
    have nc43_0 := x_nei c43_0 (k := 0) (by decide)
    have nc43_1 := x_nei c43_1 (k := 1) (by decide)
    have nc43_2 := x_nei c43_2 (k := 2) (by decide)
    have nc43_3 := x_nei c43_3 (k := 3) (by decide)
    refine lv_tableOut (tgt := 125) hx hb dX0_undoLatest_43 (by omega) (by decide) ?_
    refine lv_aload_n hx hb dX0_undoLatest_125 rfl (lv_at hl 3 rfl) ?_
    refine g_X0_40 hB hz k_r1 dX0_undoLatest_126 ?_
    refine lv_iload_n hx hb dX0_undoLatest_129 rfl (lv_at hl 0 rfl) ?_
    refine lv_aload_n hx hb dX0_undoLatest_130 rfl (lv_at hl 1 rfl) ?_
    refine lv_iconst (v := (2 : Int32)) hx hb dX0_undoLatest_131 (by decide) ?_
    obtain ⟨hi132, hE⟩ := x_chk hE
    refine x_iald (n := 6) hB hz (kd_kp (kd_ac k_z) hi34) hi132 dX0_undoLatest_132 ?_
    obtain ⟨hi133, hE⟩ := x_chk hE
    refine x_iast (n := 3) hB hz (kd_sh k_r1).1 hi133 dX0_undoLatest_133 (fun H locs hz => ?_)
    exact x_vret hB hz hE dX0_undoLatest_134
  · have hE := (if_pos c4).symm.trans hE
    exact x_vret hB hz hE dX0_undoLatest_7
theorem c_X0_undoLatest (l : Launch) (g : GP) {z : Nat} (k_z : KD LX z 0) {r1 : Nat} (k_r1 : KD LX r1 2) {V : Mem} {o : Mem} (hE : f_X0_undoLatest z r1 V = some o) : CT l g LX yX0_undoLatest cX0_undoLatest 4 none rm_X0_undoLatest [.ref (ad g z), .ref (ad g r1)] V none o := by
  refine ct_of (by decide) (Nat.le_of_ble_eq_true rfl) ?_
  intro p e s m args below meth c ls hB hz hl
  exact w_X0_undoLatest hB k_z _ _ _ _ _ k_r1 hE hz hl

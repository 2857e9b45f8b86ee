def rm_X6_isTold : Room := { frames := 2, cells := 0, slots := 0, locals := 42 }
theorem i_X6_189 {p : Program} {l : Launch} {e : Env} {R : Room} {s : State} {m : MethodId} {args : Array Value} {below : List Frame} {meth : Method} {c : Code} {H : Heap} {locs : List Loc} {Q : State → Prop} {cc : ByteArray} {pc : Nat} {ls : Array Slot} {rest : List Value} {g : GP} {V : Mem} {nL : Nat} {ret : Option FieldType} (hB : BX p s m args meth c g LX cc nL RX6 ret) (hz : OK g LX V s H locs) {a0 : Int32} {r : Int32} {V1 : Mem} (hM : CT l g LX yX6_isLevel cX6_isLevel 1 (some .boolean) rm_X6_isLevel [.int a0] V (some (.int r)) V1) (hR : rm_X6_isLevel.frames + 1 ≤ R.frames ∧ 8 + (1 + 11) + rm_X6_isLevel.locals ≤ R.locals) (hsz : ls.size = nL) (hrest : (rest.map fun v => v.category).sum ≤ 8) (hdg : decode cc pc = .ok (.invokestatic 189, 3)) (kk : ∀ (H1 : Heap) (locs1 : List Loc), OK g LX V1 s H1 locs1 → W p l e R s m args below meth c H1 locs1 0 0 Q (F0 m (pc + 3) ls (.int r :: rest))) : W p l e R s m args below meth c H locs 0 0 Q (F0 m pc ls (.int a0 :: rest)) :=
  x_cs (As := [.int a0]) (n := 1) hB hz hM rfl rfl kw_431 kw_62 kw_429 kw_430 (by decide +kernel) rfl hR hsz hrest hdg kk
set_option maxHeartbeats 4000000 in
set_option maxRecDepth 100000 in
theorem w_X6_isTold {p : Program} {l : Launch} {e : Env} {s : State} {m : MethodId} {args : Array Value} {below : List Frame} {meth : Method} {c : Code} {g : GP} (hB : BX p s m args meth c g LX cX6_isTold 3 RX6 (some .boolean)) {o : Int32 × Mem} : ∀ (x0 : Int32) (x1 : Int32) (x2 : Int32) (V : Mem) (H : Heap) (locs : List Loc) (ls : Array Slot), f_X6_isTold x0 x1 x2 V = some o → OK g LX V s H locs → lv_has ls 3 [(0, .int x0), (1, .int x1), (2, .int x2)] → W p l e rm_X6_isTold s m args below meth c H locs 0 0 (MQ below (QQ g LX (some (.int o.1)) o.2) args s 0 0 (Ar g LX)) (F0 m 0 ls []) := by
  obtain ⟨hx, hb, hml, hown, hT, hr, hlk, hK, hJ, hZ, hN⟩ := id hB
  intro x0 x1 x2 V H locs ls hE hz hl
  unfold f_X6_isTold at hE
  refine lv_iload_n hx hb dX6_isTold_0 rfl (lv_at hl 0 rfl) ?_
  refine lv_iconst (v := (1 : Int32)) hx hb dX6_isTold_1 (by decide) ?_
  refine lv_iconst (v := (5 : Int32)) hx hb dX6_isTold_2 (by decide) ?_
  obtain ⟨q3, hq3, hE⟩ := x_bind hE
  refine i_X6_79 hB hz (c_X6_isBetween l g  hq3) ⟨(Nat.le_of_ble_eq_true rfl), (Nat.le_of_ble_eq_true rfl)⟩ hl.1 (Nat.le_of_ble_eq_true rfl) dX6_isTold_3 (fun H locs hz => ?_)
  refine lv_if_eq (tgt := 30) hx hb dX6_isTold_6 (by decide) (fun c6 => ?_) (fun c6 => ?_)
  · have hE := (if_pos c6).symm.trans hE
    refine lv_iconst (v := (0 : Int32)) hx hb dX6_isTold_30 (by decide) ?_
    exact x_zret hB hz hE (by decide) dX6_isTold_31
  · have hE := (if_neg c6).symm.trans hE
    refine lv_iload_n hx hb dX6_isTold_9 rfl (lv_at hl 1 rfl) ?_
    obtain ⟨q10, hq10, hE⟩ := x_bind hE
    refine i_X6_189 hB hz (c_X6_isLevel l g  hq10) ⟨(Nat.le_of_ble_eq_true rfl), (Nat.le_of_ble_eq_true rfl)⟩ hl.1 (Nat.le_of_ble_eq_true rfl) dX6_isTold_10 (fun H locs hz => ?_)
    refine lv_if_eq (tgt := 30) hx hb dX6_isTold_13 (by decide) (fun c13 => ?_) (fun c13 => ?_)
    · have hE := (if_pos c13).symm.trans hE
      refine lv_iconst (v := (0 : Int32)) hx hb dX6_isTold_30 (by decide) ?_
      exact x_zret hB hz hE (by decide) dX6_isTold_31
    · have hE := (if_neg c13).symm.trans hE
      refine lv_iload_n hx hb dX6_isTold_16 rfl (lv_at hl 2 rfl) ?_
      refine lv_iconst (v := (0 : Int32)) hx hb dX6_isTold_17 (by decide) ?_
      refine lv_bipush (v := (20 : Int32)) hx hb dX6_isTold_18 (by decide) ?_
      obtain ⟨q20, hq20, hE⟩ := x_bind hE
      refine i_X6_79 hB hz (c_X6_isBetween l g  hq20) ⟨(Nat.le_of_ble_eq_true rfl), (Nat.le_of_ble_eq_true rfl)⟩ hl.1 (Nat.le_of_ble_eq_true rfl) dX6_isTold_20 (fun H locs hz => ?_)
      refine lv_if_eq (tgt := 30) hx hb dX6_isTold_23 (by decide) (fun c23 => ?_) (fun c23 => ?_)
      · have hE := (if_pos c23).symm.trans hE
        refine lv_iconst (v := (0 : Int32)) hx hb dX6_isTold_30 (by decide) ?_
        exact x_zret hB hz hE (by decide) dX6_isTold_31
      · have hE := (if_neg c23).symm.trans hE
        refine lv_iconst (v := (1 : Int32)) hx hb dX6_isTold_26 (by decide) ?_
        refine lv_goto (tgt := 31) hx hb dX6_isTold_27 (by decide) ?_
        exact x_zret hB hz hE (by decide) dX6_isTold_31
theorem c_X6_isTold (l : Launch) (g : GP) {x0 : Int32} {x1 : Int32} {x2 : Int32} {V : Mem} {o : Int32 × Mem} (hE : f_X6_isTold x0 x1 x2 V = some o) : CT l g LX yX6_isTold cX6_isTold 3 (some .boolean) rm_X6_isTold [.int x0, .int x1, .int x2] V (some (.int o.1)) o.2 := by
  refine ct_of (by decide) (Nat.le_of_ble_eq_true rfl) ?_
  intro p e s m args below meth c ls hB hz hl
  exact w_X6_isTold hB _ _ _ _ _ _ _  hE hz hl
def rm_X6_put : Room := { frames := 3, cells := 0, slots := 0, locals := 148 }
theorem i_X6_152 {p : Program} {l : Launch} {e : Env} {R : Room} {s : State} {m : MethodId} {args : Array Value} {below : List Frame} {meth : Method} {c : Code} {H : Heap} {locs : List Loc} {Q : State → Prop} {cc : ByteArray} {pc : Nat} {ls : Array Slot} {rest : List Value} {g : GP} {V : Mem} {nL : Nat} {ret : Option FieldType} (hB : BX p s m args meth c g LX cc nL RX6 ret) (hz : OK g LX V s H locs) {i : Nat} (hk : KD LX i 2) {r : Int32} {V1 : Mem} (hM : CT l g LX yX3_isNone cX3_isNone 1 (some .boolean) rm_X3_isNone [.ref (ad g i)] V (some (.int r)) V1) (hR : rm_X3_isNone.frames + 1 ≤ R.frames ∧ 8 + (1 + 11) + rm_X3_isNone.locals ≤ R.locals) (hsz : ls.size = nL) (hrest : (rest.map fun v => v.category).sum ≤ 8) (hdg : decode cc pc = .ok (.invokevirtual 152, 3)) (kk : ∀ (H1 : Heap) (locs1 : List Loc), OK g LX V1 s H1 locs1 → W p l e R s m args below meth c H1 locs1 0 0 Q (F0 m (pc + 3) ls (.int r :: rest))) : W p l e R s m args below meth c H locs 0 0 Q (F0 m pc ls (.ref (ad g i) :: rest)) :=
  x_cv (As := []) (n := 0) (T := TX3) (N := 7) hB hz hM hk rfl rfl rfl rfl kw_425 kw_64 kw_422 kw_423 kw_424 (by decide +kernel) rfl hR hsz hrest hdg kk
theorem i_X6_155 {p : Program} {l : Launch} {e : Env} {R : Room} {s : State} {m : MethodId} {args : Array Value} {below : List Frame} {meth : Method} {c : Code} {H : Heap} {locs : List Loc} {Q : State → Prop} {cc : ByteArray} {pc : Nat} {ls : Array Slot} {rest : List Value} {g : GP} {V : Mem} {nL : Nat} {ret : Option FieldType} (hB : BX p s m args meth c g LX cc nL RX6 ret) (hz : OK g LX V s H locs) {a0 : Int32} {a1 : Int32} {a2 : Int32} {r : Int32} {V1 : Mem} (hM : CT l g LX yX6_isTold cX6_isTold 3 (some .boolean) rm_X6_isTold [.int a0, .int a1, .int a2] V (some (.int r)) V1) (hR : rm_X6_isTold.frames + 1 ≤ R.frames ∧ 8 + (3 + 11) + rm_X6_isTold.locals ≤ R.locals) (hsz : ls.size = nL) (hrest : (rest.map fun v => v.category).sum ≤ 8) (hdg : decode cc pc = .ok (.invokestatic 155, 3)) (kk : ∀ (H1 : Heap) (locs1 : List Loc), OK g LX V1 s H1 locs1 → W p l e R s m args below meth c H1 locs1 0 0 Q (F0 m (pc + 3) ls (.int r :: rest))) : W p l e R s m args below meth c H locs 0 0 Q (F0 m pc ls (.int a2 :: .int a1 :: .int a0 :: rest)) :=
  x_cs (As := [.int a0, .int a1, .int a2]) (n := 3) hB hz hM rfl rfl kw_428 kw_62 kw_426 kw_427 (by decide +kernel) rfl hR hsz hrest hdg kk
theorem i_X6_158 {p : Program} {l : Launch} {e : Env} {R : Room} {s : State} {m : MethodId} {args : Array Value} {below : List Frame} {meth : Method} {c : Code} {H : Heap} {locs : List Loc} {Q : State → Prop} {cc : ByteArray} {pc : Nat} {ls : Array Slot} {rest : List Value} {g : GP} {V : Mem} {nL : Nat} {ret : Option FieldType} (hB : BX p s m args meth c g LX cc nL RX6 ret) (hz : OK g LX V s H locs) {i : Nat} (hk : KD LX i 2) {a0 : Int32} {a1 : Int32} {a2 : Int32} {a3 : Int32} {V1 : Mem} (hM : CT l g LX yX3_insert cX3_insert 5 none rm_X3_insert [.ref (ad g i), .int a0, .int a1, .int a2, .int a3] V none V1) (hR : rm_X3_insert.frames + 1 ≤ R.frames ∧ 8 + (5 + 11) + rm_X3_insert.locals ≤ R.locals) (hsz : ls.size = nL) (hrest : (rest.map fun v => v.category).sum ≤ 8) (hdg : decode cc pc = .ok (.invokevirtual 158, 3)) (kk : ∀ (H1 : Heap) (locs1 : List Loc), OK g LX V1 s H1 locs1 → W p l e R s m args below meth c H1 locs1 0 0 Q (F0 m (pc + 3) ls (rest))) : W p l e R s m args below meth c H locs 0 0 Q (F0 m pc ls (.int a3 :: .int a2 :: .int a1 :: .int a0 :: .ref (ad g i) :: rest)) :=
  x_cv (As := [.int a0, .int a1, .int a2, .int a3]) (n := 4) (T := TX3) (N := 7) hB hz hM hk rfl rfl rfl rfl kw_367 kw_64 kw_432 kw_365 kw_366 (by decide +kernel) rfl hR hsz hrest hdg kk
theorem i_X6_162 {p : Program} {l : Launch} {e : Env} {R : Room} {s : State} {m : MethodId} {args : Array Value} {below : List Frame} {meth : Method} {c : Code} {H : Heap} {locs : List Loc} {Q : State → Prop} {cc : ByteArray} {pc : Nat} {ls : Array Slot} {rest : List Value} {g : GP} {V : Mem} {nL : Nat} {ret : Option FieldType} (hB : BX p s m args meth c g LX cc nL RX6 ret) (hz : OK g LX V s H locs) {i : Nat} (hk : KD LX i 0) {a0 : Int32} {a1 : Int32} {a2 : Int32} {a3 : Int32} {a4 : Int32} {a5 : Int32} {V1 : Mem} (hM : CT l g LX yX0_keep cX0_keep 8 none rm_X0_keep [.ref (ad g i), .int a0, .int a1, .int a2, .int a3, .int a4, .int a5] V none V1) (hR : rm_X0_keep.frames + 1 ≤ R.frames ∧ 8 + (8 + 11) + rm_X0_keep.locals ≤ R.locals) (hsz : ls.size = nL) (hrest : (rest.map fun v => v.category).sum ≤ 8) (hdg : decode cc pc = .ok (.invokevirtual 162, 3)) (kk : ∀ (H1 : Heap) (locs1 : List Loc), OK g LX V1 s H1 locs1 → W p l e R s m args below meth c H1 locs1 0 0 Q (F0 m (pc + 3) ls (rest))) : W p l e R s m args below meth c H locs 0 0 Q (F0 m pc ls (.int a5 :: .int a4 :: .int a3 :: .int a2 :: .int a1 :: .int a0 :: .ref (ad g i) :: rest)) :=
  x_cv (As := [.int a0, .int a1, .int a2, .int a3, .int a4, .int a5]) (n := 6) (T := TX0) (N := 3) hB hz hM hk rfl rfl rfl rfl kw_436 kw_65 kw_433 kw_434 kw_435 (by decide +kernel) rfl hR hsz hrest hdg kk
set_option maxHeartbeats 4000000 in
set_option maxRecDepth 100000 in
theorem w_X6_put {p : Program} {l : Launch} {e : Env} {s : State} {m : MethodId} {args : Array Value} {below : List Frame} {meth : Method} {c : Code} {g : GP} (hB : BX p s m args meth c g LX cX6_put 5 RX6 (some .int)) {o : Int32 × Mem} : ∀ (x1 : Int32) (x2 : Int32) (x3 : Int32) (x4 : Int32) (V : Mem) (H : Heap) (locs : List Loc) (ls : Array Slot), f_X6_put x1 x2 x3 x4 V = some o → OK g LX V s H locs → lv_has ls 5 [(0, .ref (ad g 0)), (1, .int x1), (2, .int x2), (3, .int x3), (4, .int x4)] → W p l e rm_X6_put s m args below meth c H locs 0 0 (MQ below (QQ g LX (some (.int o.1)) o.2) args s 0 0 (Ar g LX)) (F0 m 0 ls []) := by
  obtain ⟨hx, hb, hml, hown, hT, hr, hlk, hK, hJ, hZ, hN⟩ := id hB
  intro x1 x2 x3 x4 V H locs ls hE hz hl
  unfold f_X6_put at hE
  refine lv_aload_n hx hb dX6_put_0 rfl (lv_at hl 0 rfl) ?_
  refine g_X6_25 hB hz kdX_0 dX6_put_1 ?_
  obtain ⟨q4, hq4, hE⟩ := x_bind hE
  refine i_X6_152 hB hz kdX_4 (c_X3_isNone l g kdX_4 hq4) ⟨(Nat.le_of_ble_eq_true rfl), (Nat.le_of_ble_eq_true rfl)⟩ hl.1 (Nat.le_of_ble_eq_true rfl) dX6_put_4 (fun H locs hz => ?_)
  refine lv_if_eq (tgt := 13) hx hb dX6_put_7 (by decide) (fun c7 => ?_) (fun c7 => ?_)
  · have hE := (if_pos c7).symm.trans hE
    refine lv_iload_n hx hb dX6_put_13 rfl (lv_at hl 1 rfl) ?_
    refine lv_iconst (v := (0 : Int32)) hx hb dX6_put_14 (by decide) ?_
    refine lv_aload_n hx hb dX6_put_15 rfl (lv_at hl 0 rfl) ?_
    refine g_X6_25 hB hz kdX_0 dX6_put_16 ?_
    refine g_X6_146 hB hz kdX_4 dX6_put_19 ?_
    obtain ⟨q22, hq22, hE⟩ := x_bind hE
    refine i_X6_79 hB hz (c_X6_isBetween l g  hq22) ⟨(Nat.le_of_ble_eq_true rfl), (Nat.le_of_ble_eq_true rfl)⟩ hl.1 (Nat.le_of_ble_eq_true rfl) dX6_put_22 (fun H locs hz => ?_)
    refine lv_if_eq (tgt := 38) hx hb dX6_put_25 (by decide) (fun c25 => ?_) (fun c25 => ?_)
    · have hE := (if_pos c25).symm.trans hE
      refine lv_ldc (v := (-1000001 : Int32)) hx hb hown (hT _ kw_264) dX6_put_38 ?_
      exact x_iret hB hz hE dX6_put_40
    · have hE := (if_neg c25).symm.trans hE
      refine lv_iload_n hx hb dX6_put_28 rfl (lv_at hl 2 rfl) ?_
      refine lv_iload_n hx hb dX6_put_29 rfl (lv_at hl 3 rfl) ?_
      refine lv_iload hx hb dX6_put_30 (lv_at hl 4 rfl) ?_
      obtain ⟨q32, hq32, hE⟩ := x_bind hE
      refine i_X6_155 hB hz (c_X6_isTold l g  hq32) ⟨(Nat.le_of_ble_eq_true rfl), (Nat.le_of_ble_eq_true rfl)⟩ hl.1 (Nat.le_of_ble_eq_true rfl) dX6_put_32 (fun H locs hz => ?_)
      refine lv_if_ne (tgt := 41) hx hb dX6_put_35 (by decide) (fun c35 => ?_) (fun c35 => ?_)
      · have hE := (if_neg c35).symm.trans hE
        refine lv_aload_n hx hb dX6_put_41 rfl (lv_at hl 0 rfl) ?_
        refine g_X6_25 hB hz kdX_0 dX6_put_42 ?_
        refine g_X6_146 hB hz kdX_4 dX6_put_45 ?_
        refine lv_bipush (v := (24 : Int32)) hx hb dX6_put_48 (by decide) ?_
        refine lv_icmp_lt (tgt := 56) hx hb dX6_put_50 (by decide) (fun c50 => ?_) (fun c50 => ?_)
        · have hE := (if_pos c50).symm.trans hE
          refine lv_aload_n hx hb dX6_put_56 rfl (lv_at hl 0 rfl) ?_
          refine g_X6_25 hB hz kdX_0 dX6_put_57 ?_
          refine lv_iload_n hx hb dX6_put_60 rfl (lv_at hl 1 rfl) ?_
          refine lv_iload_n hx hb dX6_put_61 rfl (lv_at hl 2 rfl) ?_
          refine lv_iload_n hx hb dX6_put_62 rfl (lv_at hl 3 rfl) ?_
          refine lv_iload hx hb dX6_put_63 (lv_at hl 4 rfl) ?_
          obtain ⟨q65, hq65, hE⟩ := x_bind hE
          refine i_X6_158 hB hz kdX_4 (c_X3_insert l g kdX_4 hq65) ⟨(Nat.le_of_ble_eq_true rfl), (Nat.le_of_ble_eq_true rfl)⟩ hl.1 (Nat.le_of_ble_eq_true rfl) dX6_put_65 (fun H locs hz => ?_)
          refine lv_aload_n hx hb dX6_put_68 rfl (lv_at hl 0 rfl) ?_
          refine g_X6_39 hB hz kdX_0 dX6_put_69 ?_
          refine lv_iconst (v := (0 : Int32)) hx hb dX6_put_72 (by decide) ?_
          refine lv_iload_n hx hb dX6_put_73 rfl (lv_at hl 1 rfl) ?_
          refine lv_iload_n hx hb dX6_put_74 rfl (lv_at hl 1 rfl) ?_
          refine lv_iload_n hx hb dX6_put_75 rfl (lv_at hl 2 rfl) ?_
          refine lv_iload_n hx hb dX6_put_76 rfl (lv_at hl 3 rfl) ?_
          refine lv_iload hx hb dX6_put_77 (lv_at hl 4 rfl) ?_
          obtain ⟨q79, hq79, hE⟩ := x_bind hE
          refine i_X6_162 hB hz kdX_67 (c_X0_keep l g kdX_67 hq79) ⟨(Nat.le_of_ble_eq_true rfl), (Nat.le_of_ble_eq_true rfl)⟩ hl.1 (Nat.le_of_ble_eq_true rfl) dX6_put_79 (fun H locs hz => ?_)
          refine lv_aload_n hx hb dX6_put_82 rfl (lv_at hl 0 rfl) ?_
          refine g_X6_25 hB hz kdX_0 dX6_put_83 ?_
          refine g_X6_146 hB hz kdX_4 dX6_put_86 ?_
          exact x_iret hB hz hE dX6_put_89
        · have hE := (if_neg c50).symm.trans hE
          refine lv_ldc (v := (-1000003 : Int32)) hx hb hown (hT _ kw_318) dX6_put_53 ?_
          exact x_iret hB hz hE dX6_put_55
      · have hE := (if_pos c35).symm.trans hE
        refine lv_ldc (v := (-1000001 : Int32)) hx hb hown (hT _ kw_264) dX6_put_38 ?_
        exact x_iret hB hz hE dX6_put_40
  · have hE := (if_neg c7).symm.trans hE
    refine lv_ldc (v := (-1000002 : Int32)) hx hb hown (hT _ kw_401) dX6_put_10 ?_
    exact x_iret hB hz hE dX6_put_12
theorem c_X6_put (l : Launch) (g : GP) {x1 : Int32} {x2 : Int32} {x3 : Int32} {x4 : Int32} {V : Mem} {o : Int32 × Mem} (hE : f_X6_put x1 x2 x3 x4 V = some o) : CT l g LX yX6_put cX6_put 5 (some .int) rm_X6_put [.ref (ad g 0), .int x1, .int x2, .int x3, .int x4] V (some (.int o.1)) o.2 := by
  refine ct_of (by decide) (Nat.le_of_ble_eq_true rfl) ?_
  intro p e s m args below meth c ls hB hz hl
  exact w_X6_put hB _ _ _ _ _ _ _ _  hE hz hl
def rm_X6_keepAct : Room := { frames := 1, cells := 0, slots := 0, locals := 27 }
set_option maxHeartbeats 4000000 in
set_option maxRecDepth 100000 in
theorem w_X6_keepAct {p : Program} {l : Launch} {e : Env} {s : State} {m : MethodId} {args : Array Value} {below : List Frame} {meth : Method} {c : Code} {g : GP} (hB : BX p s m args meth c g LX cX6_keepAct 4 RX6 none) {o : Mem} : ∀ (x1 : Int32) (x2 : Int32) (x3 : Int32) (V : Mem) (H : Heap) (locs : List Loc) (ls : Array Slot), f_X6_keepAct x1 x2 x3 V = some o → OK g LX V s H locs → lv_has ls 4 [(0, .ref (ad g 0)), (1, .int x1), (2, .int x2), (3, .int x3)] → W p l e rm_X6_keepAct s m args below meth c H locs 0 0 (MQ below (QQ g LX none o) args s 0 0 (Ar g LX)) (F0 m 0 ls []) := by
  obtain ⟨hx, hb, hml, hown, hT, hr, hlk, hK, hJ, hZ, hN⟩ := id hB
  intro x1 x2 x3 V H locs ls hE hz hl
  unfold f_X6_keepAct at hE
  refine lv_aload_n hx hb dX6_keepAct_0 rfl (lv_at hl 0 rfl) ?_
  refine g_X6_39 hB hz kdX_0 dX6_keepAct_1 ?_
  refine lv_iload_n hx hb dX6_keepAct_4 rfl (lv_at hl 1 rfl) ?_
  refine lv_iload_n hx hb dX6_keepAct_5 rfl (lv_at hl 2 rfl) ?_
  refine lv_iload_n hx hb dX6_keepAct_6 rfl (lv_at hl 3 rfl) ?_
  refine lv_aload_n hx hb dX6_keepAct_7 rfl (lv_at hl 0 rfl) ?_
  refine g_X6_25 hB hz kdX_0 dX6_keepAct_8 ?_
  refine g_X6_183 hB hz kdX_4 dX6_keepAct_11 ?_
  refine lv_iload_n hx hb dX6_keepAct_14 rfl (lv_at hl 2 rfl) ?_
  obtain ⟨hi15, hE⟩ := x_chk hE
  refine x_iald (n := 24) hB hz kdX_6 hi15 dX6_keepAct_15 ?_
  refine lv_aload_n hx hb dX6_keepAct_16 rfl (lv_at hl 0 rfl) ?_
  refine g_X6_25 hB hz kdX_0 dX6_keepAct_17 ?_
  refine g_X6_180 hB hz kdX_4 dX6_keepAct_20 ?_
  refine lv_iload_n hx hb dX6_keepAct_23 rfl (lv_at hl 2 rfl) ?_
  obtain ⟨hi24, hE⟩ := x_chk hE
  refine x_iald (n := 24) hB hz kdX_7 hi24 dX6_keepAct_24 ?_
  refine lv_aload_n hx hb dX6_keepAct_25 rfl (lv_at hl 0 rfl) ?_
  refine g_X6_25 hB hz kdX_0 dX6_keepAct_26 ?_
  refine g_X6_195 hB hz kdX_4 dX6_keepAct_29 ?_
  refine lv_iload_n hx hb dX6_keepAct_32 rfl (lv_at hl 2 rfl) ?_
  obtain ⟨hi33, hE⟩ := x_chk hE
  refine x_iald (n := 24) hB hz kdX_8 hi33 dX6_keepAct_33 ?_
  obtain ⟨q34, hq34, hE⟩ := x_bind hE
  refine i_X6_162 hB hz kdX_67 (c_X0_keep l g kdX_67 hq34) ⟨(Nat.le_of_ble_eq_true rfl), (Nat.le_of_ble_eq_true rfl)⟩ hl.1 (Nat.le_of_ble_eq_true rfl) dX6_keepAct_34 (fun H locs hz => ?_)
  exact x_vret hB hz hE dX6_keepAct_37
theorem c_X6_keepAct (l : Launch) (g : GP) {x1 : Int32} {x2 : Int32} {x3 : Int32} {V : Mem} {o : Mem} (hE : f_X6_keepAct x1 x2 x3 V = some o) : CT l g LX yX6_keepAct cX6_keepAct 4 none rm_X6_keepAct [.ref (ad g 0), .int x1, .int x2, .int x3] V none o := by
  refine ct_of (by decide) (Nat.le_of_ble_eq_true rfl) ?_
  intro p e s m args below meth c ls hB hz hl
  exact w_X6_keepAct hB _ _ _ _ _ _ _  hE hz hl
def rm_X6_take : Room := { frames := 3, cells := 0, slots := 0, locals := 144 }
theorem i_X6_166 {p : Program} {l : Launch} {e : Env} {R : Room} {s : State} {m : MethodId} {args : Array Value} {below : List Frame} {meth : Method} {c : Code} {H : Heap} {locs : List Loc} {Q : State → Prop} {cc : ByteArray} {pc : Nat} {ls : Array Slot} {rest : List Value} {g : GP} {V : Mem} {nL : Nat} {ret : Option FieldType} (hB : BX p s m args meth c g LX cc nL RX6 ret) (hz : OK g LX V s H locs) {i : Nat} (hk : KD LX i 2) {a0 : Int32} {r : Int32} {V1 : Mem} (hM : CT l g LX yX3_has cX3_has 2 (some .boolean) rm_X3_has [.ref (ad g i), .int a0] V (some (.int r)) V1) (hR : rm_X3_has.frames + 1 ≤ R.frames ∧ 8 + (2 + 11) + rm_X3_has.locals ≤ R.locals) (hsz : ls.size = nL) (hrest : (rest.map fun v => v.category).sum ≤ 8) (hdg : decode cc pc = .ok (.invokevirtual 166, 3)) (kk : ∀ (H1 : Heap) (locs1 : List Loc), OK g LX V1 s H1 locs1 → W p l e R s m args below meth c H1 locs1 0 0 Q (F0 m (pc + 3) ls (.int r :: rest))) : W p l e R s m args below meth c H locs 0 0 Q (F0 m pc ls (.int a0 :: .ref (ad g i) :: rest)) :=
  x_cv (As := [.int a0]) (n := 1) (T := TX3) (N := 7) hB hz hM hk rfl rfl rfl rfl kw_380 kw_64 kw_441 kw_378 kw_379 (by decide +kernel) rfl hR hsz hrest hdg kk
theorem i_X6_169 {p : Program} {l : Launch} {e : Env} {R : Room} {s : State} {m : MethodId} {args : Array Value} {below : List Frame} {meth : Method} {c : Code} {H : Heap} {locs : List Loc} {Q : State → Prop} {cc : ByteArray} {pc : Nat} {ls : Array Slot} {rest : List Value} {g : GP} {V : Mem} {nL : Nat} {ret : Option FieldType} (hB : BX p s m args meth c g LX cc nL RX6 ret) (hz : OK g LX V s H locs) {i : Nat} (hk : KD LX i 5) {a0 : Int32} {a1 : Int32} {a2 : Int32} {V1 : Mem} (hM : CT l g LX yX6_keepAct cX6_keepAct 4 none rm_X6_keepAct [.ref (ad g i), .int a0, .int a1, .int a2] V none V1) (hR : rm_X6_keepAct.frames + 1 ≤ R.frames ∧ 8 + (4 + 11) + rm_X6_keepAct.locals ≤ R.locals) (hsz : ls.size = nL) (hrest : (rest.map fun v => v.category).sum ≤ 8) (hdg : decode cc pc = .ok (.invokevirtual 169, 3)) (kk : ∀ (H1 : Heap) (locs1 : List Loc), OK g LX V1 s H1 locs1 → W p l e R s m args below meth c H1 locs1 0 0 Q (F0 m (pc + 3) ls (rest))) : W p l e R s m args below meth c H locs 0 0 Q (F0 m pc ls (.int a2 :: .int a1 :: .int a0 :: .ref (ad g i) :: rest)) :=
  x_cv (As := [.int a0, .int a1, .int a2]) (n := 3) (T := TX6) (N := 14) hB hz hM hk rfl rfl rfl rfl kw_445 kw_62 kw_442 kw_444 kw_10 (by decide +kernel) rfl hR hsz hrest hdg kk
theorem i_X6_173 {p : Program} {l : Launch} {e : Env} {R : Room} {s : State} {m : MethodId} {args : Array Value} {below : List Frame} {meth : Method} {c : Code} {H : Heap} {locs : List Loc} {Q : State → Prop} {cc : ByteArray} {pc : Nat} {ls : Array Slot} {rest : List Value} {g : GP} {V : Mem} {nL : Nat} {ret : Option FieldType} (hB : BX p s m args meth c g LX cc nL RX6 ret) (hz : OK g LX V s H locs) {i : Nat} (hk : KD LX i 2) {a0 : Int32} {V1 : Mem} (hM : CT l g LX yX3_remove cX3_remove 2 none rm_X3_remove [.ref (ad g i), .int a0] V none V1) (hR : rm_X3_remove.frames + 1 ≤ R.frames ∧ 8 + (2 + 11) + rm_X3_remove.locals ≤ R.locals) (hsz : ls.size = nL) (hrest : (rest.map fun v => v.category).sum ≤ 8) (hdg : decode cc pc = .ok (.invokevirtual 173, 3)) (kk : ∀ (H1 : Heap) (locs1 : List Loc), OK g LX V1 s H1 locs1 → W p l e R s m args below meth c H1 locs1 0 0 Q (F0 m (pc + 3) ls (rest))) : W p l e R s m args below meth c H locs 0 0 Q (F0 m pc ls (.int a0 :: .ref (ad g i) :: rest)) :=
  x_cv (As := [.int a0]) (n := 1) (T := TX3) (N := 7) hB hz hM hk rfl rfl rfl rfl kw_409 kw_64 kw_446 kw_407 kw_408 (by decide +kernel) rfl hR hsz hrest hdg kk
set_option maxHeartbeats 4000000 in
set_option maxRecDepth 100000 in
theorem w_X6_take {p : Program} {l : Launch} {e : Env} {s : State} {m : MethodId} {args : Array Value} {below : List Frame} {meth : Method} {c : Code} {g : GP} (hB : BX p s m args meth c g LX cX6_take 2 RX6 (some .int)) {o : Int32 × Mem} : ∀ (x1 : Int32) (V : Mem) (H : Heap) (locs : List Loc) (ls : Array Slot), f_X6_take x1 V = some o → OK g LX V s H locs → lv_has ls 2 [(0, .ref (ad g 0)), (1, .int x1)] → W p l e rm_X6_take s m args below meth c H locs 0 0 (MQ below (QQ g LX (some (.int o.1)) o.2) args s 0 0 (Ar g LX)) (F0 m 0 ls []) := by
  obtain ⟨hx, hb, hml, hown, hT, hr, hlk, hK, hJ, hZ, hN⟩ := id hB
  intro x1 V H locs ls hE hz hl
  unfold f_X6_take at hE
  refine lv_aload_n hx hb dX6_take_0 rfl (lv_at hl 0 rfl) ?_
  refine g_X6_25 hB hz kdX_0 dX6_take_1 ?_
  refine lv_iload_n hx hb dX6_take_4 rfl (lv_at hl 1 rfl) ?_
  obtain ⟨q5, hq5, hE⟩ := x_bind hE
  refine i_X6_166 hB hz kdX_4 (c_X3_has l g kdX_4 hq5) ⟨(Nat.le_of_ble_eq_true rfl), (Nat.le_of_ble_eq_true rfl)⟩ hl.1 (Nat.le_of_ble_eq_true rfl) dX6_take_5 (fun H locs hz => ?_)
  refine lv_if_ne (tgt := 14) hx hb dX6_take_8 (by decide) (fun c8 => ?_) (fun c8 => ?_)
  · have hE := (if_neg c8).symm.trans hE
    refine lv_aload_n hx hb dX6_take_14 rfl (lv_at hl 0 rfl) ?_
    refine g_X6_25 hB hz kdX_0 dX6_take_15 ?_
    refine g_X6_146 hB hz kdX_4 dX6_take_18 ?_
    refine lv_iconst (v := (1 : Int32)) hx hb dX6_take_21 (by decide) ?_
    refine lv_icmp_ne (tgt := 28) hx hb dX6_take_22 (by decide) (fun c22 => ?_) (fun c22 => ?_)
    · have hE := (if_neg c22).symm.trans hE
      refine lv_aload_n hx hb dX6_take_28 rfl (lv_at hl 0 rfl) ?_
      refine lv_iconst (v := (1 : Int32)) hx hb dX6_take_29 (by decide) ?_
      refine lv_iload_n hx hb dX6_take_30 rfl (lv_at hl 1 rfl) ?_
      refine lv_iload_n hx hb dX6_take_31 rfl (lv_at hl 1 rfl) ?_
      obtain ⟨q32, hq32, hE⟩ := x_bind hE
      refine i_X6_169 hB hz kdX_0 (c_X6_keepAct l g  hq32) ⟨(Nat.le_of_ble_eq_true rfl), (Nat.le_of_ble_eq_true rfl)⟩ hl.1 (Nat.le_of_ble_eq_true rfl) dX6_take_32 (fun H locs hz => ?_)
      refine lv_aload_n hx hb dX6_take_35 rfl (lv_at hl 0 rfl) ?_
      refine g_X6_25 hB hz kdX_0 dX6_take_36 ?_
      refine lv_iload_n hx hb dX6_take_39 rfl (lv_at hl 1 rfl) ?_
      obtain ⟨q40, hq40, hE⟩ := x_bind hE
      refine i_X6_173 hB hz kdX_4 (c_X3_remove l g kdX_4 hq40) ⟨(Nat.le_of_ble_eq_true rfl), (Nat.le_of_ble_eq_true rfl)⟩ hl.1 (Nat.le_of_ble_eq_true rfl) dX6_take_40 (fun H locs hz => ?_)
      refine lv_aload_n hx hb dX6_take_43 rfl (lv_at hl 0 rfl) ?_
      refine g_X6_25 hB hz kdX_0 dX6_take_44 ?_
      refine g_X6_146 hB hz kdX_4 dX6_take_47 ?_
      exact x_iret hB hz hE dX6_take_50
    · have hE := (if_pos c22).symm.trans hE
      refine lv_ldc (v := (-1000002 : Int32)) hx hb hown (hT _ kw_401) dX6_take_25 ?_
      exact x_iret hB hz hE dX6_take_27
  · have hE := (if_pos c8).symm.trans hE
    refine lv_ldc (v := (-1000001 : Int32)) hx hb hown (hT _ kw_264) dX6_take_11 ?_
    exact x_iret hB hz hE dX6_take_13
theorem c_X6_take (l : Launch) (g : GP) {x1 : Int32} {V : Mem} {o : Int32 × Mem} (hE : f_X6_take x1 V = some o) : CT l g LX yX6_take cX6_take 2 (some .int) rm_X6_take [.ref (ad g 0), .int x1] V (some (.int o.1)) o.2 := by
  refine ct_of (by decide) (Nat.le_of_ble_eq_true rfl) ?_
  intro p e s m args below meth c ls hB hz hl
  exact w_X6_take hB _ _ _ _ _  hE hz hl
def rm_X6_move : Room := { frames := 4, cells := 0, slots := 0, locals := 173 }
theorem i_X6_177 {p : Program} {l : Launch} {e : Env} {R : Room} {s : State} {m : MethodId} {args : Array Value} {below : List Frame} {meth : Method} {c : Code} {H : Heap} {locs : List Loc} {Q : State → Prop} {cc : ByteArray} {pc : Nat} {ls : Array Slot} {rest : List Value} {g : GP} {V : Mem} {nL : Nat} {ret : Option FieldType} (hB : BX p s m args meth c g LX cc nL RX6 ret) (hz : OK g LX V s H locs) {i : Nat} (hk : KD LX i 2) {a0 : Int32} {a1 : Int32} {V1 : Mem} (hM : CT l g LX yX3_shift cX3_shift 6 none rm_X3_shift [.ref (ad g i), .int a0, .int a1] V none V1) (hR : rm_X3_shift.frames + 1 ≤ R.frames ∧ 8 + (6 + 11) + rm_X3_shift.locals ≤ R.locals) (hsz : ls.size = nL) (hrest : (rest.map fun v => v.category).sum ≤ 8) (hdg : decode cc pc = .ok (.invokevirtual 177, 3)) (kk : ∀ (H1 : Heap) (locs1 : List Loc), OK g LX V1 s H1 locs1 → W p l e R s m args below meth c H1 locs1 0 0 Q (F0 m (pc + 3) ls (rest))) : W p l e R s m args below meth c H locs 0 0 Q (F0 m pc ls (.int a1 :: .int a0 :: .ref (ad g i) :: rest)) :=
  x_cv (As := [.int a0, .int a1]) (n := 2) (T := TX3) (N := 7) hB hz hM hk rfl rfl rfl rfl kw_414 kw_64 kw_451 kw_412 kw_413 (by decide +kernel) rfl hR hsz hrest hdg kk
set_option maxHeartbeats 4000000 in
set_option maxRecDepth 100000 in
theorem w_X6_move {p : Program} {l : Launch} {e : Env} {s : State} {m : MethodId} {args : Array Value} {below : List Frame} {meth : Method} {c : Code} {g : GP} (hB : BX p s m args meth c g LX cX6_move 3 RX6 (some .int)) {o : Int32 × Mem} : ∀ (x1 : Int32) (x2 : Int32) (V : Mem) (H : Heap) (locs : List Loc) (ls : Array Slot), f_X6_move x1 x2 V = some o → OK g LX V s H locs → lv_has ls 3 [(0, .ref (ad g 0)), (1, .int x1), (2, .int x2)] → W p l e rm_X6_move s m args below meth c H locs 0 0 (MQ below (QQ g LX (some (.int o.1)) o.2) args s 0 0 (Ar g LX)) (F0 m 0 ls []) := by
  obtain ⟨hx, hb, hml, hown, hT, hr, hlk, hK, hJ, hZ, hN⟩ := id hB
  intro x1 x2 V H locs ls hE hz hl
  unfold f_X6_move at hE
  refine lv_aload_n hx hb dX6_move_0 rfl (lv_at hl 0 rfl) ?_
  refine g_X6_25 hB hz kdX_0 dX6_move_1 ?_
  refine lv_iload_n hx hb dX6_move_4 rfl (lv_at hl 1 rfl) ?_
  obtain ⟨q5, hq5, hE⟩ := x_bind hE
  refine i_X6_166 hB hz kdX_4 (c_X3_has l g kdX_4 hq5) ⟨(Nat.le_of_ble_eq_true rfl), (Nat.le_of_ble_eq_true rfl)⟩ hl.1 (Nat.le_of_ble_eq_true rfl) dX6_move_5 (fun H locs hz => ?_)
  refine lv_if_eq (tgt := 22) hx hb dX6_move_8 (by decide) (fun c8 => ?_) (fun c8 => ?_)
  · have hE := (if_pos c8).symm.trans hE
    refine lv_ldc (v := (-1000001 : Int32)) hx hb hown (hT _ kw_264) dX6_move_22 ?_
    exact x_iret hB hz hE dX6_move_24
  · have hE := (if_neg c8).symm.trans hE
    refine lv_aload_n hx hb dX6_move_11 rfl (lv_at hl 0 rfl) ?_
    refine g_X6_25 hB hz kdX_0 dX6_move_12 ?_
    refine lv_iload_n hx hb dX6_move_15 rfl (lv_at hl 2 rfl) ?_
    obtain ⟨q16, hq16, hE⟩ := x_bind hE
    refine i_X6_166 hB hz kdX_4 (c_X3_has l g kdX_4 hq16) ⟨(Nat.le_of_ble_eq_true rfl), (Nat.le_of_ble_eq_true rfl)⟩ hl.1 (Nat.le_of_ble_eq_true rfl) dX6_move_16 (fun H locs hz => ?_)
    refine lv_if_ne (tgt := 25) hx hb dX6_move_19 (by decide) (fun c19 => ?_) (fun c19 => ?_)
    · have hE := (if_neg c19).symm.trans hE
      refine lv_iload_n hx hb dX6_move_25 rfl (lv_at hl 1 rfl) ?_
      refine lv_iload_n hx hb dX6_move_26 rfl (lv_at hl 2 rfl) ?_
      refine lv_icmp_ne (tgt := 33) hx hb dX6_move_27 (by decide) (fun c27 => ?_) (fun c27 => ?_)
      · have hE := (if_neg c27).symm.trans hE
        refine lv_aload_n hx hb dX6_move_33 rfl (lv_at hl 0 rfl) ?_
        refine lv_iconst (v := (2 : Int32)) hx hb dX6_move_34 (by decide) ?_
        refine lv_iload_n hx hb dX6_move_35 rfl (lv_at hl 1 rfl) ?_
        refine lv_iload_n hx hb dX6_move_36 rfl (lv_at hl 2 rfl) ?_
        obtain ⟨q37, hq37, hE⟩ := x_bind hE
        refine i_X6_169 hB hz kdX_0 (c_X6_keepAct l g  hq37) ⟨(Nat.le_of_ble_eq_true rfl), (Nat.le_of_ble_eq_true rfl)⟩ hl.1 (Nat.le_of_ble_eq_true rfl) dX6_move_37 (fun H locs hz => ?_)
        refine lv_aload_n hx hb dX6_move_40 rfl (lv_at hl 0 rfl) ?_
        refine g_X6_25 hB hz kdX_0 dX6_move_41 ?_
        refine lv_iload_n hx hb dX6_move_44 rfl (lv_at hl 1 rfl) ?_
        refine lv_iload_n hx hb dX6_move_45 rfl (lv_at hl 2 rfl) ?_
        obtain ⟨q46, hq46, hE⟩ := x_bind hE
        refine i_X6_177 hB hz kdX_4 (c_X3_shift l g kdX_4 hq46) ⟨(Nat.le_of_ble_eq_true rfl), (Nat.le_of_ble_eq_true rfl)⟩ hl.1 (Nat.le_of_ble_eq_true rfl) dX6_move_46 (fun H locs hz => ?_)
        refine lv_aload_n hx hb dX6_move_49 rfl (lv_at hl 0 rfl) ?_
        refine g_X6_25 hB hz kdX_0 dX6_move_50 ?_
        refine g_X6_180 hB hz kdX_4 dX6_move_53 ?_
        refine lv_iload_n hx hb dX6_move_56 rfl (lv_at hl 2 rfl) ?_
        obtain ⟨hi57, hE⟩ := x_chk hE
        refine x_iald (n := 24) hB hz kdX_7 hi57 dX6_move_57 ?_
        exact x_iret hB hz hE dX6_move_58
      · have hE := (if_pos c27).symm.trans hE
        refine lv_ldc (v := (-1000002 : Int32)) hx hb hown (hT _ kw_401) dX6_move_30 ?_
        exact x_iret hB hz hE dX6_move_32
    · have hE := (if_pos c19).symm.trans hE
      refine lv_ldc (v := (-1000001 : Int32)) hx hb hown (hT _ kw_264) dX6_move_22 ?_
      exact x_iret hB hz hE dX6_move_24
theorem c_X6_move (l : Launch) (g : GP) {x1 : Int32} {x2 : Int32} {V : Mem} {o : Int32 × Mem} (hE : f_X6_move x1 x2 V = some o) : CT l g LX yX6_move cX6_move 3 (some .int) rm_X6_move [.ref (ad g 0), .int x1, .int x2] V (some (.int o.1)) o.2 := by
  refine ct_of (by decide) (Nat.le_of_ble_eq_true rfl) ?_
  intro p e s m args below meth c ls hB hz hl
  exact w_X6_move hB _ _ _ _ _ _  hE hz hl
def rm_X6_change : Room := { frames := 3, cells := 0, slots := 0, locals := 124 }
theorem i_X6_186 {p : Program} {l : Launch} {e : Env} {R : Room} {s : State} {m : MethodId} {args : Array Value} {below : List Frame} {meth : Method} {c : Code} {H : Heap} {locs : List Loc} {Q : State → Prop} {cc : ByteArray} {pc : Nat} {ls : Array Slot} {rest : List Value} {g : GP} {V : Mem} {nL : Nat} {ret : Option FieldType} (hB : BX p s m args meth c g LX cc nL RX6 ret) (hz : OK g LX V s H locs) {i : Nat} (hk : KD LX i 2) {a0 : Int32} {a1 : Int32} {a2 : Int32} {a3 : Int32} {V1 : Mem} (hM : CT l g LX yX3_alter cX3_alter 5 none rm_X3_alter [.ref (ad g i), .int a0, .int a1, .int a2, .int a3] V none V1) (hR : rm_X3_alter.frames + 1 ≤ R.frames ∧ 8 + (5 + 11) + rm_X3_alter.locals ≤ R.locals) (hsz : ls.size = nL) (hrest : (rest.map fun v => v.category).sum ≤ 8) (hdg : decode cc pc = .ok (.invokevirtual 186, 3)) (kk : ∀ (H1 : Heap) (locs1 : List Loc), OK g LX V1 s H1 locs1 → W p l e R s m args below meth c H1 locs1 0 0 Q (F0 m (pc + 3) ls (rest))) : W p l e R s m args below meth c H locs 0 0 Q (F0 m pc ls (.int a3 :: .int a2 :: .int a1 :: .int a0 :: .ref (ad g i) :: rest)) :=
  x_cv (As := [.int a0, .int a1, .int a2, .int a3]) (n := 4) (T := TX3) (N := 7) hB hz hM hk rfl rfl rfl rfl kw_376 kw_64 kw_456 kw_374 kw_375 (by decide +kernel) rfl hR hsz hrest hdg kk
set_option maxHeartbeats 4000000 in
set_option maxRecDepth 100000 in
theorem w_X6_change {p : Program} {l : Launch} {e : Env} {s : State} {m : MethodId} {args : Array Value} {below : List Frame} {meth : Method} {c : Code} {g : GP} (hB : BX p s m args meth c g LX cX6_change 6 RX6 (some .int)) {o : Int32 × Mem} : ∀ (x1 : Int32) (x2 : Int32) (x3 : Int32) (x4 : Int32) (V : Mem) (H : Heap) (locs : List Loc) (ls : Array Slot), f_X6_change x1 x2 x3 x4 V = some o → OK g LX V s H locs → lv_has ls 6 [(0, .ref (ad g 0)), (1, .int x1), (2, .int x2), (3, .int x3), (4, .int x4)] → W p l e rm_X6_change s m args below meth c H locs 0 0 (MQ below (QQ g LX (some (.int o.1)) o.2) args s 0 0 (Ar g LX)) (F0 m 0 ls []) := by
  obtain ⟨hx, hb, hml, hown, hT, hr, hlk, hK, hJ, hZ, hN⟩ := id hB
  intro x1 x2 x3 x4 V H locs ls hE hz hl
  unfold f_X6_change at hE
  refine lv_aload_n hx hb dX6_change_0 rfl (lv_at hl 0 rfl) ?_
  refine g_X6_25 hB hz kdX_0 dX6_change_1 ?_
  refine lv_iload_n hx hb dX6_change_4 rfl (lv_at hl 1 rfl) ?_
  obtain ⟨q5, hq5, hE⟩ := x_bind hE
  refine i_X6_166 hB hz kdX_4 (c_X3_has l g kdX_4 hq5) ⟨(Nat.le_of_ble_eq_true rfl), (Nat.le_of_ble_eq_true rfl)⟩ hl.1 (Nat.le_of_ble_eq_true rfl) dX6_change_5 (fun H locs hz => ?_)
  refine lv_if_eq (tgt := 21) hx hb dX6_change_8 (by decide) (fun c8 => ?_) (fun c8 => ?_)
  · have hE := (if_pos c8).symm.trans hE
    refine lv_ldc (v := (-1000001 : Int32)) hx hb hown (hT _ kw_264) dX6_change_21 ?_
    exact x_iret hB hz hE dX6_change_23
  · have hE := (if_neg c8).symm.trans hE
    refine lv_iload_n hx hb dX6_change_11 rfl (lv_at hl 2 rfl) ?_
    refine lv_iload_n hx hb dX6_change_12 rfl (lv_at hl 3 rfl) ?_
    refine lv_iload hx hb dX6_change_13 (lv_at hl 4 rfl) ?_
    obtain ⟨q15, hq15, hE⟩ := x_bind hE
    refine i_X6_155 hB hz (c_X6_isTold l g  hq15) ⟨(Nat.le_of_ble_eq_true rfl), (Nat.le_of_ble_eq_true rfl)⟩ hl.1 (Nat.le_of_ble_eq_true rfl) dX6_change_15 (fun H locs hz => ?_)
    refine lv_if_ne (tgt := 24) hx hb dX6_change_18 (by decide) (fun c18 => ?_) (fun c18 => ?_)
    · have hE := (if_neg c18).symm.trans hE
      refine lv_aload_n hx hb dX6_change_24 rfl (lv_at hl 0 rfl) ?_
      refine g_X6_25 hB hz kdX_0 dX6_change_25 ?_
      refine g_X6_183 hB hz kdX_4 dX6_change_28 ?_
      refine lv_iload_n hx hb dX6_change_31 rfl (lv_at hl 1 rfl) ?_
      obtain ⟨hi32, hE⟩ := x_chk hE
      refine x_iald (n := 24) hB hz kdX_6 hi32 dX6_change_32 ?_
      refine lv_istore (lv' := [(5, .int (q15.2 6 (x1).toNatClampNeg)), (0, .ref (ad g 0)), (1, .int x1), (2, .int x2), (3, .int x3), (4, .int x4)]) hx hb dX6_change_33 hl (by decide) rfl (fun ls hl => ?_)
      refine lv_aload_n hx hb dX6_change_35 rfl (lv_at hl 1 rfl) ?_
      refine lv_iconst (v := (3 : Int32)) hx hb dX6_change_36 (by decide) ?_
      refine lv_iload_n hx hb dX6_change_37 rfl (lv_at hl 2 rfl) ?_
      refine lv_iload_n hx hb dX6_change_38 rfl (lv_at hl 2 rfl) ?_
      obtain ⟨q39, hq39, hE⟩ := x_bind hE
      refine i_X6_169 hB hz kdX_0 (c_X6_keepAct l g  hq39) ⟨(Nat.le_of_ble_eq_true rfl), (Nat.le_of_ble_eq_true rfl)⟩ hl.1 (Nat.le_of_ble_eq_true rfl) dX6_change_39 (fun H locs hz => ?_)
      refine lv_aload_n hx hb dX6_change_42 rfl (lv_at hl 1 rfl) ?_
      refine g_X6_25 hB hz kdX_0 dX6_change_43 ?_
      refine lv_iload_n hx hb dX6_change_46 rfl (lv_at hl 2 rfl) ?_
      refine lv_iload_n hx hb dX6_change_47 rfl (lv_at hl 3 rfl) ?_
      refine lv_iload_n hx hb dX6_change_48 rfl (lv_at hl 4 rfl) ?_
      refine lv_iload hx hb dX6_change_49 (lv_at hl 5 rfl) ?_
      obtain ⟨q51, hq51, hE⟩ := x_bind hE
      refine i_X6_186 hB hz kdX_4 (c_X3_alter l g kdX_4 hq51) ⟨(Nat.le_of_ble_eq_true rfl), (Nat.le_of_ble_eq_true rfl)⟩ hl.1 (Nat.le_of_ble_eq_true rfl) dX6_change_51 (fun H locs hz => ?_)
      refine lv_iload hx hb dX6_change_54 (lv_at hl 0 rfl) ?_
      exact x_iret hB hz hE dX6_change_56
    · have hE := (if_pos c18).symm.trans hE
      refine lv_ldc (v := (-1000001 : Int32)) hx hb hown (hT _ kw_264) dX6_change_21 ?_
      exact x_iret hB hz hE dX6_change_23
theorem c_X6_change (l : Launch) (g : GP) {x1 : Int32} {x2 : Int32} {x3 : Int32} {x4 : Int32} {V : Mem} {o : Int32 × Mem} (hE : f_X6_change x1 x2 x3 x4 V = some o) : CT l g LX yX6_change cX6_change 6 (some .int) rm_X6_change [.ref (ad g 0), .int x1, .int x2, .int x3, .int x4] V (some (.int o.1)) o.2 := by
  refine ct_of (by decide) (Nat.le_of_ble_eq_true rfl) ?_
  intro p e s m args below meth c ls hB hz hl
  exact w_X6_change hB _ _ _ _ _ _ _ _  hE hz hl
def rm_X6_style : Room := { frames := 2, cells := 0, slots := 0, locals := 42 }
set_option maxHeartbeats 4000000 in
set_option maxRecDepth 100000 in
theorem w_X6_style {p : Program} {l : Launch} {e : Env} {s : State} {m : MethodId} {args : Array Value} {below : List Frame} {meth : Method} {c : Code} {g : GP} (hB : BX p s m args meth c g LX cX6_style 4 RX6 (some .int)) {o : Int32 × Mem} : ∀ (x1 : Int32) (x2 : Int32) (V : Mem) (H : Heap) (locs : List Loc) (ls : Array Slot), f_X6_style x1 x2 V = some o → OK g LX V s H locs → lv_has ls 4 [(0, .ref (ad g 0)), (1, .int x1), (2, .int x2)] → W p l e rm_X6_style s m args below meth c H locs 0 0 (MQ below (QQ g LX (some (.int o.1)) o.2) args s 0 0 (Ar g LX)) (F0 m 0 ls []) := by
  obtain ⟨hx, hb, hml, hown, hT, hr, hlk, hK, hJ, hZ, hN⟩ := id hB
  intro x1 x2 V H locs ls hE hz hl
  unfold f_X6_style at hE
  refine lv_aload_n hx hb dX6_style_0 rfl (lv_at hl 0 rfl) ?_
  refine g_X6_25 hB hz kdX_0 dX6_style_1 ?_
  obtain ⟨q4, hq4, hE⟩ := x_bind hE
  refine i_X6_152 hB hz kdX_4 (c_X3_isNone l g kdX_4 hq4) ⟨(Nat.le_of_ble_eq_true rfl), (Nat.le_of_ble_eq_true rfl)⟩ hl.1 (Nat.le_of_ble_eq_true rfl) dX6_style_4 (fun H locs hz => ?_)
  refine lv_if_eq (tgt := 13) hx hb dX6_style_7 (by decide) (fun c7 => ?_) (fun c7 => ?_)
  · have hE := (if_pos c7).symm.trans hE
    refine lv_iload_n hx hb dX6_style_13 rfl (lv_at hl 1 rfl) ?_
    obtain ⟨q14, hq14, hE⟩ := x_bind hE
    refine i_X6_189 hB hz (c_X6_isLevel l g  hq14) ⟨(Nat.le_of_ble_eq_true rfl), (Nat.le_of_ble_eq_true rfl)⟩ hl.1 (Nat.le_of_ble_eq_true rfl) dX6_style_14 (fun H locs hz => ?_)
    refine lv_if_eq (tgt := 29) hx hb dX6_style_17 (by decide) (fun c17 => ?_) (fun c17 => ?_)
    · have hE := (if_pos c17).symm.trans hE
      refine lv_ldc (v := (-1000001 : Int32)) hx hb hown (hT _ kw_264) dX6_style_29 ?_
      exact x_iret hB hz hE dX6_style_31
    · have hE := (if_neg c17).symm.trans hE
      refine lv_iload_n hx hb dX6_style_20 rfl (lv_at hl 2 rfl) ?_
      refine lv_iconst (v := (0 : Int32)) hx hb dX6_style_21 (by decide) ?_
      refine lv_iconst (v := (3 : Int32)) hx hb dX6_style_22 (by decide) ?_
      obtain ⟨q23, hq23, hE⟩ := x_bind hE
      refine i_X6_79 hB hz (c_X6_isBetween l g  hq23) ⟨(Nat.le_of_ble_eq_true rfl), (Nat.le_of_ble_eq_true rfl)⟩ hl.1 (Nat.le_of_ble_eq_true rfl) dX6_style_23 (fun H locs hz => ?_)
      refine lv_if_ne (tgt := 32) hx hb dX6_style_26 (by decide) (fun c26 => ?_) (fun c26 => ?_)
      · have hE := (if_neg c26).symm.trans hE
        refine lv_aload_n hx hb dX6_style_32 rfl (lv_at hl 0 rfl) ?_
        refine g_X6_25 hB hz kdX_0 dX6_style_33 ?_
        refine g_X6_192 hB hz kdX_4 dX6_style_36 ?_
        refine lv_iload_n hx hb dX6_style_39 rfl (lv_at hl 1 rfl) ?_
        obtain ⟨hi40, hE⟩ := x_chk hE
        refine x_iald (n := 3) hB hz kdX_5 hi40 dX6_style_40 ?_
        refine lv_istore_n (lv' := [(3, .int (q23.2 5 (x1).toNatClampNeg)), (0, .ref (ad g 0)), (1, .int x1), (2, .int x2)]) hx hb dX6_style_41 rfl hl (by decide) rfl (fun ls hl => ?_)
        refine lv_aload_n hx hb dX6_style_42 rfl (lv_at hl 1 rfl) ?_
        refine g_X6_39 hB hz kdX_0 dX6_style_43 ?_
        refine lv_iconst (v := (4 : Int32)) hx hb dX6_style_46 (by decide) ?_
        refine lv_iload_n hx hb dX6_style_47 rfl (lv_at hl 2 rfl) ?_
        refine lv_iload_n hx hb dX6_style_48 rfl (lv_at hl 0 rfl) ?_
        refine lv_iconst (v := (0 : Int32)) hx hb dX6_style_49 (by decide) ?_
        refine lv_iconst (v := (0 : Int32)) hx hb dX6_style_50 (by decide) ?_
        refine lv_iconst (v := (0 : Int32)) hx hb dX6_style_51 (by decide) ?_
        obtain ⟨q52, hq52, hE⟩ := x_bind hE
        refine i_X6_162 hB hz kdX_67 (c_X0_keep l g kdX_67 hq52) ⟨(Nat.le_of_ble_eq_true rfl), (Nat.le_of_ble_eq_true rfl)⟩ hl.1 (Nat.le_of_ble_eq_true rfl) dX6_style_52 (fun H locs hz => ?_)
        refine lv_aload_n hx hb dX6_style_55 rfl (lv_at hl 1 rfl) ?_
        refine g_X6_25 hB hz kdX_0 dX6_style_56 ?_
        refine g_X6_192 hB hz kdX_4 dX6_style_59 ?_
        refine lv_iload_n hx hb dX6_style_62 rfl (lv_at hl 2 rfl) ?_
        refine lv_iload_n hx hb dX6_style_63 rfl (lv_at hl 3 rfl) ?_
        obtain ⟨hi64, hE⟩ := x_chk hE
        refine x_iast (n := 3) hB hz kdX_5 hi64 dX6_style_64 (fun H locs hz => ?_)
        refine lv_iload_n hx hb dX6_style_65 rfl (lv_at hl 0 rfl) ?_
        exact x_iret hB hz hE dX6_style_66
      · have hE := (if_pos c26).symm.trans hE
        refine lv_ldc (v := (-1000001 : Int32)) hx hb hown (hT _ kw_264) dX6_style_29 ?_
        exact x_iret hB hz hE dX6_style_31
  · have hE := (if_neg c7).symm.trans hE
    refine lv_ldc (v := (-1000002 : Int32)) hx hb hown (hT _ kw_401) dX6_style_10 ?_
    exact x_iret hB hz hE dX6_style_12
theorem c_X6_style (l : Launch) (g : GP) {x1 : Int32} {x2 : Int32} {V : Mem} {o : Int32 × Mem} (hE : f_X6_style x1 x2 V = some o) : CT l g LX yX6_style cX6_style 4 (some .int) rm_X6_style [.ref (ad g 0), .int x1, .int x2] V (some (.int o.1)) o.2 := by
  refine ct_of (by decide) (Nat.le_of_ble_eq_true rfl) ?_
  intro p e s m args below meth c ls hB hz hl
  exact w_X6_style hB _ _ _ _ _ _  hE hz hl
def rm_X6_paragraph : Room := { frames := 5, cells := 0, slots := 0, locals := 193 }
theorem i_X6_202 {p : Program} {l : Launch} {e : Env} {R : Room} {s : State} {m : MethodId} {args : Array Value} {below : List Frame} {meth : Method} {c : Code} {H : Heap} {locs : List Loc} {Q : State → Prop} {cc : ByteArray} {pc : Nat} {ls : Array Slot} {rest : List Value} {g : GP} {V : Mem} {nL : Nat} {ret : Option FieldType} (hB : BX p s m args meth c g LX cc nL RX6 ret) (hz : OK g LX V s H locs) {i : Nat} (hk : KD LX i 2) {a0 : Int32} {a1 : Int32} {a2 : Nat} {V1 : Mem} (hM : CT l g LX yX3_writeLabel cX3_writeLabel 7 none rm_X3_writeLabel [.ref (ad g i), .int a0, .int a1, .ref (ad g a2)] V none V1) (hR : rm_X3_writeLabel.frames + 1 ≤ R.frames ∧ 8 + (7 + 11) + rm_X3_writeLabel.locals ≤ R.locals) (hsz : ls.size = nL) (hrest : (rest.map fun v => v.category).sum ≤ 8) (hdg : decode cc pc = .ok (.invokevirtual 202, 3)) (kk : ∀ (H1 : Heap) (locs1 : List Loc), OK g LX V1 s H1 locs1 → W p l e R s m args below meth c H1 locs1 0 0 Q (F0 m (pc + 3) ls (rest))) : W p l e R s m args below meth c H locs 0 0 Q (F0 m pc ls (.ref (ad g a2) :: .int a1 :: .int a0 :: .ref (ad g i) :: rest)) :=
  x_cv (As := [.int a0, .int a1, .ref (ad g a2)]) (n := 3) (T := TX3) (N := 7) hB hz hM hk rfl rfl rfl rfl kw_486 kw_64 kw_483 kw_484 kw_485 (by decide +kernel) rfl hR hsz hrest hdg kk
theorem i_X6_198 {p : Program} {l : Launch} {e : Env} {R : Room} {s : State} {m : MethodId} {args : Array Value} {below : List Frame} {meth : Method} {c : Code} {H : Heap} {locs : List Loc} {Q : State → Prop} {cc : ByteArray} {pc : Nat} {ls : Array Slot} {rest : List Value} {g : GP} {V : Mem} {nL : Nat} {ret : Option FieldType} (hB : BX p s m args meth c g LX cc nL RX6 ret) (hz : OK g LX V s H locs) {i : Nat} (hk : KD LX i 2) {a0 : Int32} {r : Nat} {V1 : Mem} (hM : CT l g LX yX3_behind cX3_behind 2 (some (.array .int)) rm_X3_behind [.ref (ad g i), .int a0] V (some (.ref (ad g r))) V1) (hR : rm_X3_behind.frames + 1 ≤ R.frames ∧ 8 + (2 + 11) + rm_X3_behind.locals ≤ R.locals) (hsz : ls.size = nL) (hrest : (rest.map fun v => v.category).sum ≤ 8) (hdg : decode cc pc = .ok (.invokevirtual 198, 3)) (kk : ∀ (H1 : Heap) (locs1 : List Loc), OK g LX V1 s H1 locs1 → W p l e R s m args below meth c H1 locs1 0 0 Q (F0 m (pc + 3) ls (.ref (ad g r) :: rest))) : W p l e R s m args below meth c H locs 0 0 Q (F0 m pc ls (.int a0 :: .ref (ad g i) :: rest)) :=
  x_cv (As := [.int a0]) (n := 1) (T := TX3) (N := 7) hB hz hM hk rfl rfl rfl rfl kw_468 kw_64 kw_465 kw_466 kw_467 (by decide +kernel) rfl hR hsz hrest hdg kk
set_option maxHeartbeats 4000000 in
set_option maxRecDepth 100000 in
theorem w_X6_paragraph {p : Program} {l : Launch} {e : Env} {s : State} {m : MethodId} {args : Array Value} {below : List Frame} {meth : Method} {c : Code} {g : GP} (hB : BX p s m args meth c g LX cX6_paragraph 3 RX6 (some .int)) {o : Int32 × Mem} : ∀ (x1 : Int32) (x2 : Int32) (V : Mem) (H : Heap) (locs : List Loc) (ls : Array Slot), f_X6_paragraph x1 x2 V = some o → OK g LX V s H locs → lv_has ls 3 [(0, .ref (ad g 0)), (1, .int x1), (2, .int x2)] → W p l e rm_X6_paragraph s m args below meth c H locs 0 0 (MQ below (QQ g LX (some (.int o.1)) o.2) args s 0 0 (Ar g LX)) (F0 m 0 ls []) := by
  obtain ⟨hx, hb, hml, hown, hT, hr, hlk, hK, hJ, hZ, hN⟩ := id hB
  intro x1 x2 V H locs ls hE hz hl
  unfold f_X6_paragraph at hE
  refine lv_aload_n hx hb dX6_paragraph_0 rfl (lv_at hl 0 rfl) ?_
  refine g_X6_25 hB hz kdX_0 dX6_paragraph_1 ?_
  refine lv_iload_n hx hb dX6_paragraph_4 rfl (lv_at hl 1 rfl) ?_
  obtain ⟨q5, hq5, hE⟩ := x_bind hE
  refine i_X6_166 hB hz kdX_4 (c_X3_has l g kdX_4 hq5) ⟨(Nat.le_of_ble_eq_true rfl), (Nat.le_of_ble_eq_true rfl)⟩ hl.1 (Nat.le_of_ble_eq_true rfl) dX6_paragraph_5 (fun H locs hz => ?_)
  refine lv_if_eq (tgt := 20) hx hb dX6_paragraph_8 (by decide) (fun c8 => ?_) (fun c8 => ?_)
  · have hE := (if_pos c8).symm.trans hE
    refine lv_ldc (v := (-1000001 : Int32)) hx hb hown (hT _ kw_264) dX6_paragraph_20 ?_
    exact x_iret hB hz hE dX6_paragraph_22
  · have hE := (if_neg c8).symm.trans hE
    refine lv_iload_n hx hb dX6_paragraph_11 rfl (lv_at hl 2 rfl) ?_
    refine lv_iconst (v := (0 : Int32)) hx hb dX6_paragraph_12 (by decide) ?_
    refine lv_iconst (v := (5 : Int32)) hx hb dX6_paragraph_13 (by decide) ?_
    obtain ⟨q14, hq14, hE⟩ := x_bind hE
    refine i_X6_79 hB hz (c_X6_isBetween l g  hq14) ⟨(Nat.le_of_ble_eq_true rfl), (Nat.le_of_ble_eq_true rfl)⟩ hl.1 (Nat.le_of_ble_eq_true rfl) dX6_paragraph_14 (fun H locs hz => ?_)
    refine lv_if_ne (tgt := 23) hx hb dX6_paragraph_17 (by decide) (fun c17 => ?_) (fun c17 => ?_)
    · have hE := (if_neg c17).symm.trans hE
      refine lv_iload_n hx hb dX6_paragraph_23 rfl (lv_at hl 2 rfl) ?_
      refine lv_if_ne (tgt := 37) hx hb dX6_paragraph_24 (by decide) (fun c24 => ?_) (fun c24 => ?_)
      · have hE := (if_neg c24).symm.trans hE
        refine lv_iload_n hx hb dX6_paragraph_37 rfl (lv_at hl 2 rfl) ?_
        refine lv_iconst (v := (1 : Int32)) hx hb dX6_paragraph_38 (by decide) ?_
        refine lv_icmp_ne (tgt := 52) hx hb dX6_paragraph_39 (by decide) (fun c39 => ?_) (fun c39 => ?_)
        · have hE := (if_neg c39).symm.trans hE
          refine lv_iload_n hx hb dX6_paragraph_52 rfl (lv_at hl 2 rfl) ?_
          refine lv_iconst (v := (5 : Int32)) hx hb dX6_paragraph_53 (by decide) ?_
          refine lv_icmp_ge (tgt := 70) hx hb dX6_paragraph_54 (by decide) (fun c54 => ?_) (fun c54 => ?_)
          · have hE := (if_pos c54).symm.trans hE
            refine lv_aload_n hx hb dX6_paragraph_70 rfl (lv_at hl 0 rfl) ?_
            refine g_X6_25 hB hz kdX_0 dX6_paragraph_71 ?_
            refine lv_iload_n hx hb dX6_paragraph_74 rfl (lv_at hl 1 rfl) ?_
            refine lv_iconst (v := (0 : Int32)) hx hb dX6_paragraph_75 (by decide) ?_
            refine lv_aload_n hx hb dX6_paragraph_76 rfl (lv_at hl 0 rfl) ?_
            refine g_X6_50 hB hz kdX_0 dX6_paragraph_77 ?_
            obtain ⟨q80, hq80, hE⟩ := x_bind hE
            refine i_X6_202 hB hz kdX_4 (c_X3_writeLabel l g kdX_4 kdX_94 hq80) ⟨(Nat.le_of_ble_eq_true rfl), (Nat.le_of_ble_eq_true rfl)⟩ hl.1 (Nat.le_of_ble_eq_true rfl) dX6_paragraph_80 (fun H locs hz => ?_)
            refine lv_aload_n hx hb dX6_paragraph_83 rfl (lv_at hl 0 rfl) ?_
            refine g_X6_50 hB hz kdX_0 dX6_paragraph_84 ?_
            refine g_X6_206 hB hz kdX_94 dX6_paragraph_87 ?_
            exact x_iret hB hz hE dX6_paragraph_90
          · have hE := (if_neg c54).symm.trans hE
            refine lv_aload_n hx hb dX6_paragraph_57 rfl (lv_at hl 0 rfl) ?_
            refine g_X6_25 hB hz kdX_0 dX6_paragraph_58 ?_
            refine lv_iload_n hx hb dX6_paragraph_61 rfl (lv_at hl 1 rfl) ?_
            obtain ⟨q62, hq62, hE⟩ := x_bind hE
            refine i_X6_198 hB hz kdX_4 (c_X3_behind l g kdX_4 hq62) ⟨(Nat.le_of_ble_eq_true rfl), (Nat.le_of_ble_eq_true rfl)⟩ hl.1 (Nat.le_of_ble_eq_true rfl) dX6_paragraph_62 (fun H locs hz => ?_)
            obtain ⟨hk62, hE⟩ := x_chk hE
            refine lv_iload_n hx hb dX6_paragraph_65 rfl (lv_at hl 2 rfl) ?_
            refine lv_iconst (v := (2 : Int32)) hx hb dX6_paragraph_66 (by decide) ?_
            refine lv_isub hx hb dX6_paragraph_67 ?_
            obtain ⟨hi68, hE⟩ := x_chk hE
            refine x_iald (n := 6) hB hz (kb_KD hk62) hi68 dX6_paragraph_68 ?_
            exact x_iret hB hz hE dX6_paragraph_69
        · have hE := (if_pos c39).symm.trans hE
          refine lv_aload_n hx hb dX6_paragraph_42 rfl (lv_at hl 0 rfl) ?_
          refine g_X6_25 hB hz kdX_0 dX6_paragraph_43 ?_
          refine g_X6_195 hB hz kdX_4 dX6_paragraph_46 ?_
          refine lv_iload_n hx hb dX6_paragraph_49 rfl (lv_at hl 1 rfl) ?_
          obtain ⟨hi50, hE⟩ := x_chk hE
          refine x_iald (n := 24) hB hz kdX_8 hi50 dX6_paragraph_50 ?_
          exact x_iret hB hz hE dX6_paragraph_51
      · have hE := (if_pos c24).symm.trans hE
        refine lv_aload_n hx hb dX6_paragraph_27 rfl (lv_at hl 0 rfl) ?_
        refine g_X6_25 hB hz kdX_0 dX6_paragraph_28 ?_
        refine g_X6_180 hB hz kdX_4 dX6_paragraph_31 ?_
        refine lv_iload_n hx hb dX6_paragraph_34 rfl (lv_at hl 1 rfl) ?_
        obtain ⟨hi35, hE⟩ := x_chk hE
        refine x_iald (n := 24) hB hz kdX_7 hi35 dX6_paragraph_35 ?_
        exact x_iret hB hz hE dX6_paragraph_36
    · have hE := (if_pos c17).symm.trans hE
      refine lv_ldc (v := (-1000001 : Int32)) hx hb hown (hT _ kw_264) dX6_paragraph_20 ?_
      exact x_iret hB hz hE dX6_paragraph_22
theorem c_X6_paragraph (l : Launch) (g : GP) {x1 : Int32} {x2 : Int32} {V : Mem} {o : Int32 × Mem} (hE : f_X6_paragraph x1 x2 V = some o) : CT l g LX yX6_paragraph cX6_paragraph 3 (some .int) rm_X6_paragraph [.ref (ad g 0), .int x1, .int x2] V (some (.int o.1)) o.2 := by
  refine ct_of (by decide) (Nat.le_of_ble_eq_true rfl) ?_
  intro p e s m args below meth c ls hB hz hl
  exact w_X6_paragraph hB _ _ _ _ _ _  hE hz hl
def rm_X6_signOfLabel : Room := { frames := 5, cells := 0, slots := 0, locals := 193 }
set_option maxHeartbeats 4000000 in
set_option maxRecDepth 100000 in
theorem w_X6_signOfLabel {p : Program} {l : Launch} {e : Env} {s : State} {m : MethodId} {args : Array Value} {below : List Frame} {meth : Method} {c : Code} {g : GP} (hB : BX p s m args meth c g LX cX6_signOfLabel 4 RX6 (some .int)) {o : Int32 × Mem} : ∀ (x1 : Int32) (x2 : Int32) (x3 : Int32) (V : Mem) (H : Heap) (locs : List Loc) (ls : Array Slot), f_X6_signOfLabel x1 x2 x3 V = some o → OK g LX V s H locs → lv_has ls 4 [(0, .ref (ad g 0)), (1, .int x1), (2, .int x2), (3, .int x3)] → W p l e rm_X6_signOfLabel s m args below meth c H locs 0 0 (MQ below (QQ g LX (some (.int o.1)) o.2) args s 0 0 (Ar g LX)) (F0 m 0 ls []) := by
  obtain ⟨hx, hb, hml, hown, hT, hr, hlk, hK, hJ, hZ, hN⟩ := id hB
  intro x1 x2 x3 V H locs ls hE hz hl
  unfold f_X6_signOfLabel at hE
  refine lv_aload_n hx hb dX6_signOfLabel_0 rfl (lv_at hl 0 rfl) ?_
  refine g_X6_25 hB hz kdX_0 dX6_signOfLabel_1 ?_
  refine lv_iload_n hx hb dX6_signOfLabel_4 rfl (lv_at hl 1 rfl) ?_
  refine lv_iload_n hx hb dX6_signOfLabel_5 rfl (lv_at hl 2 rfl) ?_
  refine lv_aload_n hx hb dX6_signOfLabel_6 rfl (lv_at hl 0 rfl) ?_
  refine g_X6_50 hB hz kdX_0 dX6_signOfLabel_7 ?_
  obtain ⟨q10, hq10, hE⟩ := x_bind hE
  refine i_X6_202 hB hz kdX_4 (c_X3_writeLabel l g kdX_4 kdX_94 hq10) ⟨(Nat.le_of_ble_eq_true rfl), (Nat.le_of_ble_eq_true rfl)⟩ hl.1 (Nat.le_of_ble_eq_true rfl) dX6_signOfLabel_10 (fun H locs hz => ?_)
  refine lv_iload_n hx hb dX6_signOfLabel_13 rfl (lv_at hl 3 rfl) ?_
  refine lv_aload_n hx hb dX6_signOfLabel_14 rfl (lv_at hl 0 rfl) ?_
  refine g_X6_50 hB hz kdX_0 dX6_signOfLabel_15 ?_
  refine g_X6_206 hB hz kdX_94 dX6_signOfLabel_18 ?_
  refine lv_icmp_ge (tgt := 36) hx hb dX6_signOfLabel_21 (by decide) (fun c21 => ?_) (fun c21 => ?_)
  · have hE := (if_pos c21).symm.trans hE
    refine lv_ldc (v := (-1000000 : Int32)) hx hb hown (hT _ kw_527) dX6_signOfLabel_36 ?_
    exact x_iret hB hz hE dX6_signOfLabel_38
  · have hE := (if_neg c21).symm.trans hE
    refine lv_aload_n hx hb dX6_signOfLabel_24 rfl (lv_at hl 0 rfl) ?_
    refine g_X6_50 hB hz kdX_0 dX6_signOfLabel_25 ?_
    refine g_X6_302 hB hz kdX_94 dX6_signOfLabel_28 ?_
    refine lv_iload_n hx hb dX6_signOfLabel_31 rfl (lv_at hl 3 rfl) ?_
    obtain ⟨hi32, hE⟩ := x_chk hE
    refine x_cald hB hz kdX_95 hi32 dX6_signOfLabel_32 ?_
    refine lv_goto (tgt := 38) hx hb dX6_signOfLabel_33 (by decide) ?_
    exact x_iret hB hz hE dX6_signOfLabel_38
theorem c_X6_signOfLabel (l : Launch) (g : GP) {x1 : Int32} {x2 : Int32} {x3 : Int32} {V : Mem} {o : Int32 × Mem} (hE : f_X6_signOfLabel x1 x2 x3 V = some o) : CT l g LX yX6_signOfLabel cX6_signOfLabel 4 (some .int) rm_X6_signOfLabel [.ref (ad g 0), .int x1, .int x2, .int x3] V (some (.int o.1)) o.2 := by
  refine ct_of (by decide) (Nat.le_of_ble_eq_true rfl) ?_
  intro p e s m args below meth c ls hB hz hl
  exact w_X6_signOfLabel hB _ _ _ _ _ _ _  hE hz hl
def rm_X6_label : Room := { frames := 6, cells := 0, slots := 0, locals := 216 }
theorem i_X6_207 {p : Program} {l : Launch} {e : Env} {R : Room} {s : State} {m : MethodId} {args : Array Value} {below : List Frame} {meth : Method} {c : Code} {H : Heap} {locs : List Loc} {Q : State → Prop} {cc : ByteArray} {pc : Nat} {ls : Array Slot} {rest : List Value} {g : GP} {V : Mem} {nL : Nat} {ret : Option FieldType} (hB : BX p s m args meth c g LX cc nL RX6 ret) (hz : OK g LX V s H locs) {i : Nat} (hk : KD LX i 5) {a0 : Int32} {a1 : Int32} {a2 : Int32} {r : Int32} {V1 : Mem} (hM : CT l g LX yX6_signOfLabel cX6_signOfLabel 4 (some .int) rm_X6_signOfLabel [.ref (ad g i), .int a0, .int a1, .int a2] V (some (.int r)) V1) (hR : rm_X6_signOfLabel.frames + 1 ≤ R.frames ∧ 8 + (4 + 11) + rm_X6_signOfLabel.locals ≤ R.locals) (hsz : ls.size = nL) (hrest : (rest.map fun v => v.category).sum ≤ 8) (hdg : decode cc pc = .ok (.invokevirtual 207, 3)) (kk : ∀ (H1 : Heap) (locs1 : List Loc), OK g LX V1 s H1 locs1 → W p l e R s m args below meth c H1 locs1 0 0 Q (F0 m (pc + 3) ls (.int r :: rest))) : W p l e R s m args below meth c H locs 0 0 Q (F0 m pc ls (.int a2 :: .int a1 :: .int a0 :: .ref (ad g i) :: rest)) :=
  x_cv (As := [.int a0, .int a1, .int a2]) (n := 3) (T := TX6) (N := 14) hB hz hM hk rfl rfl rfl rfl kw_526 kw_62 kw_523 kw_525 kw_14 (by decide +kernel) rfl hR hsz hrest hdg kk
set_option maxHeartbeats 4000000 in
set_option maxRecDepth 100000 in
theorem w_X6_label {p : Program} {l : Launch} {e : Env} {s : State} {m : MethodId} {args : Array Value} {below : List Frame} {meth : Method} {c : Code} {g : GP} (hB : BX p s m args meth c g LX cX6_label 4 RX6 (some .int)) {o : Int32 × Mem} : ∀ (x1 : Int32) (x2 : Int32) (x3 : Int32) (V : Mem) (H : Heap) (locs : List Loc) (ls : Array Slot), f_X6_label x1 x2 x3 V = some o → OK g LX V s H locs → lv_has ls 4 [(0, .ref (ad g 0)), (1, .int x1), (2, .int x2), (3, .int x3)] → W p l e rm_X6_label s m args below meth c H locs 0 0 (MQ below (QQ g LX (some (.int o.1)) o.2) args s 0 0 (Ar g LX)) (F0 m 0 ls []) := by
  obtain ⟨hx, hb, hml, hown, hT, hr, hlk, hK, hJ, hZ, hN⟩ := id hB
  intro x1 x2 x3 V H locs ls hE hz hl
  unfold f_X6_label at hE
  refine lv_aload_n hx hb dX6_label_0 rfl (lv_at hl 0 rfl) ?_
  refine g_X6_25 hB hz kdX_0 dX6_label_1 ?_
  refine lv_iload_n hx hb dX6_label_4 rfl (lv_at hl 1 rfl) ?_
  obtain ⟨q5, hq5, hE⟩ := x_bind hE
  refine i_X6_166 hB hz kdX_4 (c_X3_has l g kdX_4 hq5) ⟨(Nat.le_of_ble_eq_true rfl), (Nat.le_of_ble_eq_true rfl)⟩ hl.1 (Nat.le_of_ble_eq_true rfl) dX6_label_5 (fun H locs hz => ?_)
  refine lv_if_eq (tgt := 22) hx hb dX6_label_8 (by decide) (fun c8 => ?_) (fun c8 => ?_)
  · have hE := (if_pos c8).symm.trans hE
    refine lv_ldc (v := (-1000001 : Int32)) hx hb hown (hT _ kw_264) dX6_label_22 ?_
    exact x_iret hB hz hE dX6_label_24
  · have hE := (if_neg c8).symm.trans hE
    refine lv_iload_n hx hb dX6_label_11 rfl (lv_at hl 2 rfl) ?_
    obtain ⟨q12, hq12, hE⟩ := x_bind hE
    refine i_X6_189 hB hz (c_X6_isLevel l g  hq12) ⟨(Nat.le_of_ble_eq_true rfl), (Nat.le_of_ble_eq_true rfl)⟩ hl.1 (Nat.le_of_ble_eq_true rfl) dX6_label_12 (fun H locs hz => ?_)
    refine lv_if_eq (tgt := 22) hx hb dX6_label_15 (by decide) (fun c15 => ?_) (fun c15 => ?_)
    · have hE := (if_pos c15).symm.trans hE
      refine lv_ldc (v := (-1000001 : Int32)) hx hb hown (hT _ kw_264) dX6_label_22 ?_
      exact x_iret hB hz hE dX6_label_24
    · have hE := (if_neg c15).symm.trans hE
      refine lv_iload_n hx hb dX6_label_18 rfl (lv_at hl 3 rfl) ?_
      refine lv_if_ge (tgt := 25) hx hb dX6_label_19 (by decide) (fun c19 => ?_) (fun c19 => ?_)
      · have hE := (if_pos c19).symm.trans hE
        refine lv_aload_n hx hb dX6_label_25 rfl (lv_at hl 0 rfl) ?_
        refine lv_iload_n hx hb dX6_label_26 rfl (lv_at hl 1 rfl) ?_
        refine lv_iload_n hx hb dX6_label_27 rfl (lv_at hl 2 rfl) ?_
        refine lv_iload_n hx hb dX6_label_28 rfl (lv_at hl 3 rfl) ?_
        obtain ⟨q29, hq29, hE⟩ := x_bind hE
        refine i_X6_207 hB hz kdX_0 (c_X6_signOfLabel l g  hq29) ⟨(Nat.le_of_ble_eq_true rfl), (Nat.le_of_ble_eq_true rfl)⟩ hl.1 (Nat.le_of_ble_eq_true rfl) dX6_label_29 (fun H locs hz => ?_)
        exact x_iret hB hz hE dX6_label_32
      · have hE := (if_neg c19).symm.trans hE
        refine lv_ldc (v := (-1000001 : Int32)) hx hb hown (hT _ kw_264) dX6_label_22 ?_
        exact x_iret hB hz hE dX6_label_24
theorem c_X6_label (l : Launch) (g : GP) {x1 : Int32} {x2 : Int32} {x3 : Int32} {V : Mem} {o : Int32 × Mem} (hE : f_X6_label x1 x2 x3 V = some o) : CT l g LX yX6_label cX6_label 4 (some .int) rm_X6_label [.ref (ad g 0), .int x1, .int x2, .int x3] V (some (.int o.1)) o.2 := by
  refine ct_of (by decide) (Nat.le_of_ble_eq_true rfl) ?_
  intro p e s m args below meth c ls hB hz hl
  exact w_X6_label hB _ _ _ _ _ _ _  hE hz hl
def rm_X6_called : Room := { frames := 6, cells := 0, slots := 0, locals := 216 }
set_option maxHeartbeats 4000000 in
set_option maxRecDepth 100000 in
theorem w_X6_called_89 {p : Program} {l : Launch} {e : Env} {s : State} {m : MethodId} {args : Array Value} {below : List Frame} {meth : Method} {c : Code} {g : GP} (hB : BX p s m args meth c g LX cX6_called 8 RX6 (some .int)) {o : Int32 × Mem} : ∀ (x1 : Int32) (x3 : Int32) (x7 : Int32) (V : Mem) (H : Heap) (locs : List Loc) (ls : Array Slot), f_X6_called_89 x1 x3 x7 V = some o → OK g LX V s H locs → lv_has ls 8 [(0, .ref (ad g 0)), (1, .int x1), (3, .int x3), (7, .int x7)] → W p l e rm_X6_called s m args below meth c H locs 0 0 (MQ below (QQ g LX (some (.int o.1)) o.2) args s 0 0 (Ar g LX)) (F0 m 89 ls []) := by
  obtain ⟨hx, hb, hml, hown, hT, hr, hlk, hK, hJ, hZ, hN⟩ := id hB
  intro x1 x3 x7 V H locs ls hE hz hl
  unfold f_X6_called_89 at hE
  refine lv_aload_n hx hb dX6_called_89 rfl (lv_at hl 0 rfl) ?_
  refine lv_iload_n hx hb dX6_called_90 rfl (lv_at hl 1 rfl) ?_
  refine lv_iload hx hb dX6_called_91 (lv_at hl 3 rfl) ?_
  refine lv_iload_n hx hb dX6_called_93 rfl (lv_at hl 2 rfl) ?_
  obtain ⟨q94, hq94, hE⟩ := x_bind hE
  refine i_X6_207 hB hz kdX_0 (c_X6_signOfLabel l g  hq94) ⟨(Nat.le_of_ble_eq_true rfl), (Nat.le_of_ble_eq_true rfl)⟩ hl.1 (Nat.le_of_ble_eq_true rfl) dX6_called_94 (fun H locs hz => ?_)
  exact x_iret hB hz hE dX6_called_97

set_option maxHeartbeats 4000000 in
set_option maxRecDepth 100000 in
theorem w_X6_called_63 {p : Program} {l : Launch} {e : Env} {s : State} {m : MethodId} {args : Array Value} {below : List Frame} {meth : Method} {c : Code} {g : GP} (hB : BX p s m args meth c g LX cX6_called 8 RX6 (some .int)) {o : Int32 × Mem} : ∀ (n : Nat), ∀ (x1 : Int32) (x3 : Int32) (r4 : Nat) (r5 : Nat) (x6 : Int32) (x7 : Int32) (V : Mem) (H : Heap) (locs : List Loc) (ls : Array Slot), KD LX r4 22 → KD LX r5 22 → f_X6_called_63 n x1 x3 r4 r5 x6 x7 V = some o → OK g LX V s H locs → lv_has ls 8 [(0, .ref (ad g 0)), (1, .int x1), (3, .int x3), (4, .ref (ad g r4)), (5, .ref (ad g r5)), (6, .int x6), (7, .int x7)] → W p l e rm_X6_called s m args below meth c H locs 0 0 (MQ below (QQ g LX (some (.int o.1)) o.2) args s 0 0 (Ar g LX)) (F0 m 63 ls []) := by
  obtain ⟨hx, hb, hml, hown, hT, hr, hlk, hK, hJ, hZ, hN⟩ := id hB
  intro n
  induction n with
  | zero =>
    intro x1 x3 r4 r5 x6 x7 V H locs ls k_r4 k_r5 hE hz hl
    exact absurd (show (none : Option (Int32 × Mem)) = some o from hE) (by simp)
  | succ n ih =>
    intro x1 x3 r4 r5 x6 x7 V H locs ls k_r4 k_r5 hE hz hl
    unfold f_X6_called_63 at hE
    refine lv_iload hx hb dX6_called_63 (lv_at hl 6 rfl) ?_
    refine lv_iload hx hb dX6_called_65 (lv_at hl 5 rfl) ?_
    refine lv_icmp_ge (tgt := 89) hx hb dX6_called_67 (by decide) (fun c67 => ?_) (fun c67 => ?_)
    · have hE := (if_pos c67).symm.trans hE
      exact w_X6_called_89 hB  _ _ _ _ _ _ _  hE hz (lv_sub hl [0, 1, 2, 6] rfl)
    · have hE := (if_neg c67).symm.trans hE
      refine lv_aload hx hb dX6_called_70 (lv_at hl 3 rfl) ?_
      refine lv_iload hx hb dX6_called_72 (lv_at hl 6 rfl) ?_
      obtain ⟨hi74, hE⟩ := x_chk hE
      refine x_iald (n := 6) hB hz k_r4 hi74 dX6_called_74 ?_
      refine lv_aload hx hb dX6_called_75 (lv_at hl 4 rfl) ?_
      refine lv_iload hx hb dX6_called_77 (lv_at hl 6 rfl) ?_
      obtain ⟨hi79, hE⟩ := x_chk hE
      refine x_iald (n := 6) hB hz k_r5 hi79 dX6_called_79 ?_
      refine lv_icmp_ne (tgt := 89) hx hb dX6_called_80 (by decide) (fun c80 => ?_) (fun c80 => ?_)
      · have hE := (if_neg c80).symm.trans hE
        exact w_X6_called_89 hB  _ _ _ _ _ _ _  hE hz (lv_sub hl [0, 1, 2, 6] rfl)
      · have hE := (if_pos c80).symm.trans hE
        refine lv_iinc (v := (x7 + 1)) (lv' := [(7, .int (x7 + 1)), (0, .ref (ad g 0)), (1, .int x1), (3, .int x3), (4, .ref (ad g r4)), (5, .ref (ad g r5)), (6, .int x6)]) hx hb dX6_called_83 hl (k := 6) rfl rfl (by decide) rfl (fun ls hl => ?_)
        refine lv_goto (tgt := 63) hx hb dX6_called_86 (by decide) ?_
        exact ih _ _ _ _ _ _ _ _ _ _ k_r4 k_r5 hE hz (lv_sub hl [1, 2, 3, 4, 5, 6, 0] rfl)

set_option maxHeartbeats 4000000 in
set_option maxRecDepth 100000 in
theorem w_X6_called {p : Program} {l : Launch} {e : Env} {s : State} {m : MethodId} {args : Array Value} {below : List Frame} {meth : Method} {c : Code} {g : GP} (hB : BX p s m args meth c g LX cX6_called 8 RX6 (some .int)) {o : Int32 × Mem} : ∀ (x1 : Int32) (x2 : Int32) (x3 : Int32) (V : Mem) (H : Heap) (locs : List Loc) (ls : Array Slot), f_X6_called x1 x2 x3 V = some o → OK g LX V s H locs → lv_has ls 8 [(0, .ref (ad g 0)), (1, .int x1), (2, .int x2), (3, .int x3)] → W p l e rm_X6_called s m args below meth c H locs 0 0 (MQ below (QQ g LX (some (.int o.1)) o.2) args s 0 0 (Ar g LX)) (F0 m 0 ls []) := by
  obtain ⟨hx, hb, hml, hown, hT, hr, hlk, hK, hJ, hZ, hN⟩ := id hB
  intro x1 x2 x3 V H locs ls hE hz hl
  unfold f_X6_called at hE
  refine lv_aload_n hx hb dX6_called_0 rfl (lv_at hl 0 rfl) ?_
  refine g_X6_25 hB hz kdX_0 dX6_called_1 ?_
  refine lv_iload_n hx hb dX6_called_4 rfl (lv_at hl 1 rfl) ?_
  obtain ⟨q5, hq5, hE⟩ := x_bind hE
  refine i_X6_166 hB hz kdX_4 (c_X3_has l g kdX_4 hq5) ⟨(Nat.le_of_ble_eq_true rfl), (Nat.le_of_ble_eq_true rfl)⟩ hl.1 (Nat.le_of_ble_eq_true rfl) dX6_called_5 (fun H locs hz => ?_)
  refine lv_if_eq (tgt := 26) hx hb dX6_called_8 (by decide) (fun c8 => ?_) (fun c8 => ?_)
  · have hE := (if_pos c8).symm.trans hE
    refine lv_ldc (v := (-1000001 : Int32)) hx hb hown (hT _ kw_264) dX6_called_26 ?_
    exact x_iret hB hz hE dX6_called_28
  · have hE := (if_neg c8).symm.trans hE
    refine lv_aload_n hx hb dX6_called_11 rfl (lv_at hl 0 rfl) ?_
    refine g_X6_25 hB hz kdX_0 dX6_called_12 ?_
    refine lv_iload_n hx hb dX6_called_15 rfl (lv_at hl 2 rfl) ?_
    obtain ⟨q16, hq16, hE⟩ := x_bind hE
    refine i_X6_166 hB hz kdX_4 (c_X3_has l g kdX_4 hq16) ⟨(Nat.le_of_ble_eq_true rfl), (Nat.le_of_ble_eq_true rfl)⟩ hl.1 (Nat.le_of_ble_eq_true rfl) dX6_called_16 (fun H locs hz => ?_)
    refine lv_if_eq (tgt := 26) hx hb dX6_called_19 (by decide) (fun c19 => ?_) (fun c19 => ?_)
    · have hE := (if_pos c19).symm.trans hE
      refine lv_ldc (v := (-1000001 : Int32)) hx hb hown (hT _ kw_264) dX6_called_26 ?_
      exact x_iret hB hz hE dX6_called_28
    · have hE := (if_neg c19).symm.trans hE
      refine lv_iload_n hx hb dX6_called_22 rfl (lv_at hl 3 rfl) ?_
      refine lv_if_ge (tgt := 29) hx hb dX6_called_23 (by decide) (fun c23 => ?_) (fun c23 => ?_)
      · have hE := (if_pos c23).symm.trans hE
        refine lv_aload_n hx hb dX6_called_29 rfl (lv_at hl 0 rfl) ?_
        refine g_X6_25 hB hz kdX_0 dX6_called_30 ?_
        refine lv_iload_n hx hb dX6_called_33 rfl (lv_at hl 1 rfl) ?_
        obtain ⟨q34, hq34, hE⟩ := x_bind hE
        refine i_X6_198 hB hz kdX_4 (c_X3_behind l g kdX_4 hq34) ⟨(Nat.le_of_ble_eq_true rfl), (Nat.le_of_ble_eq_true rfl)⟩ hl.1 (Nat.le_of_ble_eq_true rfl) dX6_called_34 (fun H locs hz => ?_)
        obtain ⟨hk34, hE⟩ := x_chk hE
        refine lv_astore (lv' := [(4, .ref (ad g q34.1)), (0, .ref (ad g 0)), (1, .int x1), (2, .int x2), (3, .int x3)]) hx hb dX6_called_37 hl (by decide) rfl (fun ls hl => ?_)
        refine lv_aload_n hx hb dX6_called_39 rfl (lv_at hl 1 rfl) ?_
        refine g_X6_25 hB hz kdX_0 dX6_called_40 ?_
        refine lv_iload_n hx hb dX6_called_43 rfl (lv_at hl 3 rfl) ?_
        obtain ⟨q44, hq44, hE⟩ := x_bind hE
        refine i_X6_198 hB hz kdX_4 (c_X3_behind l g kdX_4 hq44) ⟨(Nat.le_of_ble_eq_true rfl), (Nat.le_of_ble_eq_true rfl)⟩ hl.1 (Nat.le_of_ble_eq_true rfl) dX6_called_44 (fun H locs hz => ?_)
        obtain ⟨hk44, hE⟩ := x_chk hE
        refine lv_astore (lv' := [(5, .ref (ad g q44.1)), (4, .ref (ad g q34.1)), (0, .ref (ad g 0)), (1, .int x1), (2, .int x2), (3, .int x3)]) hx hb dX6_called_47 hl (by decide) rfl (fun ls hl => ?_)
        refine lv_aload_n hx hb dX6_called_49 rfl (lv_at hl 2 rfl) ?_
        refine g_X6_25 hB hz kdX_0 dX6_called_50 ?_
        refine g_X6_180 hB hz kdX_4 dX6_called_53 ?_
        refine lv_iload_n hx hb dX6_called_56 rfl (lv_at hl 3 rfl) ?_
        obtain ⟨hi57, hE⟩ := x_chk hE
        refine x_iald (n := 24) hB hz kdX_7 hi57 dX6_called_57 ?_
        refine lv_istore (lv' := [(6, .int (q44.2 7 (x1).toNatClampNeg)), (5, .ref (ad g q44.1)), (4, .ref (ad g q34.1)), (0, .ref (ad g 0)), (1, .int x1), (2, .int x2), (3, .int x3)]) hx hb dX6_called_58 hl (by decide) rfl (fun ls hl => ?_)
        refine lv_iconst (v := (0 : Int32)) hx hb dX6_called_60 (by decide) ?_
        refine lv_istore (lv' := [(7, .int (0 : Int32)), (6, .int (q44.2 7 (x1).toNatClampNeg)), (5, .ref (ad g q44.1)), (4, .ref (ad g q34.1)), (0, .ref (ad g 0)), (1, .int x1), (2, .int x2), (3, .int x3)]) hx hb dX6_called_61 hl (by decide) rfl (fun ls hl => ?_)
        exact w_X6_called_63 hB  _ _ _ _ _ _ _ _ _ _ _ (kb_KD hk34) (kb_KD hk44) hE hz (lv_sub hl [4, 5, 7, 3, 2, 1, 0] rfl)
      · have hE := (if_neg c23).symm.trans hE
        refine lv_ldc (v := (-1000001 : Int32)) hx hb hown (hT _ kw_264) dX6_called_26 ?_
        exact x_iret hB hz hE dX6_called_28
theorem c_X6_called (l : Launch) (g : GP) {x1 : Int32} {x2 : Int32} {x3 : Int32} {V : Mem} {o : Int32 × Mem} (hE : f_X6_called x1 x2 x3 V = some o) : CT l g LX yX6_called cX6_called 8 (some .int) rm_X6_called [.ref (ad g 0), .int x1, .int x2, .int x3] V (some (.int o.1)) o.2 := by
  refine ct_of (by decide) (Nat.le_of_ble_eq_true rfl) ?_
  intro p e s m args below meth c ls hB hz hl
  exact w_X6_called hB _ _ _ _ _ _ _  hE hz hl
def rm_X6_span : Room := { frames := 3, cells := 0, slots := 0, locals := 145 }
theorem i_X6_211 {p : Program} {l : Launch} {e : Env} {R : Room} {s : State} {m : MethodId} {args : Array Value} {below : List Frame} {meth : Method} {c : Code} {H : Heap} {locs : List Loc} {Q : State → Prop} {cc : ByteArray} {pc : Nat} {ls : Array Slot} {rest : List Value} {g : GP} {V : Mem} {nL : Nat} {ret : Option FieldType} (hB : BX p s m args meth c g LX cc nL RX6 ret) (hz : OK g LX V s H locs) {a0 : Nat} {V1 : Mem} (hM : CT l g LX yX1_toThemselves cX1_toThemselves 2 none rm_X1_toThemselves [.ref (ad g a0)] V none V1) (hR : rm_X1_toThemselves.frames + 1 ≤ R.frames ∧ 8 + (2 + 11) + rm_X1_toThemselves.locals ≤ R.locals) (hsz : ls.size = nL) (hrest : (rest.map fun v => v.category).sum ≤ 8) (hdg : decode cc pc = .ok (.invokestatic 211, 3)) (kk : ∀ (H1 : Heap) (locs1 : List Loc), OK g LX V1 s H1 locs1 → W p l e R s m args below meth c H1 locs1 0 0 Q (F0 m (pc + 3) ls (rest))) : W p l e R s m args below meth c H locs 0 0 Q (F0 m pc ls (.ref (ad g a0) :: rest)) :=
  x_cs (As := [.ref (ad g a0)]) (n := 1) hB hz hM rfl rfl kw_538 kw_72 kw_536 kw_537 (by decide +kernel) rfl hR hsz hrest hdg kk
theorem i_X6_224 {p : Program} {l : Launch} {e : Env} {R : Room} {s : State} {m : MethodId} {args : Array Value} {below : List Frame} {meth : Method} {c : Code} {H : Heap} {locs : List Loc} {Q : State → Prop} {cc : ByteArray} {pc : Nat} {ls : Array Slot} {rest : List Value} {g : GP} {V : Mem} {nL : Nat} {ret : Option FieldType} (hB : BX p s m args meth c g LX cc nL RX6 ret) (hz : OK g LX V s H locs) {a0 : Int32} {r : Int32} {V1 : Mem} (hM : CT l g LX yX1_amountOf cX1_amountOf 1 (some .int) rm_X1_amountOf [.int a0] V (some (.int r)) V1) (hR : rm_X1_amountOf.frames + 1 ≤ R.frames ∧ 8 + (1 + 11) + rm_X1_amountOf.locals ≤ R.locals) (hsz : ls.size = nL) (hrest : (rest.map fun v => v.category).sum ≤ 8) (hdg : decode cc pc = .ok (.invokestatic 224, 3)) (kk : ∀ (H1 : Heap) (locs1 : List Loc), OK g LX V1 s H1 locs1 → W p l e R s m args below meth c H1 locs1 0 0 Q (F0 m (pc + 3) ls (.int r :: rest))) : W p l e R s m args below meth c H locs 0 0 Q (F0 m pc ls (.int a0 :: rest)) :=
  x_cs (As := [.int a0]) (n := 1) hB hz hM rfl rfl kw_548 kw_72 kw_546 kw_547 (by decide +kernel) rfl hR hsz hrest hdg kk
theorem i_X6_221 {p : Program} {l : Launch} {e : Env} {R : Room} {s : State} {m : MethodId} {args : Array Value} {below : List Frame} {meth : Method} {c : Code} {H : Heap} {locs : List Loc} {Q : State → Prop} {cc : ByteArray} {pc : Nat} {ls : Array Slot} {rest : List Value} {g : GP} {V : Mem} {nL : Nat} {ret : Option FieldType} (hB : BX p s m args meth c g LX cc nL RX6 ret) (hz : OK g LX V s H locs) {a0 : Int32} {r : Int32} {V1 : Mem} (hM : CT l g LX yX1_sourceOf cX1_sourceOf 1 (some .int) rm_X1_sourceOf [.int a0] V (some (.int r)) V1) (hR : rm_X1_sourceOf.frames + 1 ≤ R.frames ∧ 8 + (1 + 11) + rm_X1_sourceOf.locals ≤ R.locals) (hsz : ls.size = nL) (hrest : (rest.map fun v => v.category).sum ≤ 8) (hdg : decode cc pc = .ok (.invokestatic 221, 3)) (kk : ∀ (H1 : Heap) (locs1 : List Loc), OK g LX V1 s H1 locs1 → W p l e R s m args below meth c H1 locs1 0 0 Q (F0 m (pc + 3) ls (.int r :: rest))) : W p l e R s m args below meth c H locs 0 0 Q (F0 m pc ls (.int a0 :: rest)) :=
  x_cs (As := [.int a0]) (n := 1) hB hz hM rfl rfl kw_545 kw_72 kw_543 kw_544 (by decide +kernel) rfl hR hsz hrest hdg kk
theorem i_X6_217 {p : Program} {l : Launch} {e : Env} {R : Room} {s : State} {m : MethodId} {args : Array Value} {below : List Frame} {meth : Method} {c : Code} {H : Heap} {locs : List Loc} {Q : State → Prop} {cc : ByteArray} {pc : Nat} {ls : Array Slot} {rest : List Value} {g : GP} {V : Mem} {nL : Nat} {ret : Option FieldType} (hB : BX p s m args meth c g LX cc nL RX6 ret) (hz : OK g LX V s H locs) {i : Nat} (hk : KD LX i 2) {a0 : Int32} {a1 : Nat} {V1 : Mem} (hM : CT l g LX yX3_countOver cX3_countOver 3 none rm_X3_countOver [.ref (ad g i), .int a0, .ref (ad g a1)] V none V1) (hR : rm_X3_countOver.frames + 1 ≤ R.frames ∧ 8 + (3 + 11) + rm_X3_countOver.locals ≤ R.locals) (hsz : ls.size = nL) (hrest : (rest.map fun v => v.category).sum ≤ 8) (hdg : decode cc pc = .ok (.invokevirtual 217, 3)) (kk : ∀ (H1 : Heap) (locs1 : List Loc), OK g LX V1 s H1 locs1 → W p l e R s m args below meth c H1 locs1 0 0 Q (F0 m (pc + 3) ls (rest))) : W p l e R s m args below meth c H locs 0 0 Q (F0 m pc ls (.ref (ad g a1) :: .int a0 :: .ref (ad g i) :: rest)) :=
  x_cv (As := [.int a0, .ref (ad g a1)]) (n := 2) (T := TX3) (N := 7) hB hz hM hk rfl rfl rfl rfl kw_542 kw_64 kw_539 kw_540 kw_541 (by decide +kernel) rfl hR hsz hrest hdg kk
set_option maxHeartbeats 4000000 in
set_option maxRecDepth 100000 in
theorem w_X6_span_59 {p : Program} {l : Launch} {e : Env} {s : State} {m : MethodId} {args : Array Value} {below : List Frame} {meth : Method} {c : Code} {g : GP} (hB : BX p s m args meth c g LX cX6_span 6 RX6 (some .int)) {o : Int32 × Mem} : ∀ (n : Nat), ∀ (x2 : Int32) (x3 : Int32) (x4 : Int32) (x5 : Int32) (V : Mem) (H : Heap) (locs : List Loc) (ls : Array Slot), f_X6_span_59 n x2 x3 x4 x5 V = some o → OK g LX V s H locs → lv_has ls 6 [(0, .ref (ad g 0)), (2, .int x2), (3, .int x3), (4, .int x4), (5, .int x5)] → W p l e rm_X6_span s m args below meth c H locs 0 0 (MQ below (QQ g LX (some (.int o.1)) o.2) args s 0 0 (Ar g LX)) (F0 m 59 ls []) := by
  obtain ⟨hx, hb, hml, hown, hT, hr, hlk, hK, hJ, hZ, hN⟩ := id hB
  intro n
  induction n with
  | zero =>
    intro x2 x3 x4 x5 V H locs ls hE hz hl
    exact absurd (show (none : Option (Int32 × Mem)) = some o from hE) (by simp)
  | succ n ih =>
    intro x2 x3 x4 x5 V H locs ls hE hz hl
    unfold f_X6_span_59 at hE
    refine lv_iload hx hb dX6_span_59 (lv_at hl 4 rfl) ?_
    refine lv_iload_n hx hb dX6_span_61 rfl (lv_at hl 1 rfl) ?_
    refine lv_icmp_gt (tgt := 84) hx hb dX6_span_62 (by decide) (fun c62 => ?_) (fun c62 => ?_)
    · have hE := (if_pos c62).symm.trans hE
      refine lv_iload hx hb dX6_span_84 (lv_at hl 3 rfl) ?_
      refine lv_if_ne (tgt := 101) hx hb dX6_span_86 (by decide) (fun c86 => ?_) (fun c86 => ?_)
      · have hE := (if_neg c86).symm.trans hE
        refine lv_aload_n hx hb dX6_span_101 rfl (lv_at hl 0 rfl) ?_
        refine g_X6_54 hB hz kdX_0 dX6_span_102 ?_
        refine lv_iload_n hx hb dX6_span_105 rfl (lv_at hl 2 rfl) ?_
        obtain ⟨hi106, hE⟩ := x_chk hE
        refine x_iald (n := 6) hB hz kdX_96 hi106 dX6_span_106 ?_
        obtain ⟨q107, hq107, hE⟩ := x_bind hE
        refine i_X6_224 hB hz (c_X1_amountOf l g  hq107) ⟨(Nat.le_of_ble_eq_true rfl), (Nat.le_of_ble_eq_true rfl)⟩ hl.1 (Nat.le_of_ble_eq_true rfl) dX6_span_107 (fun H locs hz => ?_)
        exact x_iret hB hz hE dX6_span_110
      · have hE := (if_pos c86).symm.trans hE
        refine lv_aload_n hx hb dX6_span_89 rfl (lv_at hl 0 rfl) ?_
        refine g_X6_54 hB hz kdX_0 dX6_span_90 ?_
        refine lv_iload_n hx hb dX6_span_93 rfl (lv_at hl 2 rfl) ?_
        obtain ⟨hi94, hE⟩ := x_chk hE
        refine x_iald (n := 6) hB hz kdX_96 hi94 dX6_span_94 ?_
        obtain ⟨q95, hq95, hE⟩ := x_bind hE
        refine i_X6_221 hB hz (c_X1_sourceOf l g  hq95) ⟨(Nat.le_of_ble_eq_true rfl), (Nat.le_of_ble_eq_true rfl)⟩ hl.1 (Nat.le_of_ble_eq_true rfl) dX6_span_95 (fun H locs hz => ?_)
        refine lv_goto (tgt := 110) hx hb dX6_span_98 (by decide) ?_
        exact x_iret hB hz hE dX6_span_110
    · have hE := (if_neg c62).symm.trans hE
      refine lv_aload_n hx hb dX6_span_65 rfl (lv_at hl 0 rfl) ?_
      refine g_X6_25 hB hz kdX_0 dX6_span_66 ?_
      refine lv_iload hx hb dX6_span_69 (lv_at hl 4 rfl) ?_
      refine lv_aload_n hx hb dX6_span_71 rfl (lv_at hl 0 rfl) ?_
      refine g_X6_54 hB hz kdX_0 dX6_span_72 ?_
      obtain ⟨q75, hq75, hE⟩ := x_bind hE
      refine i_X6_217 hB hz kdX_4 (c_X3_countOver l g kdX_4 kdX_96 hq75) ⟨(Nat.le_of_ble_eq_true rfl), (Nat.le_of_ble_eq_true rfl)⟩ hl.1 (Nat.le_of_ble_eq_true rfl) dX6_span_75 (fun H locs hz => ?_)
      refine lv_iinc (v := (x5 + 1)) (lv' := [(5, .int (x5 + 1)), (0, .ref (ad g 0)), (2, .int x2), (3, .int x3), (4, .int x4)]) hx hb dX6_span_78 hl (k := 4) rfl rfl (by decide) rfl (fun ls hl => ?_)
      refine lv_goto (tgt := 59) hx hb dX6_span_81 (by decide) ?_
      exact ih _ _ _ _ _ _ _ _  hE hz (lv_sub hl [1, 2, 3, 4, 0] rfl)

set_option maxHeartbeats 4000000 in
set_option maxRecDepth 100000 in
theorem w_X6_span {p : Program} {l : Launch} {e : Env} {s : State} {m : MethodId} {args : Array Value} {below : List Frame} {meth : Method} {c : Code} {g : GP} (hB : BX p s m args meth c g LX cX6_span 6 RX6 (some .int)) {o : Int32 × Mem} : ∀ (x1 : Int32) (x2 : Int32) (x3 : Int32) (x4 : Int32) (V : Mem) (H : Heap) (locs : List Loc) (ls : Array Slot), f_X6_span x1 x2 x3 x4 V = some o → OK g LX V s H locs → lv_has ls 6 [(0, .ref (ad g 0)), (1, .int x1), (2, .int x2), (3, .int x3), (4, .int x4)] → W p l e rm_X6_span s m args below meth c H locs 0 0 (MQ below (QQ g LX (some (.int o.1)) o.2) args s 0 0 (Ar g LX)) (F0 m 0 ls []) := by
  obtain ⟨hx, hb, hml, hown, hT, hr, hlk, hK, hJ, hZ, hN⟩ := id hB
  intro x1 x2 x3 x4 V H locs ls hE hz hl
  unfold f_X6_span at hE
  refine lv_aload_n hx hb dX6_span_0 rfl (lv_at hl 0 rfl) ?_
  refine g_X6_25 hB hz kdX_0 dX6_span_1 ?_
  refine lv_iload_n hx hb dX6_span_4 rfl (lv_at hl 1 rfl) ?_
  obtain ⟨q5, hq5, hE⟩ := x_bind hE
  refine i_X6_166 hB hz kdX_4 (c_X3_has l g kdX_4 hq5) ⟨(Nat.le_of_ble_eq_true rfl), (Nat.le_of_ble_eq_true rfl)⟩ hl.1 (Nat.le_of_ble_eq_true rfl) dX6_span_5 (fun H locs hz => ?_)
  refine lv_if_eq (tgt := 46) hx hb dX6_span_8 (by decide) (fun c8 => ?_) (fun c8 => ?_)
  · have hE := (if_pos c8).symm.trans hE
    refine lv_ldc (v := (-1000001 : Int32)) hx hb hown (hT _ kw_264) dX6_span_46 ?_
    exact x_iret hB hz hE dX6_span_48
  · have hE := (if_neg c8).symm.trans hE
    refine lv_aload_n hx hb dX6_span_11 rfl (lv_at hl 0 rfl) ?_
    refine g_X6_25 hB hz kdX_0 dX6_span_12 ?_
    refine lv_iload_n hx hb dX6_span_15 rfl (lv_at hl 2 rfl) ?_
    obtain ⟨q16, hq16, hE⟩ := x_bind hE
    refine i_X6_166 hB hz kdX_4 (c_X3_has l g kdX_4 hq16) ⟨(Nat.le_of_ble_eq_true rfl), (Nat.le_of_ble_eq_true rfl)⟩ hl.1 (Nat.le_of_ble_eq_true rfl) dX6_span_16 (fun H locs hz => ?_)
    refine lv_if_eq (tgt := 46) hx hb dX6_span_19 (by decide) (fun c19 => ?_) (fun c19 => ?_)
    · have hE := (if_pos c19).symm.trans hE
      refine lv_ldc (v := (-1000001 : Int32)) hx hb hown (hT _ kw_264) dX6_span_46 ?_
      exact x_iret hB hz hE dX6_span_48
    · have hE := (if_neg c19).symm.trans hE
      refine lv_iload_n hx hb dX6_span_22 rfl (lv_at hl 1 rfl) ?_
      refine lv_iload_n hx hb dX6_span_23 rfl (lv_at hl 2 rfl) ?_
      refine lv_icmp_gt (tgt := 46) hx hb dX6_span_24 (by decide) (fun c24 => ?_) (fun c24 => ?_)
      · have hE := (if_pos c24).symm.trans hE
        refine lv_ldc (v := (-1000001 : Int32)) hx hb hown (hT _ kw_264) dX6_span_46 ?_
        exact x_iret hB hz hE dX6_span_48
      · have hE := (if_neg c24).symm.trans hE
        refine lv_iload_n hx hb dX6_span_27 rfl (lv_at hl 3 rfl) ?_
        refine lv_iconst (v := (0 : Int32)) hx hb dX6_span_28 (by decide) ?_
        refine lv_iconst (v := (5 : Int32)) hx hb dX6_span_29 (by decide) ?_
        obtain ⟨q30, hq30, hE⟩ := x_bind hE
        refine i_X6_79 hB hz (c_X6_isBetween l g  hq30) ⟨(Nat.le_of_ble_eq_true rfl), (Nat.le_of_ble_eq_true rfl)⟩ hl.1 (Nat.le_of_ble_eq_true rfl) dX6_span_30 (fun H locs hz => ?_)
        refine lv_if_eq (tgt := 46) hx hb dX6_span_33 (by decide) (fun c33 => ?_) (fun c33 => ?_)
        · have hE := (if_pos c33).symm.trans hE
          refine lv_ldc (v := (-1000001 : Int32)) hx hb hown (hT _ kw_264) dX6_span_46 ?_
          exact x_iret hB hz hE dX6_span_48
        · have hE := (if_neg c33).symm.trans hE
          refine lv_iload hx hb dX6_span_36 (lv_at hl 4 rfl) ?_
          refine lv_iconst (v := (0 : Int32)) hx hb dX6_span_38 (by decide) ?_
          refine lv_iconst (v := (1 : Int32)) hx hb dX6_span_39 (by decide) ?_
          obtain ⟨q40, hq40, hE⟩ := x_bind hE
          refine i_X6_79 hB hz (c_X6_isBetween l g  hq40) ⟨(Nat.le_of_ble_eq_true rfl), (Nat.le_of_ble_eq_true rfl)⟩ hl.1 (Nat.le_of_ble_eq_true rfl) dX6_span_40 (fun H locs hz => ?_)
          refine lv_if_ne (tgt := 49) hx hb dX6_span_43 (by decide) (fun c43 => ?_) (fun c43 => ?_)
          · have hE := (if_neg c43).symm.trans hE
            refine lv_aload_n hx hb dX6_span_49 rfl (lv_at hl 0 rfl) ?_
            refine g_X6_54 hB hz kdX_0 dX6_span_50 ?_
            obtain ⟨q53, hq53, hE⟩ := x_bind hE
            refine i_X6_211 hB hz (c_X1_toThemselves l g kdX_96 hq53) ⟨(Nat.le_of_ble_eq_true rfl), (Nat.le_of_ble_eq_true rfl)⟩ hl.1 (Nat.le_of_ble_eq_true rfl) dX6_span_53 (fun H locs hz => ?_)
            refine lv_iload_n hx hb dX6_span_56 rfl (lv_at hl 1 rfl) ?_
            refine lv_istore (lv' := [(5, .int x1), (0, .ref (ad g 0)), (1, .int x1), (2, .int x2), (3, .int x3), (4, .int x4)]) hx hb dX6_span_57 hl (by decide) rfl (fun ls hl => ?_)
            exact w_X6_span_59 hB  _ _ _ _ _ _ _ _ _  hE hz (lv_sub hl [1, 3, 4, 5, 0] rfl)
          · have hE := (if_pos c43).symm.trans hE
            refine lv_ldc (v := (-1000001 : Int32)) hx hb hown (hT _ kw_264) dX6_span_46 ?_
            exact x_iret hB hz hE dX6_span_48
theorem c_X6_span (l : Launch) (g : GP) {x1 : Int32} {x2 : Int32} {x3 : Int32} {x4 : Int32} {V : Mem} {o : Int32 × Mem} (hE : f_X6_span x1 x2 x3 x4 V = some o) : CT l g LX yX6_span cX6_span 6 (some .int) rm_X6_span [.ref (ad g 0), .int x1, .int x2, .int x3, .int x4] V (some (.int o.1)) o.2 := by
  refine ct_of (by decide) (Nat.le_of_ble_eq_true rfl) ?_
  intro p e s m args below meth c ls hB hz hl
  exact w_X6_span hB _ _ _ _ _ _ _ _  hE hz hl
def rm_X6_registeredAhead : Room := { frames := 2, cells := 0, slots := 0, locals := 123 }
theorem i_X6_238 {p : Program} {l : Launch} {e : Env} {R : Room} {s : State} {m : MethodId} {args : Array Value} {below : List Frame} {meth : Method} {c : Code} {H : Heap} {locs : List Loc} {Q : State → Prop} {cc : ByteArray} {pc : Nat} {ls : Array Slot} {rest : List Value} {g : GP} {V : Mem} {nL : Nat} {ret : Option FieldType} (hB : BX p s m args meth c g LX cc nL RX6 ret) (hz : OK g LX V s H locs) {i : Nat} (hk : KD LX i 3) {a0 : Nat} {r : Int32} {V1 : Mem} (hM : CT l g LX yX4_order cX4_order 4 (some .int) rm_X4_order [.ref (ad g i), .ref (ad g a0)] V (some (.int r)) V1) (hR : rm_X4_order.frames + 1 ≤ R.frames ∧ 8 + (4 + 11) + rm_X4_order.locals ≤ R.locals) (hsz : ls.size = nL) (hrest : (rest.map fun v => v.category).sum ≤ 8) (hdg : decode cc pc = .ok (.invokevirtual 238, 3)) (kk : ∀ (H1 : Heap) (locs1 : List Loc), OK g LX V1 s H1 locs1 → W p l e R s m args below meth c H1 locs1 0 0 Q (F0 m (pc + 3) ls (.int r :: rest))) : W p l e R s m args below meth c H locs 0 0 Q (F0 m pc ls (.ref (ad g a0) :: .ref (ad g i) :: rest)) :=
  x_cv (As := [.ref (ad g a0)]) (n := 1) (T := TX4) (N := 2) hB hz hM hk rfl rfl rfl rfl kw_561 kw_66 kw_558 kw_559 kw_560 (by decide +kernel) rfl hR hsz hrest hdg kk
theorem i_X6_227 {p : Program} {l : Launch} {e : Env} {R : Room} {s : State} {m : MethodId} {args : Array Value} {below : List Frame} {meth : Method} {c : Code} {H : Heap} {locs : List Loc} {Q : State → Prop} {cc : ByteArray} {pc : Nat} {ls : Array Slot} {rest : List Value} {g : GP} {V : Mem} {nL : Nat} {ret : Option FieldType} (hB : BX p s m args meth c g LX cc nL RX6 ret) (hz : OK g LX V s H locs) {i : Nat} (hk : KD LX i 2) {a0 : Int32} {r : Int32} {V1 : Mem} (hM : CT l g LX yX3_isLabelled cX3_isLabelled 2 (some .boolean) rm_X3_isLabelled [.ref (ad g i), .int a0] V (some (.int r)) V1) (hR : rm_X3_isLabelled.frames + 1 ≤ R.frames ∧ 8 + (2 + 11) + rm_X3_isLabelled.locals ≤ R.locals) (hsz : ls.size = nL) (hrest : (rest.map fun v => v.category).sum ≤ 8) (hdg : decode cc pc = .ok (.invokevirtual 227, 3)) (kk : ∀ (H1 : Heap) (locs1 : List Loc), OK g LX V1 s H1 locs1 → W p l e R s m args below meth c H1 locs1 0 0 Q (F0 m (pc + 3) ls (.int r :: rest))) : W p l e R s m args below meth c H locs 0 0 Q (F0 m pc ls (.int a0 :: .ref (ad g i) :: rest)) :=
  x_cv (As := [.int a0]) (n := 1) (T := TX3) (N := 7) hB hz hM hk rfl rfl rfl rfl kw_490 kw_64 kw_553 kw_488 kw_489 (by decide +kernel) rfl hR hsz hrest hdg kk
set_option maxHeartbeats 4000000 in
set_option maxRecDepth 100000 in
theorem w_X6_registeredAhead_61 {p : Program} {l : Launch} {e : Env} {s : State} {m : MethodId} {args : Array Value} {below : List Frame} {meth : Method} {c : Code} {g : GP} (hB : BX p s m args meth c g LX cX6_registeredAhead 5 RX6 (some .int)) {o : Int32 × Mem} {k4 : Int32 → Int32 → Int32 → Mem → Option (Int32 × Mem)} (hk4 : ∀ (x1 : Int32) (x2 : Int32) (x3 : Int32) (V : Mem) (H : Heap) (locs : List Loc) (ls : Array Slot), k4 x1 x2 x3 V = some o → OK g LX V s H locs → lv_has ls 5 [(0, .ref (ad g 0)), (1, .int x1), (2, .int x2), (3, .int x3)] → W p l e rm_X6_registeredAhead s m args below meth c H locs 0 0 (MQ below (QQ g LX (some (.int o.1)) o.2) args s 0 0 (Ar g LX)) (F0 m 4 ls [])) : ∀ (x1 : Int32) (x2 : Int32) (x3 : Int32) (V : Mem) (H : Heap) (locs : List Loc) (ls : Array Slot), f_X6_registeredAhead_61 k4 x1 x2 x3 V = some o → OK g LX V s H locs → lv_has ls 5 [(0, .ref (ad g 0)), (1, .int x1), (2, .int x2), (3, .int x3)] → W p l e rm_X6_registeredAhead s m args below meth c H locs 0 0 (MQ below (QQ g LX (some (.int o.1)) o.2) args s 0 0 (Ar g LX)) (F0 m 61 ls []) := by
  obtain ⟨hx, hb, hml, hown, hT, hr, hlk, hK, hJ, hZ, hN⟩ := id hB
  intro x1 x2 x3 V H locs ls hE hz hl
  unfold f_X6_registeredAhead_61 at hE
  refine lv_iinc (v := (x3 + 1)) (lv' := [(3, .int (x3 + 1)), (0, .ref (ad g 0)), (1, .int x1), (2, .int x2)]) hx hb dX6_registeredAhead_61 hl (k := 3) rfl rfl (by decide) rfl (fun ls hl => ?_)
  refine lv_goto (tgt := 4) hx hb dX6_registeredAhead_64 (by decide) ?_
  exact hk4 _ _ _ _ _ _ _  hE hz (lv_sub hl [1, 2, 3, 0] rfl)

set_option maxHeartbeats 4000000 in
set_option maxRecDepth 100000 in
theorem w_X6_registeredAhead_58 {p : Program} {l : Launch} {e : Env} {s : State} {m : MethodId} {args : Array Value} {below : List Frame} {meth : Method} {c : Code} {g : GP} (hB : BX p s m args meth c g LX cX6_registeredAhead 5 RX6 (some .int)) {o : Int32 × Mem} {k4 : Int32 → Int32 → Int32 → Mem → Option (Int32 × Mem)} (hk4 : ∀ (x1 : Int32) (x2 : Int32) (x3 : Int32) (V : Mem) (H : Heap) (locs : List Loc) (ls : Array Slot), k4 x1 x2 x3 V = some o → OK g LX V s H locs → lv_has ls 5 [(0, .ref (ad g 0)), (1, .int x1), (2, .int x2), (3, .int x3)] → W p l e rm_X6_registeredAhead s m args below meth c H locs 0 0 (MQ below (QQ g LX (some (.int o.1)) o.2) args s 0 0 (Ar g LX)) (F0 m 4 ls [])) : ∀ (x1 : Int32) (x2 : Int32) (x3 : Int32) (V : Mem) (H : Heap) (locs : List Loc) (ls : Array Slot), f_X6_registeredAhead_58 k4 x1 x2 x3 V = some o → OK g LX V s H locs → lv_has ls 5 [(0, .ref (ad g 0)), (1, .int x1), (2, .int x2), (3, .int x3)] → W p l e rm_X6_registeredAhead s m args below meth c H locs 0 0 (MQ below (QQ g LX (some (.int o.1)) o.2) args s 0 0 (Ar g LX)) (F0 m 58 ls []) := by
  obtain ⟨hx, hb, hml, hown, hT, hr, hlk, hK, hJ, hZ, hN⟩ := id hB
  intro x1 x2 x3 V H locs ls hE hz hl
  unfold f_X6_registeredAhead_58 at hE
  refine lv_iinc (v := (x2 + 1)) (lv' := [(2, .int (x2 + 1)), (0, .ref (ad g 0)), (1, .int x1), (3, .int x3)]) hx hb dX6_registeredAhead_58 hl (k := 2) rfl rfl (by decide) rfl (fun ls hl => ?_)
  exact w_X6_registeredAhead_61 hB hk4 _ _ _ _ _ _ _  hE hz (lv_sub hl [1, 2, 0, 3] rfl)

set_option maxHeartbeats 4000000 in
set_option maxRecDepth 100000 in
theorem w_X6_registeredAhead_4 {p : Program} {l : Launch} {e : Env} {s : State} {m : MethodId} {args : Array Value} {below : List Frame} {meth : Method} {c : Code} {g : GP} (hB : BX p s m args meth c g LX cX6_registeredAhead 5 RX6 (some .int)) {o : Int32 × Mem} : ∀ (n : Nat), ∀ (x1 : Int32) (x2 : Int32) (x3 : Int32) (V : Mem) (H : Heap) (locs : List Loc) (ls : Array Slot), f_X6_registeredAhead_4 n x1 x2 x3 V = some o → OK g LX V s H locs → lv_has ls 5 [(0, .ref (ad g 0)), (1, .int x1), (2, .int x2), (3, .int x3)] → W p l e rm_X6_registeredAhead s m args below meth c H locs 0 0 (MQ below (QQ g LX (some (.int o.1)) o.2) args s 0 0 (Ar g LX)) (F0 m 4 ls []) := by
  obtain ⟨hx, hb, hml, hown, hT, hr, hlk, hK, hJ, hZ, hN⟩ := id hB
  intro n
  induction n with
  | zero =>
    intro x1 x2 x3 V H locs ls hE hz hl
    exact absurd (show (none : Option (Int32 × Mem)) = some o from hE) (by simp)
  | succ n ih =>
    intro x1 x2 x3 V H locs ls hE hz hl
    unfold f_X6_registeredAhead_4 at hE
    refine lv_iload_n hx hb dX6_registeredAhead_4 rfl (lv_at hl 3 rfl) ?_
    refine lv_aload_n hx hb dX6_registeredAhead_5 rfl (lv_at hl 0 rfl) ?_
    refine g_X6_25 hB hz kdX_0 dX6_registeredAhead_6 ?_
    refine g_X6_146 hB hz kdX_4 dX6_registeredAhead_9 ?_
    refine lv_icmp_ge (tgt := 67) hx hb dX6_registeredAhead_12 (by decide) (fun c12 => ?_) (fun c12 => ?_)
    · have hE := (if_pos c12).symm.trans hE
      refine lv_iload_n hx hb dX6_registeredAhead_67 rfl (lv_at hl 2 rfl) ?_
      exact x_iret hB hz hE dX6_registeredAhead_68
    · have hE := (if_neg c12).symm.trans hE
      refine lv_aload_n hx hb dX6_registeredAhead_15 rfl (lv_at hl 0 rfl) ?_
      refine g_X6_45 hB hz kdX_0 dX6_registeredAhead_16 ?_
      refine lv_iload_n hx hb dX6_registeredAhead_19 rfl (lv_at hl 3 rfl) ?_
      obtain ⟨hi20, hE⟩ := x_chk hE
      refine x_aalS hB hz kdX_93 hi20 dX6_registeredAhead_20 ?_
      refine lv_aload_n hx hb dX6_registeredAhead_21 rfl (lv_at hl 0 rfl) ?_
      refine g_X6_45 hB hz kdX_0 dX6_registeredAhead_22 ?_
      refine lv_iload_n hx hb dX6_registeredAhead_25 rfl (lv_at hl 1 rfl) ?_
      obtain ⟨hi26, hE⟩ := x_chk hE
      refine x_aalS hB hz kdX_93 hi26 dX6_registeredAhead_26 ?_
      obtain ⟨q27, hq27, hE⟩ := x_bind hE
      refine i_X6_238 hB hz (kd_sn hi20) (c_X4_order l g (kd_sn hi20) (kd_sn hi26) hq27) ⟨(Nat.le_of_ble_eq_true rfl), (Nat.le_of_ble_eq_true rfl)⟩ hl.1 (Nat.le_of_ble_eq_true rfl) dX6_registeredAhead_27 (fun H locs hz => ?_)
      refine lv_istore (lv' := [(4, .int q27.1), (0, .ref (ad g 0)), (1, .int x1), (2, .int x2), (3, .int x3)]) hx hb dX6_registeredAhead_30 hl (by decide) rfl (fun ls hl => ?_)
      refine lv_aload_n hx hb dX6_registeredAhead_32 rfl (lv_at hl 1 rfl) ?_
      refine g_X6_25 hB hz kdX_0 dX6_registeredAhead_33 ?_
      refine lv_iload_n hx hb dX6_registeredAhead_36 rfl (lv_at hl 4 rfl) ?_
      obtain ⟨q37, hq37, hE⟩ := x_bind hE
      refine i_X6_227 hB hz kdX_4 (c_X3_isLabelled l g kdX_4 hq37) ⟨(Nat.le_of_ble_eq_true rfl), (Nat.le_of_ble_eq_true rfl)⟩ hl.1 (Nat.le_of_ble_eq_true rfl) dX6_registeredAhead_37 (fun H locs hz => ?_)
      refine lv_if_eq (tgt := 61) hx hb dX6_registeredAhead_40 (by decide) (fun c40 => ?_) (fun c40 => ?_)
      · have hE := (if_pos c40).symm.trans hE
        exact w_X6_registeredAhead_61 hB ih _ _ _ _ _ _ _  hE hz (lv_sub hl [1, 2, 3, 4] rfl)
      · have hE := (if_neg c40).symm.trans hE
        refine lv_iload hx hb dX6_registeredAhead_43 (lv_at hl 0 rfl) ?_
        refine lv_if_lt (tgt := 58) hx hb dX6_registeredAhead_45 (by decide) (fun c45 => ?_) (fun c45 => ?_)
        · have hE := (if_pos c45).symm.trans hE
          exact w_X6_registeredAhead_58 hB ih _ _ _ _ _ _ _  hE hz (lv_sub hl [1, 2, 3, 4] rfl)
        · have hE := (if_neg c45).symm.trans hE
          refine lv_iload hx hb dX6_registeredAhead_48 (lv_at hl 0 rfl) ?_
          refine lv_if_ne (tgt := 61) hx hb dX6_registeredAhead_50 (by decide) (fun c50 => ?_) (fun c50 => ?_)
          · have hE := (if_neg c50).symm.trans hE
            exact w_X6_registeredAhead_61 hB ih _ _ _ _ _ _ _  hE hz (lv_sub hl [1, 2, 3, 4] rfl)
          · have hE := (if_pos c50).symm.trans hE
            refine lv_iload_n hx hb dX6_registeredAhead_53 rfl (lv_at hl 4 rfl) ?_
            refine lv_iload_n hx hb dX6_registeredAhead_54 rfl (lv_at hl 2 rfl) ?_
            refine lv_icmp_ge (tgt := 61) hx hb dX6_registeredAhead_55 (by decide) (fun c55 => ?_) (fun c55 => ?_)
            · have hE := (if_pos c55).symm.trans hE
              exact w_X6_registeredAhead_61 hB ih _ _ _ _ _ _ _  hE hz (lv_sub hl [1, 2, 3, 4] rfl)
            · have hE := (if_neg c55).symm.trans hE
              exact w_X6_registeredAhead_58 hB ih _ _ _ _ _ _ _  hE hz (lv_sub hl [1, 2, 3, 4] rfl)

set_option maxHeartbeats 4000000 in
set_option maxRecDepth 100000 in
theorem w_X6_registeredAhead {p : Program} {l : Launch} {e : Env} {s : State} {m : MethodId} {args : Array Value} {below : List Frame} {meth : Method} {c : Code} {g : GP} (hB : BX p s m args meth c g LX cX6_registeredAhead 5 RX6 (some .int)) {o : Int32 × Mem} : ∀ (x1 : Int32) (V : Mem) (H : Heap) (locs : List Loc) (ls : Array Slot), f_X6_registeredAhead x1 V = some o → OK g LX V s H locs → lv_has ls 5 [(0, .ref (ad g 0)), (1, .int x1)] → W p l e rm_X6_registeredAhead s m args below meth c H locs 0 0 (MQ below (QQ g LX (some (.int o.1)) o.2) args s 0 0 (Ar g LX)) (F0 m 0 ls []) := by
  obtain ⟨hx, hb, hml, hown, hT, hr, hlk, hK, hJ, hZ, hN⟩ := id hB
  intro x1 V H locs ls hE hz hl
  unfold f_X6_registeredAhead at hE
  refine lv_iconst (v := (0 : Int32)) hx hb dX6_registeredAhead_0 (by decide) ?_
  refine lv_istore_n (lv' := [(2, .int (0 : Int32)), (0, .ref (ad g 0)), (1, .int x1)]) hx hb dX6_registeredAhead_1 rfl hl (by decide) rfl (fun ls hl => ?_)
  refine lv_iconst (v := (0 : Int32)) hx hb dX6_registeredAhead_2 (by decide) ?_
  refine lv_istore_n (lv' := [(3, .int (0 : Int32)), (2, .int (0 : Int32)), (0, .ref (ad g 0)), (1, .int x1)]) hx hb dX6_registeredAhead_3 rfl hl (by decide) rfl (fun ls hl => ?_)
  exact w_X6_registeredAhead_4 hB  _ _ _ _ _ _ _ _  hE hz (lv_sub hl [2, 3, 1, 0] rfl)
theorem c_X6_registeredAhead (l : Launch) (g : GP) {x1 : Int32} {V : Mem} {o : Int32 × Mem} (hE : f_X6_registeredAhead x1 V = some o) : CT l g LX yX6_registeredAhead cX6_registeredAhead 5 (some .int) rm_X6_registeredAhead [.ref (ad g 0), .int x1] V (some (.int o.1)) o.2 := by
  refine ct_of (by decide) (Nat.le_of_ble_eq_true rfl) ?_
  intro p e s m args below meth c ls hB hz hl
  exact w_X6_registeredAhead hB _ _ _ _ _  hE hz hl

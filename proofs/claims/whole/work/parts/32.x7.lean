def rm_X7_ownOf : Room := { frames := 1, cells := 0, slots := 0, locals := 22 }
set_option maxHeartbeats 4000000 in
set_option maxRecDepth 100000 in
theorem w_X7_ownOf {p : Program} {l : Launch} {e : Env} {s : State} {m : MethodId} {args : Array Value} {below : List Frame} {meth : Method} {c : Code} {g : GP} (hB : BX p s m args meth c g LM cX7_ownOf 3 RX7 (some .int)) {o : Int32 × Mem} : ∀ (r1 : Nat) (x2 : Int32) (V : Mem) (H : Heap) (locs : List Loc) (ls : Array Slot), KD LM r1 92 → f_X7_ownOf r1 x2 V = some o → OK g LM V s H locs → lv_has ls 3 [(0, .ref (ad g 0)), (1, .ref (ad g r1)), (2, .int x2)] → W p l e rm_X7_ownOf s m args below meth c H locs 0 0 (MQ below (QQ g LM (some (.int o.1)) o.2) args s 0 0 (Ar g LM)) (F0 m 0 ls []) := by
  obtain ⟨hx, hb, hml, hown, hT, hr, hlk, hK, hJ, hZ, hN⟩ := id hB
  intro r1 x2 V H locs ls k_r1 hE hz hl
  unfold f_X7_ownOf at hE
  refine lv_aload_n hx hb dX7_ownOf_0 rfl (lv_at hl 0 rfl) ?_
  refine g_X7_40 hB hz kdM_0 dX7_ownOf_1 ?_
  refine lv_iconst (v := (3 : Int32)) hx hb dX7_ownOf_4 (by decide) ?_
  refine lv_iload_n hx hb dX7_ownOf_5 rfl (lv_at hl 2 rfl) ?_
  refine lv_imul hx hb dX7_ownOf_6 ?_
  refine lv_aload_n hx hb dX7_ownOf_7 rfl (lv_at hl 1 rfl) ?_
  refine lv_iload_n hx hb dX7_ownOf_8 rfl (lv_at hl 2 rfl) ?_
  refine lv_iconst (v := (1 : Int32)) hx hb dX7_ownOf_9 (by decide) ?_
  obtain ⟨q10, hq10, hE⟩ := x_bind hE
  refine i_X7_165 hB hz (c_X7_of l g k_r1 hq10) ⟨(Nat.le_of_ble_eq_true rfl), (Nat.le_of_ble_eq_true rfl)⟩ hl.1 (Nat.le_of_ble_eq_true rfl) dX7_ownOf_10 (fun H locs hz => ?_)
  refine lv_iadd hx hb dX7_ownOf_13 ?_
  obtain ⟨hi14, hE⟩ := x_chk hE
  refine x_iald (n := 72) hB hz kdM_11 hi14 dX7_ownOf_14 ?_
  exact x_iret hB hz hE dX7_ownOf_15
theorem c_X7_ownOf (l : Launch) (g : GP) {r1 : Nat} (k_r1 : KD LM r1 92) {x2 : Int32} {V : Mem} {o : Int32 × Mem} (hE : f_X7_ownOf r1 x2 V = some o) : CT l g LM yX7_ownOf cX7_ownOf 3 (some .int) rm_X7_ownOf [.ref (ad g 0), .ref (ad g r1), .int x2] V (some (.int o.1)) o.2 := by
  refine ct_of (by decide) (Nat.le_of_ble_eq_true rfl) ?_
  intro p e s m args below meth c ls hB hz hl
  exact w_X7_ownOf hB _ _ _ _ _ _ k_r1 hE hz hl
def rm_X7_lastTogether : Room := { frames := 0, cells := 0, slots := 0, locals := 0 }
set_option maxHeartbeats 4000000 in
set_option maxRecDepth 100000 in
theorem w_X7_lastTogether {p : Program} {l : Launch} {e : Env} {s : State} {m : MethodId} {args : Array Value} {below : List Frame} {meth : Method} {c : Code} {g : GP} (hB : BX p s m args meth c g LM cX7_lastTogether 3 RX7 (some .int)) {o : Int32 × Mem} : ∀ (r1 : Nat) (V : Mem) (H : Heap) (locs : List Loc) (ls : Array Slot), KD LM r1 92 → f_X7_lastTogether r1 V = some o → OK g LM V s H locs → lv_has ls 3 [(0, .ref (ad g 0)), (1, .ref (ad g r1))] → W p l e rm_X7_lastTogether s m args below meth c H locs 0 0 (MQ below (QQ g LM (some (.int o.1)) o.2) args s 0 0 (Ar g LM)) (F0 m 0 ls []) := by
  obtain ⟨hx, hb, hml, hown, hT, hr, hlk, hK, hJ, hZ, hN⟩ := id hB
  intro r1 V H locs ls k_r1 hE hz hl
  unfold f_X7_lastTogether at hE
  refine lv_aload_n hx hb dX7_lastTogether_0 rfl (lv_at hl 1 rfl) ?_
  refine lv_iconst (v := (0 : Int32)) hx hb dX7_lastTogether_1 (by decide) ?_
  obtain ⟨hi2, hE⟩ := x_chk hE
  refine x_iald (n := 76) hB hz k_r1 hi2 dX7_lastTogether_2 ?_
  refine lv_iconst (v := (1 : Int32)) hx hb dX7_lastTogether_3 (by decide) ?_
  refine lv_isub hx hb dX7_lastTogether_4 ?_
  refine lv_istore_n (lv' := [(2, .int ((V r1 ((0 : Int32)).toNatClampNeg) - (1 : Int32))), (0, .ref (ad g 0)), (1, .ref (ad g r1))]) hx hb dX7_lastTogether_5 rfl hl (by decide) rfl (fun ls hl => ?_)
  refine lv_iload_n hx hb dX7_lastTogether_6 rfl (lv_at hl 0 rfl) ?_
  refine lv_if_ge (tgt := 14) hx hb dX7_lastTogether_7 (by decide) (fun c7 => ?_) (fun c7 => ?_)
  · have hE := (if_pos c7).symm.trans hE
    refine lv_aload_n hx hb dX7_lastTogether_14 rfl (lv_at hl 1 rfl) ?_
    refine g_X7_40 hB hz kdM_0 dX7_lastTogether_15 ?_
    refine lv_iconst (v := (3 : Int32)) hx hb dX7_lastTogether_18 (by decide) ?_
    refine lv_iload_n hx hb dX7_lastTogether_19 rfl (lv_at hl 0 rfl) ?_
    refine lv_imul hx hb dX7_lastTogether_20 ?_
    obtain ⟨hi21, hE⟩ := x_chk hE
    refine x_iald (n := 72) hB hz kdM_11 hi21 dX7_lastTogether_21 ?_
    refine lv_aload_n hx hb dX7_lastTogether_22 rfl (lv_at hl 1 rfl) ?_
    refine g_X7_40 hB hz kdM_0 dX7_lastTogether_23 ?_
    refine lv_iconst (v := (3 : Int32)) hx hb dX7_lastTogether_26 (by decide) ?_
    refine lv_iload_n hx hb dX7_lastTogether_27 rfl (lv_at hl 0 rfl) ?_
    refine lv_imul hx hb dX7_lastTogether_28 ?_
    refine lv_iconst (v := (1 : Int32)) hx hb dX7_lastTogether_29 (by decide) ?_
    refine lv_iadd hx hb dX7_lastTogether_30 ?_
    obtain ⟨hi31, hE⟩ := x_chk hE
    refine x_iald (n := 72) hB hz kdM_11 hi31 dX7_lastTogether_31 ?_
    refine lv_iadd hx hb dX7_lastTogether_32 ?_
    refine lv_aload_n hx hb dX7_lastTogether_33 rfl (lv_at hl 1 rfl) ?_
    refine g_X7_40 hB hz kdM_0 dX7_lastTogether_34 ?_
    refine lv_iconst (v := (3 : Int32)) hx hb dX7_lastTogether_37 (by decide) ?_
    refine lv_iload_n hx hb dX7_lastTogether_38 rfl (lv_at hl 0 rfl) ?_
    refine lv_imul hx hb dX7_lastTogether_39 ?_
    refine lv_iconst (v := (2 : Int32)) hx hb dX7_lastTogether_40 (by decide) ?_
    refine lv_iadd hx hb dX7_lastTogether_41 ?_
    obtain ⟨hi42, hE⟩ := x_chk hE
    refine x_iald (n := 72) hB hz kdM_11 hi42 dX7_lastTogether_42 ?_
    refine lv_iadd hx hb dX7_lastTogether_43 ?_
    exact x_iret hB hz hE dX7_lastTogether_44
  · have hE := (if_neg c7).symm.trans hE
    refine lv_iconst (v := (0 : Int32)) hx hb dX7_lastTogether_10 (by decide) ?_
    refine lv_goto (tgt := 44) hx hb dX7_lastTogether_11 (by decide) ?_
    exact x_iret hB hz hE dX7_lastTogether_44
theorem c_X7_lastTogether (l : Launch) (g : GP) {r1 : Nat} (k_r1 : KD LM r1 92) {V : Mem} {o : Int32 × Mem} (hE : f_X7_lastTogether r1 V = some o) : CT l g LM yX7_lastTogether cX7_lastTogether 3 (some .int) rm_X7_lastTogether [.ref (ad g 0), .ref (ad g r1)] V (some (.int o.1)) o.2 := by
  refine ct_of (by decide) (Nat.le_of_ble_eq_true rfl) ?_
  intro p e s m args below meth c ls hB hz hl
  exact w_X7_lastTogether hB _ _ _ _ _ k_r1 hE hz hl
def rm_X7_writes : Room := { frames := 0, cells := 0, slots := 0, locals := 0 }
set_option maxHeartbeats 4000000 in
set_option maxRecDepth 100000 in
theorem w_X7_writes {p : Program} {l : Launch} {e : Env} {s : State} {m : MethodId} {args : Array Value} {below : List Frame} {meth : Method} {c : Code} {g : GP} (hB : BX p s m args meth c g LM cX7_writes 2 RX7 none) {o : Mem} : ∀ (x1 : Int32) (V : Mem) (H : Heap) (locs : List Loc) (ls : Array Slot), f_X7_writes x1 V = some o → OK g LM V s H locs → lv_has ls 2 [(0, .ref (ad g 0)), (1, .int x1)] → W p l e rm_X7_writes s m args below meth c H locs 0 0 (MQ below (QQ g LM none o) args s 0 0 (Ar g LM)) (F0 m 0 ls []) := by
  obtain ⟨hx, hb, hml, hown, hT, hr, hlk, hK, hJ, hZ, hN⟩ := id hB
  intro x1 V H locs ls hE hz hl
  unfold f_X7_writes at hE
  refine lv_aload_n hx hb dX7_writes_0 rfl (lv_at hl 0 rfl) ?_
  refine g_X7_43 hB hz kdM_0 dX7_writes_1 ?_
  refine lv_aload_n hx hb dX7_writes_4 rfl (lv_at hl 0 rfl) ?_
  refine g_X7_177 hB hz kdM_0 dX7_writes_5 ?_
  refine lv_iload_n hx hb dX7_writes_8 rfl (lv_at hl 1 rfl) ?_
  obtain ⟨hi9, hE⟩ := x_chk hE
  refine x_iast (n := 40) hB hz kdM_12 hi9 dX7_writes_9 (fun H locs hz => ?_)
  refine lv_aload_n hx hb dX7_writes_10 rfl (lv_at hl 0 rfl) ?_
  refine lv_dup hx hb dX7_writes_11 rfl ?_
  refine g_X7_177 hB hz kdM_0 dX7_writes_12 ?_
  refine lv_iconst (v := (1 : Int32)) hx hb dX7_writes_15 (by decide) ?_
  refine lv_iadd hx hb dX7_writes_16 ?_
  refine p_X7_177 hB hz kdM_0 dX7_writes_17 (fun H locs hz => ?_)
  exact x_vret hB hz hE dX7_writes_20
theorem c_X7_writes (l : Launch) (g : GP) {x1 : Int32} {V : Mem} {o : Mem} (hE : f_X7_writes x1 V = some o) : CT l g LM yX7_writes cX7_writes 2 none rm_X7_writes [.ref (ad g 0), .int x1] V none o := by
  refine ct_of (by decide) (Nat.le_of_ble_eq_true rfl) ?_
  intro p e s m args below meth c ls hB hz hl
  exact w_X7_writes hB _ _ _ _ _  hE hz hl
def rm_X7_figures : Room := { frames := 1, cells := 0, slots := 0, locals := 21 }
theorem i_X7_180 {p : Program} {l : Launch} {e : Env} {R : Room} {s : State} {m : MethodId} {args : Array Value} {below : List Frame} {meth : Method} {c : Code} {H : Heap} {locs : List Loc} {Q : State → Prop} {cc : ByteArray} {pc : Nat} {ls : Array Slot} {rest : List Value} {g : GP} {V : Mem} {nL : Nat} {ret : Option FieldType} (hB : BX p s m args meth c g LM cc nL RX7 ret) (hz : OK g LM V s H locs) {i : Nat} (hk : KD LM i 6) {a0 : Int32} {V1 : Mem} (hM : CT l g LM yX7_writes cX7_writes 2 none rm_X7_writes [.ref (ad g i), .int a0] V none V1) (hR : rm_X7_writes.frames + 1 ≤ R.frames ∧ 8 + (2 + 11) + rm_X7_writes.locals ≤ R.locals) (hsz : ls.size = nL) (hrest : (rest.map fun v => v.category).sum ≤ 8) (hdg : decode cc pc = .ok (.invokevirtual 180, 3)) (kk : ∀ (H1 : Heap) (locs1 : List Loc), OK g LM V1 s H1 locs1 → W p l e R s m args below meth c H1 locs1 0 0 Q (F0 m (pc + 3) ls (rest))) : W p l e R s m args below meth c H locs 0 0 Q (F0 m pc ls (.int a0 :: .ref (ad g i) :: rest)) :=
  x_cv (As := [.int a0]) (n := 1) (T := TX7) (N := 30) hB hz hM hk rfl rfl rfl rfl kw_991 kw_68 kw_988 kw_990 kw_41 (by decide +kernel) rfl hR hsz hrest hdg kk
set_option maxHeartbeats 4000000 in
set_option maxRecDepth 100000 in
theorem w_X7_figures_17 {p : Program} {l : Launch} {e : Env} {s : State} {m : MethodId} {args : Array Value} {below : List Frame} {meth : Method} {c : Code} {g : GP} (hB : BX p s m args meth c g LM cX7_figures 2 RX7 none) {o : Mem} : ∀ (x1 : Int32) (V : Mem) (H : Heap) (locs : List Loc) (ls : Array Slot), f_X7_figures_17 x1 V = some o → OK g LM V s H locs → lv_has ls 2 [(0, .ref (ad g 0)), (1, .int x1)] → W p l e rm_X7_figures s m args below meth c H locs 0 0 (MQ below (QQ g LM none o) args s 0 0 (Ar g LM)) (F0 m 17 ls []) := by
  obtain ⟨hx, hb, hml, hown, hT, hr, hlk, hK, hJ, hZ, hN⟩ := id hB
  intro x1 V H locs ls hE hz hl
  unfold f_X7_figures_17 at hE
  refine lv_aload_n hx hb dX7_figures_17 rfl (lv_at hl 0 rfl) ?_
  refine lv_bipush (v := (48 : Int32)) hx hb dX7_figures_18 (by decide) ?_
  refine lv_iload_n hx hb dX7_figures_20 rfl (lv_at hl 1 rfl) ?_
  refine lv_bipush (v := (10 : Int32)) hx hb dX7_figures_21 (by decide) ?_
  refine lv_irem hx hb dX7_figures_23 (by decide) ?_
  refine lv_iadd hx hb dX7_figures_24 ?_
  obtain ⟨q25, hq25, hE⟩ := x_bind hE
  refine i_X7_180 hB hz kdM_0 (c_X7_writes l g  hq25) ⟨(Nat.le_of_ble_eq_true rfl), (Nat.le_of_ble_eq_true rfl)⟩ hl.1 (Nat.le_of_ble_eq_true rfl) dX7_figures_25 (fun H locs hz => ?_)
  exact x_vret hB hz hE dX7_figures_28

set_option maxHeartbeats 4000000 in
set_option maxRecDepth 100000 in
theorem w_X7_figures {p : Program} {l : Launch} {e : Env} {s : State} {m : MethodId} {args : Array Value} {below : List Frame} {meth : Method} {c : Code} {g : GP} (hB : BX p s m args meth c g LM cX7_figures 2 RX7 none) {o : Mem} : ∀ (x1 : Int32) (V : Mem) (H : Heap) (locs : List Loc) (ls : Array Slot), f_X7_figures x1 V = some o → OK g LM V s H locs → lv_has ls 2 [(0, .ref (ad g 0)), (1, .int x1)] → W p l e rm_X7_figures s m args below meth c H locs 0 0 (MQ below (QQ g LM none o) args s 0 0 (Ar g LM)) (F0 m 0 ls []) := by
  obtain ⟨hx, hb, hml, hown, hT, hr, hlk, hK, hJ, hZ, hN⟩ := id hB
  intro x1 V H locs ls hE hz hl
  unfold f_X7_figures at hE
  refine lv_iload_n hx hb dX7_figures_0 rfl (lv_at hl 1 rfl) ?_
  refine lv_bipush (v := (9 : Int32)) hx hb dX7_figures_1 (by decide) ?_
  refine lv_icmp_le (tgt := 17) hx hb dX7_figures_3 (by decide) (fun c3 => ?_) (fun c3 => ?_)
  · have hE := (if_pos c3).symm.trans hE
    exact w_X7_figures_17 hB  _ _ _ _ _  hE hz (lv_sub hl [0, 1] rfl)
  · have hE := (if_neg c3).symm.trans hE
    refine lv_aload_n hx hb dX7_figures_6 rfl (lv_at hl 0 rfl) ?_
    refine lv_bipush (v := (48 : Int32)) hx hb dX7_figures_7 (by decide) ?_
    refine lv_iload_n hx hb dX7_figures_9 rfl (lv_at hl 1 rfl) ?_
    refine lv_bipush (v := (10 : Int32)) hx hb dX7_figures_10 (by decide) ?_
    refine lv_idiv hx hb dX7_figures_12 (by decide) ?_
    refine lv_iadd hx hb dX7_figures_13 ?_
    obtain ⟨q14, hq14, hE⟩ := x_bind hE
    refine i_X7_180 hB hz kdM_0 (c_X7_writes l g  hq14) ⟨(Nat.le_of_ble_eq_true rfl), (Nat.le_of_ble_eq_true rfl)⟩ hl.1 (Nat.le_of_ble_eq_true rfl) dX7_figures_14 (fun H locs hz => ?_)
    exact w_X7_figures_17 hB  _ _ _ _ _  hE hz (lv_sub hl [0, 1] rfl)
theorem c_X7_figures (l : Launch) (g : GP) {x1 : Int32} {V : Mem} {o : Mem} (hE : f_X7_figures x1 V = some o) : CT l g LM yX7_figures cX7_figures 2 none rm_X7_figures [.ref (ad g 0), .int x1] V none o := by
  refine ct_of (by decide) (Nat.le_of_ble_eq_true rfl) ?_
  intro p e s m args below meth c ls hB hz hl
  exact w_X7_figures hB _ _ _ _ _  hE hz hl
def rm_X7_letters : Room := { frames := 1, cells := 0, slots := 0, locals := 21 }
set_option maxHeartbeats 4000000 in
set_option maxRecDepth 100000 in
theorem w_X7_letters_20 {p : Program} {l : Launch} {e : Env} {s : State} {m : MethodId} {args : Array Value} {below : List Frame} {meth : Method} {c : Code} {g : GP} (hB : BX p s m args meth c g LM cX7_letters 3 RX7 none) {o : Mem} : ∀ (x1 : Int32) (x2 : Int32) (V : Mem) (H : Heap) (locs : List Loc) (ls : Array Slot), f_X7_letters_20 x1 x2 V = some o → OK g LM V s H locs → lv_has ls 3 [(0, .ref (ad g 0)), (1, .int x1), (2, .int x2)] → W p l e rm_X7_letters s m args below meth c H locs 0 0 (MQ below (QQ g LM none o) args s 0 0 (Ar g LM)) (F0 m 20 ls []) := by
  obtain ⟨hx, hb, hml, hown, hT, hr, hlk, hK, hJ, hZ, hN⟩ := id hB
  intro x1 x2 V H locs ls hE hz hl
  unfold f_X7_letters_20 at hE
  refine lv_aload_n hx hb dX7_letters_20 rfl (lv_at hl 0 rfl) ?_
  refine lv_iload_n hx hb dX7_letters_21 rfl (lv_at hl 2 rfl) ?_
  refine lv_iload_n hx hb dX7_letters_22 rfl (lv_at hl 1 rfl) ?_
  refine lv_iconst (v := (1 : Int32)) hx hb dX7_letters_23 (by decide) ?_
  refine lv_isub hx hb dX7_letters_24 ?_
  refine lv_bipush (v := (26 : Int32)) hx hb dX7_letters_25 (by decide) ?_
  refine lv_irem hx hb dX7_letters_27 (by decide) ?_
  refine lv_iadd hx hb dX7_letters_28 ?_
  obtain ⟨q29, hq29, hE⟩ := x_bind hE
  refine i_X7_180 hB hz kdM_0 (c_X7_writes l g  hq29) ⟨(Nat.le_of_ble_eq_true rfl), (Nat.le_of_ble_eq_true rfl)⟩ hl.1 (Nat.le_of_ble_eq_true rfl) dX7_letters_29 (fun H locs hz => ?_)
  exact x_vret hB hz hE dX7_letters_32

set_option maxHeartbeats 4000000 in
set_option maxRecDepth 100000 in
theorem w_X7_letters {p : Program} {l : Launch} {e : Env} {s : State} {m : MethodId} {args : Array Value} {below : List Frame} {meth : Method} {c : Code} {g : GP} (hB : BX p s m args meth c g LM cX7_letters 3 RX7 none) {o : Mem} : ∀ (x1 : Int32) (x2 : Int32) (V : Mem) (H : Heap) (locs : List Loc) (ls : Array Slot), f_X7_letters x1 x2 V = some o → OK g LM V s H locs → lv_has ls 3 [(0, .ref (ad g 0)), (1, .int x1), (2, .int x2)] → W p l e rm_X7_letters s m args below meth c H locs 0 0 (MQ below (QQ g LM none o) args s 0 0 (Ar g LM)) (F0 m 0 ls []) := by
  obtain ⟨hx, hb, hml, hown, hT, hr, hlk, hK, hJ, hZ, hN⟩ := id hB
  intro x1 x2 V H locs ls hE hz hl
  unfold f_X7_letters at hE
  refine lv_iload_n hx hb dX7_letters_0 rfl (lv_at hl 1 rfl) ?_
  refine lv_bipush (v := (26 : Int32)) hx hb dX7_letters_1 (by decide) ?_
  refine lv_icmp_le (tgt := 20) hx hb dX7_letters_3 (by decide) (fun c3 => ?_) (fun c3 => ?_)
  · have hE := (if_pos c3).symm.trans hE
    exact w_X7_letters_20 hB  _ _ _ _ _ _  hE hz (lv_sub hl [0, 1, 2] rfl)
  · have hE := (if_neg c3).symm.trans hE
    refine lv_aload_n hx hb dX7_letters_6 rfl (lv_at hl 0 rfl) ?_
    refine lv_iload_n hx hb dX7_letters_7 rfl (lv_at hl 2 rfl) ?_
    refine lv_iload_n hx hb dX7_letters_8 rfl (lv_at hl 1 rfl) ?_
    refine lv_iconst (v := (1 : Int32)) hx hb dX7_letters_9 (by decide) ?_
    refine lv_isub hx hb dX7_letters_10 ?_
    refine lv_bipush (v := (26 : Int32)) hx hb dX7_letters_11 (by decide) ?_
    refine lv_idiv hx hb dX7_letters_13 (by decide) ?_
    refine lv_iadd hx hb dX7_letters_14 ?_
    refine lv_iconst (v := (1 : Int32)) hx hb dX7_letters_15 (by decide) ?_
    refine lv_isub hx hb dX7_letters_16 ?_
    obtain ⟨q17, hq17, hE⟩ := x_bind hE
    refine i_X7_180 hB hz kdM_0 (c_X7_writes l g  hq17) ⟨(Nat.le_of_ble_eq_true rfl), (Nat.le_of_ble_eq_true rfl)⟩ hl.1 (Nat.le_of_ble_eq_true rfl) dX7_letters_17 (fun H locs hz => ?_)
    exact w_X7_letters_20 hB  _ _ _ _ _ _  hE hz (lv_sub hl [0, 1, 2] rfl)
theorem c_X7_letters (l : Launch) (g : GP) {x1 : Int32} {x2 : Int32} {V : Mem} {o : Mem} (hE : f_X7_letters x1 x2 V = some o) : CT l g LM yX7_letters cX7_letters 3 none rm_X7_letters [.ref (ad g 0), .int x1, .int x2] V none o := by
  refine ct_of (by decide) (Nat.le_of_ble_eq_true rfl) ?_
  intro p e s m args below meth c ls hB hz hl
  exact w_X7_letters hB _ _ _ _ _ _  hE hz hl
def rm_X7_romanFigure : Room := { frames := 1, cells := 0, slots := 0, locals := 21 }
set_option maxHeartbeats 4000000 in
set_option maxRecDepth 100000 in
theorem w_X7_romanFigure_51 {p : Program} {l : Launch} {e : Env} {s : State} {m : MethodId} {args : Array Value} {below : List Frame} {meth : Method} {c : Code} {g : GP} (hB : BX p s m args meth c g LM cX7_romanFigure 6 RX7 none) {o : Mem} : ∀ (n : Nat), ∀ (x1 : Int32) (x2 : Int32) (x5 : Int32) (V : Mem) (H : Heap) (locs : List Loc) (ls : Array Slot), f_X7_romanFigure_51 n x1 x2 x5 V = some o → OK g LM V s H locs → lv_has ls 6 [(0, .ref (ad g 0)), (1, .int x1), (2, .int x2), (5, .int x5)] → W p l e rm_X7_romanFigure s m args below meth c H locs 0 0 (MQ below (QQ g LM none o) args s 0 0 (Ar g LM)) (F0 m 51 ls []) := by
  obtain ⟨hx, hb, hml, hown, hT, hr, hlk, hK, hJ, hZ, hN⟩ := id hB
  intro n
  induction n with
  | zero =>
    intro x1 x2 x5 V H locs ls hE hz hl
    exact absurd (show (none : Option (Mem)) = some o from hE) (by simp)
  | succ n ih =>
    intro x1 x2 x5 V H locs ls hE hz hl
    unfold f_X7_romanFigure_51 at hE
    refine lv_iload hx hb dX7_romanFigure_51 (lv_at hl 3 rfl) ?_
    refine lv_iload_n hx hb dX7_romanFigure_53 rfl (lv_at hl 1 rfl) ?_
    refine lv_iconst (v := (5 : Int32)) hx hb dX7_romanFigure_54 (by decide) ?_
    refine lv_irem hx hb dX7_romanFigure_55 (by decide) ?_
    refine lv_icmp_ge (tgt := 70) hx hb dX7_romanFigure_56 (by decide) (fun c56 => ?_) (fun c56 => ?_)
    · have hE := (if_pos c56).symm.trans hE
      exact x_vret hB hz hE dX7_romanFigure_70
    · have hE := (if_neg c56).symm.trans hE
      refine lv_aload_n hx hb dX7_romanFigure_59 rfl (lv_at hl 0 rfl) ?_
      refine lv_iload_n hx hb dX7_romanFigure_60 rfl (lv_at hl 2 rfl) ?_
      obtain ⟨q61, hq61, hE⟩ := x_bind hE
      refine i_X7_180 hB hz kdM_0 (c_X7_writes l g  hq61) ⟨(Nat.le_of_ble_eq_true rfl), (Nat.le_of_ble_eq_true rfl)⟩ hl.1 (Nat.le_of_ble_eq_true rfl) dX7_romanFigure_61 (fun H locs hz => ?_)
      refine lv_iinc (v := (x5 + 1)) (lv' := [(5, .int (x5 + 1)), (0, .ref (ad g 0)), (1, .int x1), (2, .int x2)]) hx hb dX7_romanFigure_64 hl (k := 3) rfl rfl (by decide) rfl (fun ls hl => ?_)
      refine lv_goto (tgt := 51) hx hb dX7_romanFigure_67 (by decide) ?_
      exact ih _ _ _ _ _ _ _  hE hz (lv_sub hl [1, 2, 3, 0] rfl)

set_option maxHeartbeats 4000000 in
set_option maxRecDepth 100000 in
theorem w_X7_romanFigure_48 {p : Program} {l : Launch} {e : Env} {s : State} {m : MethodId} {args : Array Value} {below : List Frame} {meth : Method} {c : Code} {g : GP} (hB : BX p s m args meth c g LM cX7_romanFigure 6 RX7 none) {o : Mem} : ∀ (x1 : Int32) (x2 : Int32) (V : Mem) (H : Heap) (locs : List Loc) (ls : Array Slot), f_X7_romanFigure_48 x1 x2 V = some o → OK g LM V s H locs → lv_has ls 6 [(0, .ref (ad g 0)), (1, .int x1), (2, .int x2)] → W p l e rm_X7_romanFigure s m args below meth c H locs 0 0 (MQ below (QQ g LM none o) args s 0 0 (Ar g LM)) (F0 m 48 ls []) := by
  obtain ⟨hx, hb, hml, hown, hT, hr, hlk, hK, hJ, hZ, hN⟩ := id hB
  intro x1 x2 V H locs ls hE hz hl
  unfold f_X7_romanFigure_48 at hE
  refine lv_iconst (v := (0 : Int32)) hx hb dX7_romanFigure_48 (by decide) ?_
  refine lv_istore (lv' := [(5, .int (0 : Int32)), (0, .ref (ad g 0)), (1, .int x1), (2, .int x2)]) hx hb dX7_romanFigure_49 hl (by decide) rfl (fun ls hl => ?_)
  exact w_X7_romanFigure_51 hB  _ _ _ _ _ _ _ _  hE hz (lv_sub hl [1, 2, 3, 0] rfl)

set_option maxHeartbeats 4000000 in
set_option maxRecDepth 100000 in
theorem w_X7_romanFigure {p : Program} {l : Launch} {e : Env} {s : State} {m : MethodId} {args : Array Value} {below : List Frame} {meth : Method} {c : Code} {g : GP} (hB : BX p s m args meth c g LM cX7_romanFigure 6 RX7 none) {o : Mem} : ∀ (x1 : Int32) (x2 : Int32) (x3 : Int32) (x4 : Int32) (V : Mem) (H : Heap) (locs : List Loc) (ls : Array Slot), f_X7_romanFigure x1 x2 x3 x4 V = some o → OK g LM V s H locs → lv_has ls 6 [(0, .ref (ad g 0)), (1, .int x1), (2, .int x2), (3, .int x3), (4, .int x4)] → W p l e rm_X7_romanFigure s m args below meth c H locs 0 0 (MQ below (QQ g LM none o) args s 0 0 (Ar g LM)) (F0 m 0 ls []) := by
  obtain ⟨hx, hb, hml, hown, hT, hr, hlk, hK, hJ, hZ, hN⟩ := id hB
  intro x1 x2 x3 x4 V H locs ls hE hz hl
  unfold f_X7_romanFigure at hE
  refine lv_iload_n hx hb dX7_romanFigure_0 rfl (lv_at hl 1 rfl) ?_
  refine lv_bipush (v := (9 : Int32)) hx hb dX7_romanFigure_1 (by decide) ?_
  refine lv_icmp_ne (tgt := 20) hx hb dX7_romanFigure_3 (by decide) (fun c3 => ?_) (fun c3 => ?_)
  · have hE := (if_neg c3).symm.trans hE
    refine lv_iload_n hx hb dX7_romanFigure_20 rfl (lv_at hl 1 rfl) ?_
    refine lv_iconst (v := (4 : Int32)) hx hb dX7_romanFigure_21 (by decide) ?_
    refine lv_icmp_ne (tgt := 38) hx hb dX7_romanFigure_22 (by decide) (fun c22 => ?_) (fun c22 => ?_)
    · have hE := (if_neg c22).symm.trans hE
      refine lv_iload_n hx hb dX7_romanFigure_38 rfl (lv_at hl 1 rfl) ?_
      refine lv_iconst (v := (4 : Int32)) hx hb dX7_romanFigure_39 (by decide) ?_
      refine lv_icmp_le (tgt := 48) hx hb dX7_romanFigure_40 (by decide) (fun c40 => ?_) (fun c40 => ?_)
      · have hE := (if_pos c40).symm.trans hE
        exact w_X7_romanFigure_48 hB  _ _ _ _ _ _  hE hz (lv_sub hl [0, 1, 2] rfl)
      · have hE := (if_neg c40).symm.trans hE
        refine lv_aload_n hx hb dX7_romanFigure_43 rfl (lv_at hl 0 rfl) ?_
        refine lv_iload_n hx hb dX7_romanFigure_44 rfl (lv_at hl 3 rfl) ?_
        obtain ⟨q45, hq45, hE⟩ := x_bind hE
        refine i_X7_180 hB hz kdM_0 (c_X7_writes l g  hq45) ⟨(Nat.le_of_ble_eq_true rfl), (Nat.le_of_ble_eq_true rfl)⟩ hl.1 (Nat.le_of_ble_eq_true rfl) dX7_romanFigure_45 (fun H locs hz => ?_)
        exact w_X7_romanFigure_48 hB  _ _ _ _ _ _  hE hz (lv_sub hl [0, 1, 2] rfl)
    · have hE := (if_pos c22).symm.trans hE
      refine lv_aload_n hx hb dX7_romanFigure_25 rfl (lv_at hl 0 rfl) ?_
      refine lv_iload_n hx hb dX7_romanFigure_26 rfl (lv_at hl 2 rfl) ?_
      obtain ⟨q27, hq27, hE⟩ := x_bind hE
      refine i_X7_180 hB hz kdM_0 (c_X7_writes l g  hq27) ⟨(Nat.le_of_ble_eq_true rfl), (Nat.le_of_ble_eq_true rfl)⟩ hl.1 (Nat.le_of_ble_eq_true rfl) dX7_romanFigure_27 (fun H locs hz => ?_)
      refine lv_aload_n hx hb dX7_romanFigure_30 rfl (lv_at hl 0 rfl) ?_
      refine lv_iload_n hx hb dX7_romanFigure_31 rfl (lv_at hl 3 rfl) ?_
      obtain ⟨q32, hq32, hE⟩ := x_bind hE
      refine i_X7_180 hB hz kdM_0 (c_X7_writes l g  hq32) ⟨(Nat.le_of_ble_eq_true rfl), (Nat.le_of_ble_eq_true rfl)⟩ hl.1 (Nat.le_of_ble_eq_true rfl) dX7_romanFigure_32 (fun H locs hz => ?_)
      refine lv_goto (tgt := 70) hx hb dX7_romanFigure_35 (by decide) ?_
      exact x_vret hB hz hE dX7_romanFigure_70
  · have hE := (if_pos c3).symm.trans hE
    refine lv_aload_n hx hb dX7_romanFigure_6 rfl (lv_at hl 0 rfl) ?_
    refine lv_iload_n hx hb dX7_romanFigure_7 rfl (lv_at hl 2 rfl) ?_
    obtain ⟨q8, hq8, hE⟩ := x_bind hE
    refine i_X7_180 hB hz kdM_0 (c_X7_writes l g  hq8) ⟨(Nat.le_of_ble_eq_true rfl), (Nat.le_of_ble_eq_true rfl)⟩ hl.1 (Nat.le_of_ble_eq_true rfl) dX7_romanFigure_8 (fun H locs hz => ?_)
    refine lv_aload_n hx hb dX7_romanFigure_11 rfl (lv_at hl 0 rfl) ?_
    refine lv_iload hx hb dX7_romanFigure_12 (lv_at hl 4 rfl) ?_
    obtain ⟨q14, hq14, hE⟩ := x_bind hE
    refine i_X7_180 hB hz kdM_0 (c_X7_writes l g  hq14) ⟨(Nat.le_of_ble_eq_true rfl), (Nat.le_of_ble_eq_true rfl)⟩ hl.1 (Nat.le_of_ble_eq_true rfl) dX7_romanFigure_14 (fun H locs hz => ?_)
    refine lv_goto (tgt := 70) hx hb dX7_romanFigure_17 (by decide) ?_
    exact x_vret hB hz hE dX7_romanFigure_70
theorem c_X7_romanFigure (l : Launch) (g : GP) {x1 : Int32} {x2 : Int32} {x3 : Int32} {x4 : Int32} {V : Mem} {o : Mem} (hE : f_X7_romanFigure x1 x2 x3 x4 V = some o) : CT l g LM yX7_romanFigure cX7_romanFigure 6 none rm_X7_romanFigure [.ref (ad g 0), .int x1, .int x2, .int x3, .int x4] V none o := by
  refine ct_of (by decide) (Nat.le_of_ble_eq_true rfl) ?_
  intro p e s m args below meth c ls hB hz hl
  exact w_X7_romanFigure hB _ _ _ _ _ _ _ _  hE hz hl
def rm_X7_numerals : Room := { frames := 2, cells := 0, slots := 0, locals := 46 }
theorem i_X7_183 {p : Program} {l : Launch} {e : Env} {R : Room} {s : State} {m : MethodId} {args : Array Value} {below : List Frame} {meth : Method} {c : Code} {H : Heap} {locs : List Loc} {Q : State → Prop} {cc : ByteArray} {pc : Nat} {ls : Array Slot} {rest : List Value} {g : GP} {V : Mem} {nL : Nat} {ret : Option FieldType} (hB : BX p s m args meth c g LM cc nL RX7 ret) (hz : OK g LM V s H locs) {i : Nat} (hk : KD LM i 6) {a0 : Int32} {V1 : Mem} (hM : CT l g LM yX7_figures cX7_figures 2 none rm_X7_figures [.ref (ad g i), .int a0] V none V1) (hR : rm_X7_figures.frames + 1 ≤ R.frames ∧ 8 + (2 + 11) + rm_X7_figures.locals ≤ R.locals) (hsz : ls.size = nL) (hrest : (rest.map fun v => v.category).sum ≤ 8) (hdg : decode cc pc = .ok (.invokevirtual 183, 3)) (kk : ∀ (H1 : Heap) (locs1 : List Loc), OK g LM V1 s H1 locs1 → W p l e R s m args below meth c H1 locs1 0 0 Q (F0 m (pc + 3) ls (rest))) : W p l e R s m args below meth c H locs 0 0 Q (F0 m pc ls (.int a0 :: .ref (ad g i) :: rest)) :=
  x_cv (As := [.int a0]) (n := 1) (T := TX7) (N := 30) hB hz hM hk rfl rfl rfl rfl kw_999 kw_68 kw_996 kw_998 kw_43 (by decide +kernel) rfl hR hsz hrest hdg kk
theorem i_X7_190 {p : Program} {l : Launch} {e : Env} {R : Room} {s : State} {m : MethodId} {args : Array Value} {below : List Frame} {meth : Method} {c : Code} {H : Heap} {locs : List Loc} {Q : State → Prop} {cc : ByteArray} {pc : Nat} {ls : Array Slot} {rest : List Value} {g : GP} {V : Mem} {nL : Nat} {ret : Option FieldType} (hB : BX p s m args meth c g LM cc nL RX7 ret) (hz : OK g LM V s H locs) {i : Nat} (hk : KD LM i 6) {a0 : Int32} {a1 : Int32} {V1 : Mem} (hM : CT l g LM yX7_letters cX7_letters 3 none rm_X7_letters [.ref (ad g i), .int a0, .int a1] V none V1) (hR : rm_X7_letters.frames + 1 ≤ R.frames ∧ 8 + (3 + 11) + rm_X7_letters.locals ≤ R.locals) (hsz : ls.size = nL) (hrest : (rest.map fun v => v.category).sum ≤ 8) (hdg : decode cc pc = .ok (.invokevirtual 190, 3)) (kk : ∀ (H1 : Heap) (locs1 : List Loc), OK g LM V1 s H1 locs1 → W p l e R s m args below meth c H1 locs1 0 0 Q (F0 m (pc + 3) ls (rest))) : W p l e R s m args below meth c H locs 0 0 Q (F0 m pc ls (.int a1 :: .int a0 :: .ref (ad g i) :: rest)) :=
  x_cv (As := [.int a0, .int a1]) (n := 2) (T := TX7) (N := 30) hB hz hM hk rfl rfl rfl rfl kw_1007 kw_68 kw_1004 kw_1006 kw_45 (by decide +kernel) rfl hR hsz hrest hdg kk
theorem i_X7_186 {p : Program} {l : Launch} {e : Env} {R : Room} {s : State} {m : MethodId} {args : Array Value} {below : List Frame} {meth : Method} {c : Code} {H : Heap} {locs : List Loc} {Q : State → Prop} {cc : ByteArray} {pc : Nat} {ls : Array Slot} {rest : List Value} {g : GP} {V : Mem} {nL : Nat} {ret : Option FieldType} (hB : BX p s m args meth c g LM cc nL RX7 ret) (hz : OK g LM V s H locs) {i : Nat} (hk : KD LM i 6) {a0 : Int32} {a1 : Int32} {a2 : Int32} {a3 : Int32} {V1 : Mem} (hM : CT l g LM yX7_romanFigure cX7_romanFigure 6 none rm_X7_romanFigure [.ref (ad g i), .int a0, .int a1, .int a2, .int a3] V none V1) (hR : rm_X7_romanFigure.frames + 1 ≤ R.frames ∧ 8 + (6 + 11) + rm_X7_romanFigure.locals ≤ R.locals) (hsz : ls.size = nL) (hrest : (rest.map fun v => v.category).sum ≤ 8) (hdg : decode cc pc = .ok (.invokevirtual 186, 3)) (kk : ∀ (H1 : Heap) (locs1 : List Loc), OK g LM V1 s H1 locs1 → W p l e R s m args below meth c H1 locs1 0 0 Q (F0 m (pc + 3) ls (rest))) : W p l e R s m args below meth c H locs 0 0 Q (F0 m pc ls (.int a3 :: .int a2 :: .int a1 :: .int a0 :: .ref (ad g i) :: rest)) :=
  x_cv (As := [.int a0, .int a1, .int a2, .int a3]) (n := 4) (T := TX7) (N := 30) hB hz hM hk rfl rfl rfl rfl kw_1003 kw_68 kw_1000 kw_1002 kw_44 (by decide +kernel) rfl hR hsz hrest hdg kk
set_option maxHeartbeats 4000000 in
set_option maxRecDepth 100000 in
theorem w_X7_numerals_8 {p : Program} {l : Launch} {e : Env} {s : State} {m : MethodId} {args : Array Value} {below : List Frame} {meth : Method} {c : Code} {g : GP} (hB : BX p s m args meth c g LM cX7_numerals 3 RX7 none) {o : Mem} : ∀ (x1 : Int32) (V : Mem) (H : Heap) (locs : List Loc) (ls : Array Slot), f_X7_numerals_8 x1 V = some o → OK g LM V s H locs → lv_has ls 3 [(0, .ref (ad g 0)), (1, .int x1)] → W p l e rm_X7_numerals s m args below meth c H locs 0 0 (MQ below (QQ g LM none o) args s 0 0 (Ar g LM)) (F0 m 8 ls []) := by
  obtain ⟨hx, hb, hml, hown, hT, hr, hlk, hK, hJ, hZ, hN⟩ := id hB
  intro x1 V H locs ls hE hz hl
  unfold f_X7_numerals_8 at hE
  refine lv_aload_n hx hb dX7_numerals_8 rfl (lv_at hl 0 rfl) ?_
  refine lv_iload_n hx hb dX7_numerals_9 rfl (lv_at hl 1 rfl) ?_
  obtain ⟨q10, hq10, hE⟩ := x_bind hE
  refine i_X7_183 hB hz kdM_0 (c_X7_figures l g  hq10) ⟨(Nat.le_of_ble_eq_true rfl), (Nat.le_of_ble_eq_true rfl)⟩ hl.1 (Nat.le_of_ble_eq_true rfl) dX7_numerals_10 (fun H locs hz => ?_)
  refine lv_goto (tgt := 69) hx hb dX7_numerals_13 (by decide) ?_
  exact x_vret hB hz hE dX7_numerals_69

set_option maxHeartbeats 4000000 in
set_option maxRecDepth 100000 in
theorem w_X7_numerals_66_c0 {p : Program} {l : Launch} {e : Env} {s : State} {m : MethodId} {args : Array Value} {below : List Frame} {meth : Method} {c : Code} {g : GP} (hB : BX p s m args meth c g LM cX7_numerals 3 RX7 none) {o : Mem} : ∀ (s1 : Int32) (s2 : Int32) (V : Mem) (H : Heap) (locs : List Loc) (ls : Array Slot), f_X7_numerals_66_c0 s1 s2 V = some o → OK g LM V s H locs → lv_has ls 3 [] → W p l e rm_X7_numerals s m args below meth c H locs 0 0 (MQ below (QQ g LM none o) args s 0 0 (Ar g LM)) (F0 m 66 ls [.int s2, .int s1, .ref (ad g 0)]) := by
  obtain ⟨hx, hb, hml, hown, hT, hr, hlk, hK, hJ, hZ, hN⟩ := id hB
  intro s1 s2 V H locs ls hE hz hl
  unfold f_X7_numerals_66_c0 at hE
  obtain ⟨q66, hq66, hE⟩ := x_bind hE
  refine i_X7_190 hB hz kdM_0 (c_X7_letters l g  hq66) ⟨(Nat.le_of_ble_eq_true rfl), (Nat.le_of_ble_eq_true rfl)⟩ hl.1 (Nat.le_of_ble_eq_true rfl) dX7_numerals_66 (fun H locs hz => ?_)
  exact x_vret hB hz hE dX7_numerals_69

set_option maxHeartbeats 4000000 in
set_option maxRecDepth 100000 in
theorem w_X7_numerals {p : Program} {l : Launch} {e : Env} {s : State} {m : MethodId} {args : Array Value} {below : List Frame} {meth : Method} {c : Code} {g : GP} (hB : BX p s m args meth c g LM cX7_numerals 3 RX7 none) {o : Mem} : ∀ (x1 : Int32) (x2 : Int32) (V : Mem) (H : Heap) (locs : List Loc) (ls : Array Slot), f_X7_numerals x1 x2 V = some o → OK g LM V s H locs → lv_has ls 3 [(0, .ref (ad g 0)), (1, .int x1), (2, .int x2)] → W p l e rm_X7_numerals s m args below meth c H locs 0 0 (MQ below (QQ g LM none o) args s 0 0 (Ar g LM)) (F0 m 0 ls []) := by
  obtain ⟨hx, hb, hml, hown, hT, hr, hlk, hK, hJ, hZ, hN⟩ := id hB
  intro x1 x2 V H locs ls hE hz hl
  unfold f_X7_numerals at hE
  refine lv_iload_n hx hb dX7_numerals_0 rfl (lv_at hl 1 rfl) ?_
  refine lv_if_eq (tgt := 8) hx hb dX7_numerals_1 (by decide) (fun c1 => ?_) (fun c1 => ?_)
  · have hE := (if_pos c1).symm.trans hE
    exact w_X7_numerals_8 hB  _ _ _ _ _  hE hz (lv_sub hl [0, 1] rfl)
  · have hE := (if_neg c1).symm.trans hE
    refine lv_iload_n hx hb dX7_numerals_4 rfl (lv_at hl 2 rfl) ?_
    refine lv_if_ne (tgt := 16) hx hb dX7_numerals_5 (by decide) (fun c5 => ?_) (fun c5 => ?_)
    · have hE := (if_neg c5).symm.trans hE
      refine lv_iload_n hx hb dX7_numerals_16 rfl (lv_at hl 2 rfl) ?_
      refine lv_iconst (v := (2 : Int32)) hx hb dX7_numerals_17 (by decide) ?_
      refine lv_icmp_ne (tgt := 52) hx hb dX7_numerals_18 (by decide) (fun c18 => ?_) (fun c18 => ?_)
      · have hE := (if_neg c18).symm.trans hE
        refine lv_aload_n hx hb dX7_numerals_52 rfl (lv_at hl 0 rfl) ?_
        refine lv_iload_n hx hb dX7_numerals_53 rfl (lv_at hl 1 rfl) ?_
        refine lv_iload_n hx hb dX7_numerals_54 rfl (lv_at hl 2 rfl) ?_
        refine lv_iconst (v := (1 : Int32)) hx hb dX7_numerals_55 (by decide) ?_
        refine lv_icmp_ne (tgt := 64) hx hb dX7_numerals_56 (by decide) (fun c56 => ?_) (fun c56 => ?_)
        · have hE := (if_neg c56).symm.trans hE
          refine lv_bipush (v := (65 : Int32)) hx hb dX7_numerals_64 (by decide) ?_
          exact w_X7_numerals_66_c0 hB  _ _ _ _ _ _  hE hz (lv_sub hl [] rfl)
        · have hE := (if_pos c56).symm.trans hE
          refine lv_bipush (v := (97 : Int32)) hx hb dX7_numerals_59 (by decide) ?_
          refine lv_goto (tgt := 66) hx hb dX7_numerals_61 (by decide) ?_
          exact w_X7_numerals_66_c0 hB  _ _ _ _ _ _  hE hz (lv_sub hl [] rfl)
      · have hE := (if_pos c18).symm.trans hE
        refine lv_aload_n hx hb dX7_numerals_21 rfl (lv_at hl 0 rfl) ?_
        refine lv_iload_n hx hb dX7_numerals_22 rfl (lv_at hl 1 rfl) ?_
        refine lv_bipush (v := (10 : Int32)) hx hb dX7_numerals_23 (by decide) ?_
        refine lv_idiv hx hb dX7_numerals_25 (by decide) ?_
        refine lv_bipush (v := (120 : Int32)) hx hb dX7_numerals_26 (by decide) ?_
        refine lv_bipush (v := (108 : Int32)) hx hb dX7_numerals_28 (by decide) ?_
        refine lv_bipush (v := (99 : Int32)) hx hb dX7_numerals_30 (by decide) ?_
        obtain ⟨q32, hq32, hE⟩ := x_bind hE
        refine i_X7_186 hB hz kdM_0 (c_X7_romanFigure l g  hq32) ⟨(Nat.le_of_ble_eq_true rfl), (Nat.le_of_ble_eq_true rfl)⟩ hl.1 (Nat.le_of_ble_eq_true rfl) dX7_numerals_32 (fun H locs hz => ?_)
        refine lv_aload_n hx hb dX7_numerals_35 rfl (lv_at hl 0 rfl) ?_
        refine lv_iload_n hx hb dX7_numerals_36 rfl (lv_at hl 1 rfl) ?_
        refine lv_bipush (v := (10 : Int32)) hx hb dX7_numerals_37 (by decide) ?_
        refine lv_irem hx hb dX7_numerals_39 (by decide) ?_
        refine lv_bipush (v := (105 : Int32)) hx hb dX7_numerals_40 (by decide) ?_
        refine lv_bipush (v := (118 : Int32)) hx hb dX7_numerals_42 (by decide) ?_
        refine lv_bipush (v := (120 : Int32)) hx hb dX7_numerals_44 (by decide) ?_
        obtain ⟨q46, hq46, hE⟩ := x_bind hE
        refine i_X7_186 hB hz kdM_0 (c_X7_romanFigure l g  hq46) ⟨(Nat.le_of_ble_eq_true rfl), (Nat.le_of_ble_eq_true rfl)⟩ hl.1 (Nat.le_of_ble_eq_true rfl) dX7_numerals_46 (fun H locs hz => ?_)
        refine lv_goto (tgt := 69) hx hb dX7_numerals_49 (by decide) ?_
        exact x_vret hB hz hE dX7_numerals_69
    · have hE := (if_pos c5).symm.trans hE
      exact w_X7_numerals_8 hB  _ _ _ _ _  hE hz (lv_sub hl [0, 1] rfl)
theorem c_X7_numerals (l : Launch) (g : GP) {x1 : Int32} {x2 : Int32} {V : Mem} {o : Mem} (hE : f_X7_numerals x1 x2 V = some o) : CT l g LM yX7_numerals cX7_numerals 3 none rm_X7_numerals [.ref (ad g 0), .int x1, .int x2] V none o := by
  refine ct_of (by decide) (Nat.le_of_ble_eq_true rfl) ?_
  intro p e s m args below meth c ls hB hz hl
  exact w_X7_numerals hB _ _ _ _ _ _  hE hz hl
def rm_X7_writeLabel : Room := { frames := 3, cells := 0, slots := 0, locals := 68 }
theorem i_X7_194 {p : Program} {l : Launch} {e : Env} {R : Room} {s : State} {m : MethodId} {args : Array Value} {below : List Frame} {meth : Method} {c : Code} {H : Heap} {locs : List Loc} {Q : State → Prop} {cc : ByteArray} {pc : Nat} {ls : Array Slot} {rest : List Value} {g : GP} {V : Mem} {nL : Nat} {ret : Option FieldType} (hB : BX p s m args meth c g LM cc nL RX7 ret) (hz : OK g LM V s H locs) {a0 : Nat} {a1 : Int32} {r : Int32} {V1 : Mem} (hM : CT l g LM yX7_isLabelled cX7_isLabelled 2 (some .boolean) rm_X7_isLabelled [.ref (ad g a0), .int a1] V (some (.int r)) V1) (hR : rm_X7_isLabelled.frames + 1 ≤ R.frames ∧ 8 + (2 + 11) + rm_X7_isLabelled.locals ≤ R.locals) (hsz : ls.size = nL) (hrest : (rest.map fun v => v.category).sum ≤ 8) (hdg : decode cc pc = .ok (.invokestatic 194, 3)) (kk : ∀ (H1 : Heap) (locs1 : List Loc), OK g LM V1 s H1 locs1 → W p l e R s m args below meth c H1 locs1 0 0 Q (F0 m (pc + 3) ls (.int r :: rest))) : W p l e R s m args below meth c H locs 0 0 Q (F0 m pc ls (.int a1 :: .ref (ad g a0) :: rest)) :=
  x_cs (As := [.ref (ad g a0), .int a1]) (n := 2) hB hz hM rfl rfl kw_987 kw_68 kw_985 kw_986 (by decide +kernel) rfl hR hsz hrest hdg kk
theorem i_X7_198 {p : Program} {l : Launch} {e : Env} {R : Room} {s : State} {m : MethodId} {args : Array Value} {below : List Frame} {meth : Method} {c : Code} {H : Heap} {locs : List Loc} {Q : State → Prop} {cc : ByteArray} {pc : Nat} {ls : Array Slot} {rest : List Value} {g : GP} {V : Mem} {nL : Nat} {ret : Option FieldType} (hB : BX p s m args meth c g LM cc nL RX7 ret) (hz : OK g LM V s H locs) {i : Nat} (hk : KD LM i 6) {a0 : Int32} {a1 : Int32} {V1 : Mem} (hM : CT l g LM yX7_numerals cX7_numerals 3 none rm_X7_numerals [.ref (ad g i), .int a0, .int a1] V none V1) (hR : rm_X7_numerals.frames + 1 ≤ R.frames ∧ 8 + (3 + 11) + rm_X7_numerals.locals ≤ R.locals) (hsz : ls.size = nL) (hrest : (rest.map fun v => v.category).sum ≤ 8) (hdg : decode cc pc = .ok (.invokevirtual 198, 3)) (kk : ∀ (H1 : Heap) (locs1 : List Loc), OK g LM V1 s H1 locs1 → W p l e R s m args below meth c H1 locs1 0 0 Q (F0 m (pc + 3) ls (rest))) : W p l e R s m args below meth c H locs 0 0 Q (F0 m pc ls (.int a1 :: .int a0 :: .ref (ad g i) :: rest)) :=
  x_cv (As := [.int a0, .int a1]) (n := 2) (T := TX7) (N := 30) hB hz hM hk rfl rfl rfl rfl kw_995 kw_68 kw_992 kw_994 kw_42 (by decide +kernel) rfl hR hsz hrest hdg kk
set_option maxHeartbeats 4000000 in
set_option maxRecDepth 100000 in
theorem w_X7_writeLabel_59 {p : Program} {l : Launch} {e : Env} {s : State} {m : MethodId} {args : Array Value} {below : List Frame} {meth : Method} {c : Code} {g : GP} (hB : BX p s m args meth c g LM cX7_writeLabel 7 RX7 none) {o : Mem} {k39 : Nat → Int32 → Int32 → Int32 → Int32 → Mem → Option (Mem)} (hk39 : ∀ (r1 : Nat) (x2 : Int32) (x4 : Int32) (x5 : Int32) (x6 : Int32) (V : Mem) (H : Heap) (locs : List Loc) (ls : Array Slot), KD LM r1 92 → k39 r1 x2 x4 x5 x6 V = some o → OK g LM V s H locs → lv_has ls 7 [(0, .ref (ad g 0)), (1, .ref (ad g r1)), (2, .int x2), (4, .int x4), (5, .int x5), (6, .int x6)] → W p l e rm_X7_writeLabel s m args below meth c H locs 0 0 (MQ below (QQ g LM none o) args s 0 0 (Ar g LM)) (F0 m 39 ls [])) : ∀ (r1 : Nat) (x2 : Int32) (x4 : Int32) (x5 : Int32) (x6 : Int32) (V : Mem) (H : Heap) (locs : List Loc) (ls : Array Slot), KD LM r1 92 → f_X7_writeLabel_59 k39 r1 x2 x4 x5 x6 V = some o → OK g LM V s H locs → lv_has ls 7 [(0, .ref (ad g 0)), (1, .ref (ad g r1)), (2, .int x2), (4, .int x4), (5, .int x5), (6, .int x6)] → W p l e rm_X7_writeLabel s m args below meth c H locs 0 0 (MQ below (QQ g LM none o) args s 0 0 (Ar g LM)) (F0 m 59 ls []) := by
  obtain ⟨hx, hb, hml, hown, hT, hr, hlk, hK, hJ, hZ, hN⟩ := id hB
  intro r1 x2 x4 x5 x6 V H locs ls k_r1 hE hz hl
  unfold f_X7_writeLabel_59 at hE
  refine lv_aload_n hx hb dX7_writeLabel_59 rfl (lv_at hl 0 rfl) ?_
  refine lv_aload_n hx hb dX7_writeLabel_60 rfl (lv_at hl 0 rfl) ?_
  refine g_X7_40 hB hz kdM_0 dX7_writeLabel_61 ?_
  refine lv_iconst (v := (3 : Int32)) hx hb dX7_writeLabel_64 (by decide) ?_
  refine lv_iload_n hx hb dX7_writeLabel_65 rfl (lv_at hl 2 rfl) ?_
  refine lv_imul hx hb dX7_writeLabel_66 ?_
  refine lv_iload hx hb dX7_writeLabel_67 (lv_at hl 5 rfl) ?_
  refine lv_iadd hx hb dX7_writeLabel_69 ?_
  obtain ⟨hi70, hE⟩ := x_chk hE
  refine x_iald (n := 72) hB hz kdM_11 hi70 dX7_writeLabel_70 ?_
  refine lv_aload_n hx hb dX7_writeLabel_71 rfl (lv_at hl 1 rfl) ?_
  refine lv_iconst (v := (1 : Int32)) hx hb dX7_writeLabel_72 (by decide) ?_
  refine lv_iload hx hb dX7_writeLabel_73 (lv_at hl 5 rfl) ?_
  refine lv_iadd hx hb dX7_writeLabel_75 ?_
  obtain ⟨hi76, hE⟩ := x_chk hE
  refine x_iald (n := 76) hB hz k_r1 hi76 dX7_writeLabel_76 ?_
  obtain ⟨q77, hq77, hE⟩ := x_bind hE
  refine i_X7_198 hB hz kdM_0 (c_X7_numerals l g  hq77) ⟨(Nat.le_of_ble_eq_true rfl), (Nat.le_of_ble_eq_true rfl)⟩ hl.1 (Nat.le_of_ble_eq_true rfl) dX7_writeLabel_77 (fun H locs hz => ?_)
  refine lv_iinc (v := (x6 + 1)) (lv' := [(6, .int (x6 + 1)), (0, .ref (ad g 0)), (1, .ref (ad g r1)), (2, .int x2), (4, .int x4), (5, .int x5)]) hx hb dX7_writeLabel_80 hl (k := 5) rfl rfl (by decide) rfl (fun ls hl => ?_)
  refine lv_goto (tgt := 39) hx hb dX7_writeLabel_83 (by decide) ?_
  exact hk39 _ _ _ _ _ _ _ _ _ k_r1 hE hz (lv_sub hl [1, 2, 3, 4, 5, 0] rfl)

set_option maxHeartbeats 4000000 in
set_option maxRecDepth 100000 in
theorem w_X7_writeLabel_39 {p : Program} {l : Launch} {e : Env} {s : State} {m : MethodId} {args : Array Value} {below : List Frame} {meth : Method} {c : Code} {g : GP} (hB : BX p s m args meth c g LM cX7_writeLabel 7 RX7 none) {o : Mem} : ∀ (n : Nat), ∀ (r1 : Nat) (x2 : Int32) (x4 : Int32) (x5 : Int32) (x6 : Int32) (V : Mem) (H : Heap) (locs : List Loc) (ls : Array Slot), KD LM r1 92 → f_X7_writeLabel_39 n r1 x2 x4 x5 x6 V = some o → OK g LM V s H locs → lv_has ls 7 [(0, .ref (ad g 0)), (1, .ref (ad g r1)), (2, .int x2), (4, .int x4), (5, .int x5), (6, .int x6)] → W p l e rm_X7_writeLabel s m args below meth c H locs 0 0 (MQ below (QQ g LM none o) args s 0 0 (Ar g LM)) (F0 m 39 ls []) := by
  obtain ⟨hx, hb, hml, hown, hT, hr, hlk, hK, hJ, hZ, hN⟩ := id hB
  intro n
  induction n with
  | zero =>
    intro r1 x2 x4 x5 x6 V H locs ls k_r1 hE hz hl
    exact absurd (show (none : Option (Mem)) = some o from hE) (by simp)
  | succ n ih =>
    intro r1 x2 x4 x5 x6 V H locs ls k_r1 hE hz hl
    unfold f_X7_writeLabel_39 at hE
    refine lv_iload hx hb dX7_writeLabel_39 (lv_at hl 5 rfl) ?_
    refine lv_iload hx hb dX7_writeLabel_41 (lv_at hl 3 rfl) ?_
    refine lv_icmp_gt (tgt := 86) hx hb dX7_writeLabel_43 (by decide) (fun c43 => ?_) (fun c43 => ?_)
    · have hE := (if_pos c43).symm.trans hE
      exact x_vret hB hz hE dX7_writeLabel_86
    · have hE := (if_neg c43).symm.trans hE
      refine lv_iload hx hb dX7_writeLabel_46 (lv_at hl 5 rfl) ?_
      refine lv_iload hx hb dX7_writeLabel_48 (lv_at hl 4 rfl) ?_
      refine lv_icmp_le (tgt := 59) hx hb dX7_writeLabel_50 (by decide) (fun c50 => ?_) (fun c50 => ?_)
      · have hE := (if_pos c50).symm.trans hE
        exact w_X7_writeLabel_59 hB ih _ _ _ _ _ _ _ _ _ k_r1 hE hz (lv_sub hl [0, 1, 2, 3, 4, 5] rfl)
      · have hE := (if_neg c50).symm.trans hE
        refine lv_aload_n hx hb dX7_writeLabel_53 rfl (lv_at hl 0 rfl) ?_
        refine lv_bipush (v := (46 : Int32)) hx hb dX7_writeLabel_54 (by decide) ?_
        obtain ⟨q56, hq56, hE⟩ := x_bind hE
        refine i_X7_180 hB hz kdM_0 (c_X7_writes l g  hq56) ⟨(Nat.le_of_ble_eq_true rfl), (Nat.le_of_ble_eq_true rfl)⟩ hl.1 (Nat.le_of_ble_eq_true rfl) dX7_writeLabel_56 (fun H locs hz => ?_)
        exact w_X7_writeLabel_59 hB ih _ _ _ _ _ _ _ _ _ k_r1 hE hz (lv_sub hl [0, 1, 2, 3, 4, 5] rfl)

set_option maxHeartbeats 4000000 in
set_option maxRecDepth 100000 in
theorem w_X7_writeLabel_33 {p : Program} {l : Launch} {e : Env} {s : State} {m : MethodId} {args : Array Value} {below : List Frame} {meth : Method} {c : Code} {g : GP} (hB : BX p s m args meth c g LM cX7_writeLabel 7 RX7 none) {o : Mem} : ∀ (r1 : Nat) (x2 : Int32) (x4 : Int32) (s0 : Int32) (V : Mem) (H : Heap) (locs : List Loc) (ls : Array Slot), KD LM r1 92 → f_X7_writeLabel_33 r1 x2 x4 s0 V = some o → OK g LM V s H locs → lv_has ls 7 [(0, .ref (ad g 0)), (1, .ref (ad g r1)), (2, .int x2), (4, .int x4)] → W p l e rm_X7_writeLabel s m args below meth c H locs 0 0 (MQ below (QQ g LM none o) args s 0 0 (Ar g LM)) (F0 m 33 ls [.int s0]) := by
  obtain ⟨hx, hb, hml, hown, hT, hr, hlk, hK, hJ, hZ, hN⟩ := id hB
  intro r1 x2 x4 s0 V H locs ls k_r1 hE hz hl
  unfold f_X7_writeLabel_33 at hE
  refine lv_istore (lv' := [(5, .int s0), (0, .ref (ad g 0)), (1, .ref (ad g r1)), (2, .int x2), (4, .int x4)]) hx hb dX7_writeLabel_33 hl (by decide) rfl (fun ls hl => ?_)
  refine lv_iload hx hb dX7_writeLabel_35 (lv_at hl 0 rfl) ?_
  refine lv_istore (lv' := [(6, .int s0), (5, .int s0), (0, .ref (ad g 0)), (1, .ref (ad g r1)), (2, .int x2), (4, .int x4)]) hx hb dX7_writeLabel_37 hl (by decide) rfl (fun ls hl => ?_)
  exact w_X7_writeLabel_39 hB  _ _ _ _ _ _ _ _ _ _ k_r1 hE hz (lv_sub hl [2, 3, 4, 5, 1, 0] rfl)

set_option maxHeartbeats 4000000 in
set_option maxRecDepth 100000 in
theorem w_X7_writeLabel {p : Program} {l : Launch} {e : Env} {s : State} {m : MethodId} {args : Array Value} {below : List Frame} {meth : Method} {c : Code} {g : GP} (hB : BX p s m args meth c g LM cX7_writeLabel 7 RX7 none) {o : Mem} : ∀ (r1 : Nat) (x2 : Int32) (x3 : Int32) (V : Mem) (H : Heap) (locs : List Loc) (ls : Array Slot), KD LM r1 92 → f_X7_writeLabel r1 x2 x3 V = some o → OK g LM V s H locs → lv_has ls 7 [(0, .ref (ad g 0)), (1, .ref (ad g r1)), (2, .int x2), (3, .int x3)] → W p l e rm_X7_writeLabel s m args below meth c H locs 0 0 (MQ below (QQ g LM none o) args s 0 0 (Ar g LM)) (F0 m 0 ls []) := by
  obtain ⟨hx, hb, hml, hown, hT, hr, hlk, hK, hJ, hZ, hN⟩ := id hB
  intro r1 x2 x3 V H locs ls k_r1 hE hz hl
  unfold f_X7_writeLabel at hE
  refine lv_aload_n hx hb dX7_writeLabel_0 rfl (lv_at hl 0 rfl) ?_
  refine lv_iconst (v := (0 : Int32)) hx hb dX7_writeLabel_1 (by decide) ?_
  refine p_X7_177 hB hz kdM_0 dX7_writeLabel_2 (fun H locs hz => ?_)
  refine lv_aload_n hx hb dX7_writeLabel_5 rfl (lv_at hl 1 rfl) ?_
  refine lv_iload_n hx hb dX7_writeLabel_6 rfl (lv_at hl 2 rfl) ?_
  obtain ⟨q7, hq7, hE⟩ := x_bind hE
  refine i_X7_194 hB hz (c_X7_isLabelled l g k_r1 hq7) ⟨(Nat.le_of_ble_eq_true rfl), (Nat.le_of_ble_eq_true rfl)⟩ hl.1 (Nat.le_of_ble_eq_true rfl) dX7_writeLabel_7 (fun H locs hz => ?_)
  refine lv_if_eq (tgt := 86) hx hb dX7_writeLabel_10 (by decide) (fun c10 => ?_) (fun c10 => ?_)
  · have hE := (if_pos c10).symm.trans hE
    exact x_vret hB hz hE dX7_writeLabel_86
  · have hE := (if_neg c10).symm.trans hE
    refine lv_aload_n hx hb dX7_writeLabel_13 rfl (lv_at hl 1 rfl) ?_
    refine lv_iload_n hx hb dX7_writeLabel_14 rfl (lv_at hl 2 rfl) ?_
    refine lv_iconst (v := (1 : Int32)) hx hb dX7_writeLabel_15 (by decide) ?_
    obtain ⟨q16, hq16, hE⟩ := x_bind hE
    refine i_X7_165 hB hz (c_X7_of l g k_r1 hq16) ⟨(Nat.le_of_ble_eq_true rfl), (Nat.le_of_ble_eq_true rfl)⟩ hl.1 (Nat.le_of_ble_eq_true rfl) dX7_writeLabel_16 (fun H locs hz => ?_)
    refine lv_istore (lv' := [(4, .int q16.1), (0, .ref (ad g 0)), (1, .ref (ad g r1)), (2, .int x2), (3, .int x3)]) hx hb dX7_writeLabel_19 hl (by decide) rfl (fun ls hl => ?_)
    refine lv_iload_n hx hb dX7_writeLabel_21 rfl (lv_at hl 4 rfl) ?_
    refine lv_iload hx hb dX7_writeLabel_22 (lv_at hl 0 rfl) ?_
    refine lv_icmp_ge (tgt := 31) hx hb dX7_writeLabel_24 (by decide) (fun c24 => ?_) (fun c24 => ?_)
    · have hE := (if_pos c24).symm.trans hE
      refine lv_iload hx hb dX7_writeLabel_31 (lv_at hl 0 rfl) ?_
      exact w_X7_writeLabel_33 hB  _ _ _ _ _ _ _ _ k_r1 hE hz (lv_sub hl [1, 2, 3, 0] rfl)
    · have hE := (if_neg c24).symm.trans hE
      refine lv_iload_n hx hb dX7_writeLabel_27 rfl (lv_at hl 4 rfl) ?_
      refine lv_goto (tgt := 33) hx hb dX7_writeLabel_28 (by decide) ?_
      exact w_X7_writeLabel_33 hB  _ _ _ _ _ _ _ _ k_r1 hE hz (lv_sub hl [1, 2, 3, 0] rfl)
theorem c_X7_writeLabel (l : Launch) (g : GP) {r1 : Nat} (k_r1 : KD LM r1 92) {x2 : Int32} {x3 : Int32} {V : Mem} {o : Mem} (hE : f_X7_writeLabel r1 x2 x3 V = some o) : CT l g LM yX7_writeLabel cX7_writeLabel 7 none rm_X7_writeLabel [.ref (ad g 0), .ref (ad g r1), .int x2, .int x3] V none o := by
  refine ct_of (by decide) (Nat.le_of_ble_eq_true rfl) ?_
  intro p e s m args below meth c ls hB hz hl
  exact w_X7_writeLabel hB _ _ _ _ _ _ _ k_r1 hE hz hl
def rm_X7_layThen : Room := { frames := 0, cells := 0, slots := 0, locals := 0 }
set_option maxHeartbeats 4000000 in
set_option maxRecDepth 100000 in
theorem w_X7_layThen_2 {p : Program} {l : Launch} {e : Env} {s : State} {m : MethodId} {args : Array Value} {below : List Frame} {meth : Method} {c : Code} {g : GP} (hB : BX p s m args meth c g LM cX7_layThen 2 RX7 none) {o : Mem} : ∀ (n : Nat), ∀ (x1 : Int32) (V : Mem) (H : Heap) (locs : List Loc) (ls : Array Slot), f_X7_layThen_2 n x1 V = some o → OK g LM V s H locs → lv_has ls 2 [(0, .ref (ad g 0)), (1, .int x1)] → W p l e rm_X7_layThen s m args below meth c H locs 0 0 (MQ below (QQ g LM none o) args s 0 0 (Ar g LM)) (F0 m 2 ls []) := by
  obtain ⟨hx, hb, hml, hown, hT, hr, hlk, hK, hJ, hZ, hN⟩ := id hB
  intro n
  induction n with
  | zero =>
    intro x1 V H locs ls hE hz hl
    exact absurd (show (none : Option (Mem)) = some o from hE) (by simp)
  | succ n ih =>
    intro x1 V H locs ls hE hz hl
    unfold f_X7_layThen_2 at hE
    refine lv_iload_n hx hb dX7_layThen_2 rfl (lv_at hl 1 rfl) ?_
    refine lv_bipush (v := (76 : Int32)) hx hb dX7_layThen_3 (by decide) ?_
    refine lv_icmp_ge (tgt := 26) hx hb dX7_layThen_5 (by decide) (fun c5 => ?_) (fun c5 => ?_)
    · have hE := (if_pos c5).symm.trans hE
      exact x_vret hB hz hE dX7_layThen_26
    · have hE := (if_neg c5).symm.trans hE
      refine lv_aload_n hx hb dX7_layThen_8 rfl (lv_at hl 0 rfl) ?_
      refine g_X7_25 hB hz kdM_0 dX7_layThen_9 ?_
      refine lv_iload_n hx hb dX7_layThen_12 rfl (lv_at hl 1 rfl) ?_
      refine lv_aload_n hx hb dX7_layThen_13 rfl (lv_at hl 0 rfl) ?_
      refine g_X7_19 hB hz kdM_0 dX7_layThen_14 ?_
      refine lv_iload_n hx hb dX7_layThen_17 rfl (lv_at hl 1 rfl) ?_
      obtain ⟨hi18, hE⟩ := x_chk hE
      refine x_iald (n := 76) hB hz kdM_4 hi18 dX7_layThen_18 ?_
      obtain ⟨hi19, hE⟩ := x_chk hE
      refine x_iast (n := 76) hB hz kdM_6 hi19 dX7_layThen_19 (fun H locs hz => ?_)
      refine lv_iinc (v := (x1 + 1)) (lv' := [(1, .int (x1 + 1)), (0, .ref (ad g 0))]) hx hb dX7_layThen_20 hl (k := 1) rfl rfl (by decide) rfl (fun ls hl => ?_)
      refine lv_goto (tgt := 2) hx hb dX7_layThen_23 (by decide) ?_
      exact ih _ _ _ _ _  hE hz (lv_sub hl [1, 0] rfl)

set_option maxHeartbeats 4000000 in
set_option maxRecDepth 100000 in
theorem w_X7_layThen {p : Program} {l : Launch} {e : Env} {s : State} {m : MethodId} {args : Array Value} {below : List Frame} {meth : Method} {c : Code} {g : GP} (hB : BX p s m args meth c g LM cX7_layThen 2 RX7 none) {o : Mem} : ∀ (V : Mem) (H : Heap) (locs : List Loc) (ls : Array Slot), f_X7_layThen V = some o → OK g LM V s H locs → lv_has ls 2 [(0, .ref (ad g 0))] → W p l e rm_X7_layThen s m args below meth c H locs 0 0 (MQ below (QQ g LM none o) args s 0 0 (Ar g LM)) (F0 m 0 ls []) := by
  obtain ⟨hx, hb, hml, hown, hT, hr, hlk, hK, hJ, hZ, hN⟩ := id hB
  intro V H locs ls hE hz hl
  unfold f_X7_layThen at hE
  refine lv_iconst (v := (0 : Int32)) hx hb dX7_layThen_0 (by decide) ?_
  refine lv_istore_n (lv' := [(1, .int (0 : Int32)), (0, .ref (ad g 0))]) hx hb dX7_layThen_1 rfl hl (by decide) rfl (fun ls hl => ?_)
  exact w_X7_layThen_2 hB  _ _ _ _ _ _  hE hz (lv_sub hl [1, 0] rfl)
theorem c_X7_layThen (l : Launch) (g : GP) {V : Mem} {o : Mem} (hE : f_X7_layThen V = some o) : CT l g LM yX7_layThen cX7_layThen 2 none rm_X7_layThen [.ref (ad g 0)] V none o := by
  refine ct_of (by decide) (Nat.le_of_ble_eq_true rfl) ?_
  intro p e s m args below meth c ls hB hz hl
  exact w_X7_layThen hB  _ _ _ _  hE hz hl
def rm_X7_putAt : Room := { frames := 1, cells := 0, slots := 0, locals := 24 }
set_option maxHeartbeats 4000000 in
set_option maxRecDepth 100000 in
theorem w_X7_putAt_5 {p : Program} {l : Launch} {e : Env} {s : State} {m : MethodId} {args : Array Value} {below : List Frame} {meth : Method} {c : Code} {g : GP} (hB : BX p s m args meth c g LM cX7_putAt 6 RX7 none) {o : Mem} : ∀ (n : Nat), ∀ (r0 : Nat) (x1 : Int32) (x2 : Int32) (x3 : Int32) (x4 : Int32) (x5 : Int32) (V : Mem) (H : Heap) (locs : List Loc) (ls : Array Slot), KD LM r0 92 → f_X7_putAt_5 n r0 x1 x2 x3 x4 x5 V = some o → OK g LM V s H locs → lv_has ls 6 [(0, .ref (ad g r0)), (1, .int x1), (2, .int x2), (3, .int x3), (4, .int x4), (5, .int x5)] → W p l e rm_X7_putAt s m args below meth c H locs 0 0 (MQ below (QQ g LM none o) args s 0 0 (Ar g LM)) (F0 m 5 ls []) := by
  obtain ⟨hx, hb, hml, hown, hT, hr, hlk, hK, hJ, hZ, hN⟩ := id hB
  intro n
  induction n with
  | zero =>
    intro r0 x1 x2 x3 x4 x5 V H locs ls k_r0 hE hz hl
    exact absurd (show (none : Option (Mem)) = some o from hE) (by simp)
  | succ n ih =>
    intro r0 x1 x2 x3 x4 x5 V H locs ls k_r0 hE hz hl
    unfold f_X7_putAt_5 at hE
    refine lv_iload hx hb dX7_putAt_5 (lv_at hl 5 rfl) ?_
    refine lv_iload_n hx hb dX7_putAt_7 rfl (lv_at hl 1 rfl) ?_
    refine lv_icmp_le (tgt := 50) hx hb dX7_putAt_8 (by decide) (fun c8 => ?_) (fun c8 => ?_)
    · have hE := (if_pos c8).symm.trans hE
      refine lv_aload_n hx hb dX7_putAt_50 rfl (lv_at hl 0 rfl) ?_
      refine lv_iload_n hx hb dX7_putAt_51 rfl (lv_at hl 1 rfl) ?_
      refine lv_iload_n hx hb dX7_putAt_52 rfl (lv_at hl 2 rfl) ?_
      refine lv_iload_n hx hb dX7_putAt_53 rfl (lv_at hl 3 rfl) ?_
      refine lv_iload hx hb dX7_putAt_54 (lv_at hl 4 rfl) ?_
      obtain ⟨q56, hq56, hE⟩ := x_bind hE
      refine i_X7_141 hB hz (c_X7_layAt l g k_r0 hq56) ⟨(Nat.le_of_ble_eq_true rfl), (Nat.le_of_ble_eq_true rfl)⟩ hl.1 (Nat.le_of_ble_eq_true rfl) dX7_putAt_56 (fun H locs hz => ?_)
      refine lv_aload_n hx hb dX7_putAt_59 rfl (lv_at hl 0 rfl) ?_
      refine lv_iconst (v := (0 : Int32)) hx hb dX7_putAt_60 (by decide) ?_
      refine lv_dup2_11 hx hb dX7_putAt_61 rfl rfl ?_
      obtain ⟨hi62, hE⟩ := x_chk hE
      refine x_iald (n := 76) hB hz k_r0 hi62 dX7_putAt_62 ?_
      refine lv_iconst (v := (1 : Int32)) hx hb dX7_putAt_63 (by decide) ?_
      refine lv_iadd hx hb dX7_putAt_64 ?_
      obtain ⟨hi65, hE⟩ := x_chk hE
      refine x_iast (n := 76) hB hz k_r0 hi65 dX7_putAt_65 (fun H locs hz => ?_)
      exact x_vret hB hz hE dX7_putAt_66
    · have hE := (if_neg c8).symm.trans hE
      refine lv_aload_n hx hb dX7_putAt_11 rfl (lv_at hl 0 rfl) ?_
      refine lv_iload hx hb dX7_putAt_12 (lv_at hl 5 rfl) ?_
      refine lv_aload_n hx hb dX7_putAt_14 rfl (lv_at hl 0 rfl) ?_
      refine lv_iload hx hb dX7_putAt_15 (lv_at hl 5 rfl) ?_
      refine lv_iconst (v := (1 : Int32)) hx hb dX7_putAt_17 (by decide) ?_
      refine lv_isub hx hb dX7_putAt_18 ?_
      refine lv_iconst (v := (0 : Int32)) hx hb dX7_putAt_19 (by decide) ?_
      obtain ⟨q20, hq20, hE⟩ := x_bind hE
      refine i_X7_165 hB hz (c_X7_of l g k_r0 hq20) ⟨(Nat.le_of_ble_eq_true rfl), (Nat.le_of_ble_eq_true rfl)⟩ hl.1 (Nat.le_of_ble_eq_true rfl) dX7_putAt_20 (fun H locs hz => ?_)
      refine lv_aload_n hx hb dX7_putAt_23 rfl (lv_at hl 0 rfl) ?_
      refine lv_iload hx hb dX7_putAt_24 (lv_at hl 5 rfl) ?_
      refine lv_iconst (v := (1 : Int32)) hx hb dX7_putAt_26 (by decide) ?_
      refine lv_isub hx hb dX7_putAt_27 ?_
      refine lv_iconst (v := (1 : Int32)) hx hb dX7_putAt_28 (by decide) ?_
      obtain ⟨q29, hq29, hE⟩ := x_bind hE
      refine i_X7_165 hB hz (c_X7_of l g k_r0 hq29) ⟨(Nat.le_of_ble_eq_true rfl), (Nat.le_of_ble_eq_true rfl)⟩ hl.1 (Nat.le_of_ble_eq_true rfl) dX7_putAt_29 (fun H locs hz => ?_)
      refine lv_aload_n hx hb dX7_putAt_32 rfl (lv_at hl 0 rfl) ?_
      refine lv_iload hx hb dX7_putAt_33 (lv_at hl 5 rfl) ?_
      refine lv_iconst (v := (1 : Int32)) hx hb dX7_putAt_35 (by decide) ?_
      refine lv_isub hx hb dX7_putAt_36 ?_
      refine lv_iconst (v := (2 : Int32)) hx hb dX7_putAt_37 (by decide) ?_
      obtain ⟨q38, hq38, hE⟩ := x_bind hE
      refine i_X7_165 hB hz (c_X7_of l g k_r0 hq38) ⟨(Nat.le_of_ble_eq_true rfl), (Nat.le_of_ble_eq_true rfl)⟩ hl.1 (Nat.le_of_ble_eq_true rfl) dX7_putAt_38 (fun H locs hz => ?_)
      obtain ⟨q41, hq41, hE⟩ := x_bind hE
      refine i_X7_141 hB hz (c_X7_layAt l g k_r0 hq41) ⟨(Nat.le_of_ble_eq_true rfl), (Nat.le_of_ble_eq_true rfl)⟩ hl.1 (Nat.le_of_ble_eq_true rfl) dX7_putAt_41 (fun H locs hz => ?_)
      refine lv_iinc (v := (x5 + (-1))) (lv' := [(5, .int (x5 + (-1))), (0, .ref (ad g r0)), (1, .int x1), (2, .int x2), (3, .int x3), (4, .int x4)]) hx hb dX7_putAt_44 hl (k := 5) rfl rfl (by decide) rfl (fun ls hl => ?_)
      refine lv_goto (tgt := 5) hx hb dX7_putAt_47 (by decide) ?_
      exact ih _ _ _ _ _ _ _ _ _ _ k_r0 hE hz (lv_sub hl [1, 2, 3, 4, 5, 0] rfl)

set_option maxHeartbeats 4000000 in
set_option maxRecDepth 100000 in
theorem w_X7_putAt {p : Program} {l : Launch} {e : Env} {s : State} {m : MethodId} {args : Array Value} {below : List Frame} {meth : Method} {c : Code} {g : GP} (hB : BX p s m args meth c g LM cX7_putAt 6 RX7 none) {o : Mem} : ∀ (r0 : Nat) (x1 : Int32) (x2 : Int32) (x3 : Int32) (x4 : Int32) (V : Mem) (H : Heap) (locs : List Loc) (ls : Array Slot), KD LM r0 92 → f_X7_putAt r0 x1 x2 x3 x4 V = some o → OK g LM V s H locs → lv_has ls 6 [(0, .ref (ad g r0)), (1, .int x1), (2, .int x2), (3, .int x3), (4, .int x4)] → W p l e rm_X7_putAt s m args below meth c H locs 0 0 (MQ below (QQ g LM none o) args s 0 0 (Ar g LM)) (F0 m 0 ls []) := by
  obtain ⟨hx, hb, hml, hown, hT, hr, hlk, hK, hJ, hZ, hN⟩ := id hB
  intro r0 x1 x2 x3 x4 V H locs ls k_r0 hE hz hl
  unfold f_X7_putAt at hE
  refine lv_aload_n hx hb dX7_putAt_0 rfl (lv_at hl 0 rfl) ?_
  refine lv_iconst (v := (0 : Int32)) hx hb dX7_putAt_1 (by decide) ?_
  obtain ⟨hi2, hE⟩ := x_chk hE
  refine x_iald (n := 76) hB hz k_r0 hi2 dX7_putAt_2 ?_
  refine lv_istore (lv' := [(5, .int (V r0 ((0 : Int32)).toNatClampNeg)), (0, .ref (ad g r0)), (1, .int x1), (2, .int x2), (3, .int x3), (4, .int x4)]) hx hb dX7_putAt_3 hl (by decide) rfl (fun ls hl => ?_)
  exact w_X7_putAt_5 hB  _ _ _ _ _ _ _ _ _ _ _ k_r0 hE hz (lv_sub hl [1, 2, 3, 4, 5, 0] rfl)
theorem c_X7_putAt (l : Launch) (g : GP) {r0 : Nat} (k_r0 : KD LM r0 92) {x1 : Int32} {x2 : Int32} {x3 : Int32} {x4 : Int32} {V : Mem} {o : Mem} (hE : f_X7_putAt r0 x1 x2 x3 x4 V = some o) : CT l g LM yX7_putAt cX7_putAt 6 none rm_X7_putAt [.ref (ad g r0), .int x1, .int x2, .int x3, .int x4] V none o := by
  refine ct_of (by decide) (Nat.le_of_ble_eq_true rfl) ?_
  intro p e s m args below meth c ls hB hz hl
  exact w_X7_putAt hB _ _ _ _ _ _ _ _ _ k_r0 hE hz hl
def rm_X7_takeOut : Room := { frames := 1, cells := 0, slots := 0, locals := 24 }
set_option maxHeartbeats 4000000 in
set_option maxRecDepth 100000 in
theorem w_X7_takeOut_9 {p : Program} {l : Launch} {e : Env} {s : State} {m : MethodId} {args : Array Value} {below : List Frame} {meth : Method} {c : Code} {g : GP} (hB : BX p s m args meth c g LM cX7_takeOut 3 RX7 none) {o : Mem} : ∀ (n : Nat), ∀ (r0 : Nat) (x2 : Int32) (V : Mem) (H : Heap) (locs : List Loc) (ls : Array Slot), KD LM r0 92 → f_X7_takeOut_9 n r0 x2 V = some o → OK g LM V s H locs → lv_has ls 3 [(0, .ref (ad g r0)), (2, .int x2)] → W p l e rm_X7_takeOut s m args below meth c H locs 0 0 (MQ below (QQ g LM none o) args s 0 0 (Ar g LM)) (F0 m 9 ls []) := by
  obtain ⟨hx, hb, hml, hown, hT, hr, hlk, hK, hJ, hZ, hN⟩ := id hB
  intro n
  induction n with
  | zero =>
    intro r0 x2 V H locs ls k_r0 hE hz hl
    exact absurd (show (none : Option (Mem)) = some o from hE) (by simp)
  | succ n ih =>
    intro r0 x2 V H locs ls k_r0 hE hz hl
    unfold f_X7_takeOut_9 at hE
    refine lv_iload_n hx hb dX7_takeOut_9 rfl (lv_at hl 1 rfl) ?_
    refine lv_aload_n hx hb dX7_takeOut_10 rfl (lv_at hl 0 rfl) ?_
    refine lv_iconst (v := (0 : Int32)) hx hb dX7_takeOut_11 (by decide) ?_
    obtain ⟨hi12, hE⟩ := x_chk hE
    refine x_iald (n := 76) hB hz k_r0 hi12 dX7_takeOut_12 ?_
    refine lv_icmp_ge (tgt := 51) hx hb dX7_takeOut_13 (by decide) (fun c13 => ?_) (fun c13 => ?_)
    · have hE := (if_pos c13).symm.trans hE
      refine lv_aload_n hx hb dX7_takeOut_51 rfl (lv_at hl 0 rfl) ?_
      refine lv_aload_n hx hb dX7_takeOut_52 rfl (lv_at hl 0 rfl) ?_
      refine lv_iconst (v := (0 : Int32)) hx hb dX7_takeOut_53 (by decide) ?_
      obtain ⟨hi54, hE⟩ := x_chk hE
      refine x_iald (n := 76) hB hz k_r0 hi54 dX7_takeOut_54 ?_
      refine lv_iconst (v := (0 : Int32)) hx hb dX7_takeOut_55 (by decide) ?_
      refine lv_iconst (v := (0 : Int32)) hx hb dX7_takeOut_56 (by decide) ?_
      refine lv_iconst (v := (0 : Int32)) hx hb dX7_takeOut_57 (by decide) ?_
      obtain ⟨q58, hq58, hE⟩ := x_bind hE
      refine i_X7_141 hB hz (c_X7_layAt l g k_r0 hq58) ⟨(Nat.le_of_ble_eq_true rfl), (Nat.le_of_ble_eq_true rfl)⟩ hl.1 (Nat.le_of_ble_eq_true rfl) dX7_takeOut_58 (fun H locs hz => ?_)
      exact x_vret hB hz hE dX7_takeOut_61
    · have hE := (if_neg c13).symm.trans hE
      refine lv_aload_n hx hb dX7_takeOut_16 rfl (lv_at hl 0 rfl) ?_
      refine lv_iload_n hx hb dX7_takeOut_17 rfl (lv_at hl 1 rfl) ?_
      refine lv_aload_n hx hb dX7_takeOut_18 rfl (lv_at hl 0 rfl) ?_
      refine lv_iload_n hx hb dX7_takeOut_19 rfl (lv_at hl 1 rfl) ?_
      refine lv_iconst (v := (1 : Int32)) hx hb dX7_takeOut_20 (by decide) ?_
      refine lv_iadd hx hb dX7_takeOut_21 ?_
      refine lv_iconst (v := (0 : Int32)) hx hb dX7_takeOut_22 (by decide) ?_
      obtain ⟨q23, hq23, hE⟩ := x_bind hE
      refine i_X7_165 hB hz (c_X7_of l g k_r0 hq23) ⟨(Nat.le_of_ble_eq_true rfl), (Nat.le_of_ble_eq_true rfl)⟩ hl.1 (Nat.le_of_ble_eq_true rfl) dX7_takeOut_23 (fun H locs hz => ?_)
      refine lv_aload_n hx hb dX7_takeOut_26 rfl (lv_at hl 0 rfl) ?_
      refine lv_iload_n hx hb dX7_takeOut_27 rfl (lv_at hl 1 rfl) ?_
      refine lv_iconst (v := (1 : Int32)) hx hb dX7_takeOut_28 (by decide) ?_
      refine lv_iadd hx hb dX7_takeOut_29 ?_
      refine lv_iconst (v := (1 : Int32)) hx hb dX7_takeOut_30 (by decide) ?_
      obtain ⟨q31, hq31, hE⟩ := x_bind hE
      refine i_X7_165 hB hz (c_X7_of l g k_r0 hq31) ⟨(Nat.le_of_ble_eq_true rfl), (Nat.le_of_ble_eq_true rfl)⟩ hl.1 (Nat.le_of_ble_eq_true rfl) dX7_takeOut_31 (fun H locs hz => ?_)
      refine lv_aload_n hx hb dX7_takeOut_34 rfl (lv_at hl 0 rfl) ?_
      refine lv_iload_n hx hb dX7_takeOut_35 rfl (lv_at hl 1 rfl) ?_
      refine lv_iconst (v := (1 : Int32)) hx hb dX7_takeOut_36 (by decide) ?_
      refine lv_iadd hx hb dX7_takeOut_37 ?_
      refine lv_iconst (v := (2 : Int32)) hx hb dX7_takeOut_38 (by decide) ?_
      obtain ⟨q39, hq39, hE⟩ := x_bind hE
      refine i_X7_165 hB hz (c_X7_of l g k_r0 hq39) ⟨(Nat.le_of_ble_eq_true rfl), (Nat.le_of_ble_eq_true rfl)⟩ hl.1 (Nat.le_of_ble_eq_true rfl) dX7_takeOut_39 (fun H locs hz => ?_)
      obtain ⟨q42, hq42, hE⟩ := x_bind hE
      refine i_X7_141 hB hz (c_X7_layAt l g k_r0 hq42) ⟨(Nat.le_of_ble_eq_true rfl), (Nat.le_of_ble_eq_true rfl)⟩ hl.1 (Nat.le_of_ble_eq_true rfl) dX7_takeOut_42 (fun H locs hz => ?_)
      refine lv_iinc (v := (x2 + 1)) (lv' := [(2, .int (x2 + 1)), (0, .ref (ad g r0))]) hx hb dX7_takeOut_45 hl (k := 1) rfl rfl (by decide) rfl (fun ls hl => ?_)
      refine lv_goto (tgt := 9) hx hb dX7_takeOut_48 (by decide) ?_
      exact ih _ _ _ _ _ _ k_r0 hE hz (lv_sub hl [1, 0] rfl)

set_option maxHeartbeats 4000000 in
set_option maxRecDepth 100000 in
theorem w_X7_takeOut {p : Program} {l : Launch} {e : Env} {s : State} {m : MethodId} {args : Array Value} {below : List Frame} {meth : Method} {c : Code} {g : GP} (hB : BX p s m args meth c g LM cX7_takeOut 3 RX7 none) {o : Mem} : ∀ (r0 : Nat) (x1 : Int32) (V : Mem) (H : Heap) (locs : List Loc) (ls : Array Slot), KD LM r0 92 → f_X7_takeOut r0 x1 V = some o → OK g LM V s H locs → lv_has ls 3 [(0, .ref (ad g r0)), (1, .int x1)] → W p l e rm_X7_takeOut s m args below meth c H locs 0 0 (MQ below (QQ g LM none o) args s 0 0 (Ar g LM)) (F0 m 0 ls []) := by
  obtain ⟨hx, hb, hml, hown, hT, hr, hlk, hK, hJ, hZ, hN⟩ := id hB
  intro r0 x1 V H locs ls k_r0 hE hz hl
  unfold f_X7_takeOut at hE
  refine lv_aload_n hx hb dX7_takeOut_0 rfl (lv_at hl 0 rfl) ?_
  refine lv_iconst (v := (0 : Int32)) hx hb dX7_takeOut_1 (by decide) ?_
  refine lv_dup2_11 hx hb dX7_takeOut_2 rfl rfl ?_
  obtain ⟨hi3, hE⟩ := x_chk hE
  refine x_iald (n := 76) hB hz k_r0 hi3 dX7_takeOut_3 ?_
  refine lv_iconst (v := (1 : Int32)) hx hb dX7_takeOut_4 (by decide) ?_
  refine lv_isub hx hb dX7_takeOut_5 ?_
  obtain ⟨hi6, hE⟩ := x_chk hE
  refine x_iast (n := 76) hB hz k_r0 hi6 dX7_takeOut_6 (fun H locs hz => ?_)
  refine lv_iload_n hx hb dX7_takeOut_7 rfl (lv_at hl 1 rfl) ?_
  refine lv_istore_n (lv' := [(2, .int x1), (0, .ref (ad g r0)), (1, .int x1)]) hx hb dX7_takeOut_8 rfl hl (by decide) rfl (fun ls hl => ?_)
  exact w_X7_takeOut_9 hB  _ _ _ _ _ _ _ k_r0 hE hz (lv_sub hl [1, 0] rfl)
theorem c_X7_takeOut (l : Launch) (g : GP) {r0 : Nat} (k_r0 : KD LM r0 92) {x1 : Int32} {V : Mem} {o : Mem} (hE : f_X7_takeOut r0 x1 V = some o) : CT l g LM yX7_takeOut cX7_takeOut 3 none rm_X7_takeOut [.ref (ad g r0), .int x1] V none o := by
  refine ct_of (by decide) (Nat.le_of_ble_eq_true rfl) ?_
  intro p e s m args below meth c ls hB hz hl
  exact w_X7_takeOut hB _ _ _ _ _ _ k_r0 hE hz hl
def rm_X7_moveTo : Room := { frames := 2, cells := 0, slots := 0, locals := 49 }
theorem i_X7_201 {p : Program} {l : Launch} {e : Env} {R : Room} {s : State} {m : MethodId} {args : Array Value} {below : List Frame} {meth : Method} {c : Code} {H : Heap} {locs : List Loc} {Q : State → Prop} {cc : ByteArray} {pc : Nat} {ls : Array Slot} {rest : List Value} {g : GP} {V : Mem} {nL : Nat} {ret : Option FieldType} (hB : BX p s m args meth c g LM cc nL RX7 ret) (hz : OK g LM V s H locs) {a0 : Nat} {a1 : Int32} {V1 : Mem} (hM : CT l g LM yX7_takeOut cX7_takeOut 3 none rm_X7_takeOut [.ref (ad g a0), .int a1] V none V1) (hR : rm_X7_takeOut.frames + 1 ≤ R.frames ∧ 8 + (3 + 11) + rm_X7_takeOut.locals ≤ R.locals) (hsz : ls.size = nL) (hrest : (rest.map fun v => v.category).sum ≤ 8) (hdg : decode cc pc = .ok (.invokestatic 201, 3)) (kk : ∀ (H1 : Heap) (locs1 : List Loc), OK g LM V1 s H1 locs1 → W p l e R s m args below meth c H1 locs1 0 0 Q (F0 m (pc + 3) ls (rest))) : W p l e R s m args below meth c H locs 0 0 Q (F0 m pc ls (.int a1 :: .ref (ad g a0) :: rest)) :=
  x_cs (As := [.ref (ad g a0), .int a1]) (n := 2) hB hz hM rfl rfl kw_944 kw_68 kw_942 kw_943 (by decide +kernel) rfl hR hsz hrest hdg kk
theorem i_X7_204 {p : Program} {l : Launch} {e : Env} {R : Room} {s : State} {m : MethodId} {args : Array Value} {below : List Frame} {meth : Method} {c : Code} {H : Heap} {locs : List Loc} {Q : State → Prop} {cc : ByteArray} {pc : Nat} {ls : Array Slot} {rest : List Value} {g : GP} {V : Mem} {nL : Nat} {ret : Option FieldType} (hB : BX p s m args meth c g LM cc nL RX7 ret) (hz : OK g LM V s H locs) {a0 : Nat} {a1 : Int32} {a2 : Int32} {a3 : Int32} {a4 : Int32} {V1 : Mem} (hM : CT l g LM yX7_putAt cX7_putAt 6 none rm_X7_putAt [.ref (ad g a0), .int a1, .int a2, .int a3, .int a4] V none V1) (hR : rm_X7_putAt.frames + 1 ≤ R.frames ∧ 8 + (6 + 11) + rm_X7_putAt.locals ≤ R.locals) (hsz : ls.size = nL) (hrest : (rest.map fun v => v.category).sum ≤ 8) (hdg : decode cc pc = .ok (.invokestatic 204, 3)) (kk : ∀ (H1 : Heap) (locs1 : List Loc), OK g LM V1 s H1 locs1 → W p l e R s m args below meth c H1 locs1 0 0 Q (F0 m (pc + 3) ls (rest))) : W p l e R s m args below meth c H locs 0 0 Q (F0 m pc ls (.int a4 :: .int a3 :: .int a2 :: .int a1 :: .ref (ad g a0) :: rest)) :=
  x_cs (As := [.ref (ad g a0), .int a1, .int a2, .int a3, .int a4]) (n := 5) hB hz hM rfl rfl kw_930 kw_68 kw_928 kw_929 (by decide +kernel) rfl hR hsz hrest hdg kk
set_option maxHeartbeats 4000000 in
set_option maxRecDepth 100000 in
theorem w_X7_moveTo {p : Program} {l : Launch} {e : Env} {s : State} {m : MethodId} {args : Array Value} {below : List Frame} {meth : Method} {c : Code} {g : GP} (hB : BX p s m args meth c g LM cX7_moveTo 6 RX7 none) {o : Mem} : ∀ (r0 : Nat) (x1 : Int32) (x2 : Int32) (V : Mem) (H : Heap) (locs : List Loc) (ls : Array Slot), KD LM r0 92 → f_X7_moveTo r0 x1 x2 V = some o → OK g LM V s H locs → lv_has ls 6 [(0, .ref (ad g r0)), (1, .int x1), (2, .int x2)] → W p l e rm_X7_moveTo s m args below meth c H locs 0 0 (MQ below (QQ g LM none o) args s 0 0 (Ar g LM)) (F0 m 0 ls []) := by
  obtain ⟨hx, hb, hml, hown, hT, hr, hlk, hK, hJ, hZ, hN⟩ := id hB
  intro r0 x1 x2 V H locs ls k_r0 hE hz hl
  unfold f_X7_moveTo at hE
  refine lv_aload_n hx hb dX7_moveTo_0 rfl (lv_at hl 0 rfl) ?_
  refine lv_iload_n hx hb dX7_moveTo_1 rfl (lv_at hl 1 rfl) ?_
  refine lv_iconst (v := (0 : Int32)) hx hb dX7_moveTo_2 (by decide) ?_
  obtain ⟨q3, hq3, hE⟩ := x_bind hE
  refine i_X7_165 hB hz (c_X7_of l g k_r0 hq3) ⟨(Nat.le_of_ble_eq_true rfl), (Nat.le_of_ble_eq_true rfl)⟩ hl.1 (Nat.le_of_ble_eq_true rfl) dX7_moveTo_3 (fun H locs hz => ?_)
  refine lv_istore_n (lv' := [(3, .int q3.1), (0, .ref (ad g r0)), (1, .int x1), (2, .int x2)]) hx hb dX7_moveTo_6 rfl hl (by decide) rfl (fun ls hl => ?_)
  refine lv_aload_n hx hb dX7_moveTo_7 rfl (lv_at hl 1 rfl) ?_
  refine lv_iload_n hx hb dX7_moveTo_8 rfl (lv_at hl 2 rfl) ?_
  refine lv_iconst (v := (1 : Int32)) hx hb dX7_moveTo_9 (by decide) ?_
  obtain ⟨q10, hq10, hE⟩ := x_bind hE
  refine i_X7_165 hB hz (c_X7_of l g k_r0 hq10) ⟨(Nat.le_of_ble_eq_true rfl), (Nat.le_of_ble_eq_true rfl)⟩ hl.1 (Nat.le_of_ble_eq_true rfl) dX7_moveTo_10 (fun H locs hz => ?_)
  refine lv_istore (lv' := [(4, .int q10.1), (3, .int q3.1), (0, .ref (ad g r0)), (1, .int x1), (2, .int x2)]) hx hb dX7_moveTo_13 hl (by decide) rfl (fun ls hl => ?_)
  refine lv_aload_n hx hb dX7_moveTo_15 rfl (lv_at hl 2 rfl) ?_
  refine lv_iload_n hx hb dX7_moveTo_16 rfl (lv_at hl 3 rfl) ?_
  refine lv_iconst (v := (2 : Int32)) hx hb dX7_moveTo_17 (by decide) ?_
  obtain ⟨q18, hq18, hE⟩ := x_bind hE
  refine i_X7_165 hB hz (c_X7_of l g k_r0 hq18) ⟨(Nat.le_of_ble_eq_true rfl), (Nat.le_of_ble_eq_true rfl)⟩ hl.1 (Nat.le_of_ble_eq_true rfl) dX7_moveTo_18 (fun H locs hz => ?_)
  refine lv_istore (lv' := [(5, .int q18.1), (4, .int q10.1), (3, .int q3.1), (0, .ref (ad g r0)), (1, .int x1), (2, .int x2)]) hx hb dX7_moveTo_21 hl (by decide) rfl (fun ls hl => ?_)
  refine lv_aload_n hx hb dX7_moveTo_23 rfl (lv_at hl 3 rfl) ?_
  refine lv_iload_n hx hb dX7_moveTo_24 rfl (lv_at hl 4 rfl) ?_
  obtain ⟨q25, hq25, hE⟩ := x_bind hE
  refine i_X7_201 hB hz (c_X7_takeOut l g k_r0 hq25) ⟨(Nat.le_of_ble_eq_true rfl), (Nat.le_of_ble_eq_true rfl)⟩ hl.1 (Nat.le_of_ble_eq_true rfl) dX7_moveTo_25 (fun H locs hz => ?_)
  refine lv_aload_n hx hb dX7_moveTo_28 rfl (lv_at hl 3 rfl) ?_
  refine lv_iload_n hx hb dX7_moveTo_29 rfl (lv_at hl 5 rfl) ?_
  refine lv_iload_n hx hb dX7_moveTo_30 rfl (lv_at hl 2 rfl) ?_
  refine lv_iload hx hb dX7_moveTo_31 (lv_at hl 1 rfl) ?_
  refine lv_iload hx hb dX7_moveTo_33 (lv_at hl 0 rfl) ?_
  obtain ⟨q35, hq35, hE⟩ := x_bind hE
  refine i_X7_204 hB hz (c_X7_putAt l g k_r0 hq35) ⟨(Nat.le_of_ble_eq_true rfl), (Nat.le_of_ble_eq_true rfl)⟩ hl.1 (Nat.le_of_ble_eq_true rfl) dX7_moveTo_35 (fun H locs hz => ?_)
  exact x_vret hB hz hE dX7_moveTo_38
theorem c_X7_moveTo (l : Launch) (g : GP) {r0 : Nat} (k_r0 : KD LM r0 92) {x1 : Int32} {x2 : Int32} {V : Mem} {o : Mem} (hE : f_X7_moveTo r0 x1 x2 V = some o) : CT l g LM yX7_moveTo cX7_moveTo 6 none rm_X7_moveTo [.ref (ad g r0), .int x1, .int x2] V none o := by
  refine ct_of (by decide) (Nat.le_of_ble_eq_true rfl) ?_
  intro p e s m args below meth c ls hB hz hl
  exact w_X7_moveTo hB _ _ _ _ _ _ _ k_r0 hE hz hl
def rm_X7_keep : Room := { frames := 0, cells := 0, slots := 0, locals := 0 }
set_option maxHeartbeats 4000000 in
set_option maxRecDepth 100000 in
theorem w_X7_keep_51 {p : Program} {l : Launch} {e : Env} {s : State} {m : MethodId} {args : Array Value} {below : List Frame} {meth : Method} {c : Code} {g : GP} (hB : BX p s m args meth c g LM cX7_keep 2 RX7 none) {o : Mem} : ∀ (n : Nat), ∀ (x1 : Int32) (V : Mem) (H : Heap) (locs : List Loc) (ls : Array Slot), f_X7_keep_51 n x1 V = some o → OK g LM V s H locs → lv_has ls 2 [(0, .ref (ad g 0)), (1, .int x1)] → W p l e rm_X7_keep s m args below meth c H locs 0 0 (MQ below (QQ g LM none o) args s 0 0 (Ar g LM)) (F0 m 51 ls []) := by
  obtain ⟨hx, hb, hml, hown, hT, hr, hlk, hK, hJ, hZ, hN⟩ := id hB
  intro n
  induction n with
  | zero =>
    intro x1 V H locs ls hE hz hl
    exact absurd (show (none : Option (Mem)) = some o from hE) (by simp)
  | succ n ih =>
    intro x1 V H locs ls hE hz hl
    unfold f_X7_keep_51 at hE
    refine lv_iload_n hx hb dX7_keep_51 rfl (lv_at hl 1 rfl) ?_
    refine lv_bipush (v := (76 : Int32)) hx hb dX7_keep_52 (by decide) ?_
    refine lv_icmp_ge (tgt := 83) hx hb dX7_keep_54 (by decide) (fun c54 => ?_) (fun c54 => ?_)
    · have hE := (if_pos c54).symm.trans hE
      refine lv_aload_n hx hb dX7_keep_83 rfl (lv_at hl 0 rfl) ?_
      refine lv_dup hx hb dX7_keep_84 rfl ?_
      refine g_X7_162 hB hz kdM_0 dX7_keep_85 ?_
      refine lv_iconst (v := (1 : Int32)) hx hb dX7_keep_88 (by decide) ?_
      refine lv_iadd hx hb dX7_keep_89 ?_
      refine p_X7_162 hB hz kdM_0 dX7_keep_90 (fun H locs hz => ?_)
      exact x_vret hB hz hE dX7_keep_93
    · have hE := (if_neg c54).symm.trans hE
      refine lv_aload_n hx hb dX7_keep_57 rfl (lv_at hl 0 rfl) ?_
      refine g_X7_28 hB hz kdM_0 dX7_keep_58 ?_
      refine lv_bipush (v := (76 : Int32)) hx hb dX7_keep_61 (by decide) ?_
      refine lv_aload_n hx hb dX7_keep_63 rfl (lv_at hl 0 rfl) ?_
      refine g_X7_162 hB hz kdM_0 dX7_keep_64 ?_
      refine lv_imul hx hb dX7_keep_67 ?_
      refine lv_iload_n hx hb dX7_keep_68 rfl (lv_at hl 1 rfl) ?_
      refine lv_iadd hx hb dX7_keep_69 ?_
      refine lv_aload_n hx hb dX7_keep_70 rfl (lv_at hl 0 rfl) ?_
      refine g_X7_19 hB hz kdM_0 dX7_keep_71 ?_
      refine lv_iload_n hx hb dX7_keep_74 rfl (lv_at hl 1 rfl) ?_
      obtain ⟨hi75, hE⟩ := x_chk hE
      refine x_iald (n := 76) hB hz kdM_4 hi75 dX7_keep_75 ?_
      obtain ⟨hi76, hE⟩ := x_chk hE
      refine x_iast (n := 1824) hB hz kdM_7 hi76 dX7_keep_76 (fun H locs hz => ?_)
      refine lv_iinc (v := (x1 + 1)) (lv' := [(1, .int (x1 + 1)), (0, .ref (ad g 0))]) hx hb dX7_keep_77 hl (k := 1) rfl rfl (by decide) rfl (fun ls hl => ?_)
      refine lv_goto (tgt := 51) hx hb dX7_keep_80 (by decide) ?_
      exact ih _ _ _ _ _  hE hz (lv_sub hl [1, 0] rfl)

set_option maxHeartbeats 4000000 in
set_option maxRecDepth 100000 in
theorem w_X7_keep_49 {p : Program} {l : Launch} {e : Env} {s : State} {m : MethodId} {args : Array Value} {below : List Frame} {meth : Method} {c : Code} {g : GP} (hB : BX p s m args meth c g LM cX7_keep 2 RX7 none) {o : Mem} : ∀ (V : Mem) (H : Heap) (locs : List Loc) (ls : Array Slot), f_X7_keep_49 V = some o → OK g LM V s H locs → lv_has ls 2 [(0, .ref (ad g 0))] → W p l e rm_X7_keep s m args below meth c H locs 0 0 (MQ below (QQ g LM none o) args s 0 0 (Ar g LM)) (F0 m 49 ls []) := by
  obtain ⟨hx, hb, hml, hown, hT, hr, hlk, hK, hJ, hZ, hN⟩ := id hB
  intro V H locs ls hE hz hl
  unfold f_X7_keep_49 at hE
  refine lv_iconst (v := (0 : Int32)) hx hb dX7_keep_49 (by decide) ?_
  refine lv_istore_n (lv' := [(1, .int (0 : Int32)), (0, .ref (ad g 0))]) hx hb dX7_keep_50 rfl hl (by decide) rfl (fun ls hl => ?_)
  exact w_X7_keep_51 hB  _ _ _ _ _ _  hE hz (lv_sub hl [1, 0] rfl)

set_option maxHeartbeats 4000000 in
set_option maxRecDepth 100000 in
theorem w_X7_keep_11 {p : Program} {l : Launch} {e : Env} {s : State} {m : MethodId} {args : Array Value} {below : List Frame} {meth : Method} {c : Code} {g : GP} (hB : BX p s m args meth c g LM cX7_keep 2 RX7 none) {o : Mem} : ∀ (n : Nat), ∀ (x1 : Int32) (V : Mem) (H : Heap) (locs : List Loc) (ls : Array Slot), f_X7_keep_11 n x1 V = some o → OK g LM V s H locs → lv_has ls 2 [(0, .ref (ad g 0)), (1, .int x1)] → W p l e rm_X7_keep s m args below meth c H locs 0 0 (MQ below (QQ g LM none o) args s 0 0 (Ar g LM)) (F0 m 11 ls []) := by
  obtain ⟨hx, hb, hml, hown, hT, hr, hlk, hK, hJ, hZ, hN⟩ := id hB
  intro n
  induction n with
  | zero =>
    intro x1 V H locs ls hE hz hl
    exact absurd (show (none : Option (Mem)) = some o from hE) (by simp)
  | succ n ih =>
    intro x1 V H locs ls hE hz hl
    unfold f_X7_keep_11 at hE
    refine lv_iload_n hx hb dX7_keep_11 rfl (lv_at hl 1 rfl) ?_
    refine lv_sipush (v := (1748 : Int32)) hx hb dX7_keep_12 (by decide) ?_
    refine lv_icmp_ge (tgt := 39) hx hb dX7_keep_15 (by decide) (fun c15 => ?_) (fun c15 => ?_)
    · have hE := (if_pos c15).symm.trans hE
      refine lv_aload_n hx hb dX7_keep_39 rfl (lv_at hl 0 rfl) ?_
      refine lv_dup hx hb dX7_keep_40 rfl ?_
      refine g_X7_162 hB hz kdM_0 dX7_keep_41 ?_
      refine lv_iconst (v := (1 : Int32)) hx hb dX7_keep_44 (by decide) ?_
      refine lv_isub hx hb dX7_keep_45 ?_
      refine p_X7_162 hB hz kdM_0 dX7_keep_46 (fun H locs hz => ?_)
      exact w_X7_keep_49 hB   _ _ _ _  hE hz (lv_sub hl [0] rfl)
    · have hE := (if_neg c15).symm.trans hE
      refine lv_aload_n hx hb dX7_keep_18 rfl (lv_at hl 0 rfl) ?_
      refine g_X7_28 hB hz kdM_0 dX7_keep_19 ?_
      refine lv_iload_n hx hb dX7_keep_22 rfl (lv_at hl 1 rfl) ?_
      refine lv_aload_n hx hb dX7_keep_23 rfl (lv_at hl 0 rfl) ?_
      refine g_X7_28 hB hz kdM_0 dX7_keep_24 ?_
      refine lv_iload_n hx hb dX7_keep_27 rfl (lv_at hl 1 rfl) ?_
      refine lv_bipush (v := (76 : Int32)) hx hb dX7_keep_28 (by decide) ?_
      refine lv_iadd hx hb dX7_keep_30 ?_
      obtain ⟨hi31, hE⟩ := x_chk hE
      refine x_iald (n := 1824) hB hz kdM_7 hi31 dX7_keep_31 ?_
      obtain ⟨hi32, hE⟩ := x_chk hE
      refine x_iast (n := 1824) hB hz kdM_7 hi32 dX7_keep_32 (fun H locs hz => ?_)
      refine lv_iinc (v := (x1 + 1)) (lv' := [(1, .int (x1 + 1)), (0, .ref (ad g 0))]) hx hb dX7_keep_33 hl (k := 1) rfl rfl (by decide) rfl (fun ls hl => ?_)
      refine lv_goto (tgt := 11) hx hb dX7_keep_36 (by decide) ?_
      exact ih _ _ _ _ _  hE hz (lv_sub hl [1, 0] rfl)

set_option maxHeartbeats 4000000 in
set_option maxRecDepth 100000 in
theorem w_X7_keep {p : Program} {l : Launch} {e : Env} {s : State} {m : MethodId} {args : Array Value} {below : List Frame} {meth : Method} {c : Code} {g : GP} (hB : BX p s m args meth c g LM cX7_keep 2 RX7 none) {o : Mem} : ∀ (V : Mem) (H : Heap) (locs : List Loc) (ls : Array Slot), f_X7_keep V = some o → OK g LM V s H locs → lv_has ls 2 [(0, .ref (ad g 0))] → W p l e rm_X7_keep s m args below meth c H locs 0 0 (MQ below (QQ g LM none o) args s 0 0 (Ar g LM)) (F0 m 0 ls []) := by
  obtain ⟨hx, hb, hml, hown, hT, hr, hlk, hK, hJ, hZ, hN⟩ := id hB
  intro V H locs ls hE hz hl
  unfold f_X7_keep at hE
  refine lv_aload_n hx hb dX7_keep_0 rfl (lv_at hl 0 rfl) ?_
  refine g_X7_162 hB hz kdM_0 dX7_keep_1 ?_
  refine lv_bipush (v := (24 : Int32)) hx hb dX7_keep_4 (by decide) ?_
  refine lv_icmp_ne (tgt := 49) hx hb dX7_keep_6 (by decide) (fun c6 => ?_) (fun c6 => ?_)
  · have hE := (if_neg c6).symm.trans hE
    exact w_X7_keep_49 hB   _ _ _ _  hE hz (lv_sub hl [0] rfl)
  · have hE := (if_pos c6).symm.trans hE
    refine lv_iconst (v := (0 : Int32)) hx hb dX7_keep_9 (by decide) ?_
    refine lv_istore_n (lv' := [(1, .int (0 : Int32)), (0, .ref (ad g 0))]) hx hb dX7_keep_10 rfl hl (by decide) rfl (fun ls hl => ?_)
    exact w_X7_keep_11 hB  _ _ _ _ _ _  hE hz (lv_sub hl [1, 0] rfl)
theorem c_X7_keep (l : Launch) (g : GP) {V : Mem} {o : Mem} (hE : f_X7_keep V = some o) : CT l g LM yX7_keep cX7_keep 2 none rm_X7_keep [.ref (ad g 0)] V none o := by
  refine ct_of (by decide) (Nat.le_of_ble_eq_true rfl) ?_
  intro p e s m args below meth c ls hB hz hl
  exact w_X7_keep hB  _ _ _ _  hE hz hl
def rm_X7_isSuch : Room := { frames := 1, cells := 0, slots := 0, locals := 25 }
set_option maxHeartbeats 4000000 in
set_option maxRecDepth 100000 in
theorem w_X7_isSuch {p : Program} {l : Launch} {e : Env} {s : State} {m : MethodId} {args : Array Value} {below : List Frame} {meth : Method} {c : Code} {g : GP} (hB : BX p s m args meth c g LM cX7_isSuch 3 RX7 (some .boolean)) {o : Int32 × Mem} : ∀ (x0 : Int32) (x1 : Int32) (x2 : Int32) (V : Mem) (H : Heap) (locs : List Loc) (ls : Array Slot), f_X7_isSuch x0 x1 x2 V = some o → OK g LM V s H locs → lv_has ls 3 [(0, .int x0), (1, .int x1), (2, .int x2)] → W p l e rm_X7_isSuch s m args below meth c H locs 0 0 (MQ below (QQ g LM (some (.int o.1)) o.2) args s 0 0 (Ar g LM)) (F0 m 0 ls []) := by
  obtain ⟨hx, hb, hml, hown, hT, hr, hlk, hK, hJ, hZ, hN⟩ := id hB
  intro x0 x1 x2 V H locs ls hE hz hl
  unfold f_X7_isSuch at hE
  refine lv_iload_n hx hb dX7_isSuch_0 rfl (lv_at hl 0 rfl) ?_
  refine lv_i2l hx hb dX7_isSuch_1 rfl ?_
  refine lv_lconst (v := (1 : Int64)) hx hb dX7_isSuch_2 (by decide) ?_
  refine lv_ldc2 (v := (5 : Int64)) hx hb hown (hT _ kw_922) dX7_isSuch_3 ?_
  obtain ⟨q6, hq6, hE⟩ := x_bind hE
  refine i_X7_69 hB hz (c_X7_in l g  hq6) ⟨(Nat.le_of_ble_eq_true rfl), (Nat.le_of_ble_eq_true rfl)⟩ hl.1 (Nat.le_of_ble_eq_true rfl) dX7_isSuch_6 (fun H locs hz => ?_)
  refine lv_if_eq (tgt := 40) hx hb dX7_isSuch_9 (by decide) (fun c9 => ?_) (fun c9 => ?_)
  · have hE := (if_pos c9).symm.trans hE
    refine lv_iconst (v := (0 : Int32)) hx hb dX7_isSuch_40 (by decide) ?_
    exact x_zret hB hz hE (by decide) dX7_isSuch_41
  · have hE := (if_neg c9).symm.trans hE
    refine lv_iload_n hx hb dX7_isSuch_12 rfl (lv_at hl 1 rfl) ?_
    refine lv_i2l hx hb dX7_isSuch_13 rfl ?_
    refine lv_lconst (v := (0 : Int64)) hx hb dX7_isSuch_14 (by decide) ?_
    refine lv_ldc2 (v := (2 : Int64)) hx hb hown (hT _ kw_825) dX7_isSuch_15 ?_
    obtain ⟨q18, hq18, hE⟩ := x_bind hE
    refine i_X7_69 hB hz (c_X7_in l g  hq18) ⟨(Nat.le_of_ble_eq_true rfl), (Nat.le_of_ble_eq_true rfl)⟩ hl.1 (Nat.le_of_ble_eq_true rfl) dX7_isSuch_18 (fun H locs hz => ?_)
    refine lv_if_eq (tgt := 40) hx hb dX7_isSuch_21 (by decide) (fun c21 => ?_) (fun c21 => ?_)
    · have hE := (if_pos c21).symm.trans hE
      refine lv_iconst (v := (0 : Int32)) hx hb dX7_isSuch_40 (by decide) ?_
      exact x_zret hB hz hE (by decide) dX7_isSuch_41
    · have hE := (if_neg c21).symm.trans hE
      refine lv_iload_n hx hb dX7_isSuch_24 rfl (lv_at hl 2 rfl) ?_
      refine lv_i2l hx hb dX7_isSuch_25 rfl ?_
      refine lv_lconst (v := (0 : Int64)) hx hb dX7_isSuch_26 (by decide) ?_
      refine lv_ldc2 (v := (20 : Int64)) hx hb hown (hT _ kw_923) dX7_isSuch_27 ?_
      obtain ⟨q30, hq30, hE⟩ := x_bind hE
      refine i_X7_69 hB hz (c_X7_in l g  hq30) ⟨(Nat.le_of_ble_eq_true rfl), (Nat.le_of_ble_eq_true rfl)⟩ hl.1 (Nat.le_of_ble_eq_true rfl) dX7_isSuch_30 (fun H locs hz => ?_)
      refine lv_if_eq (tgt := 40) hx hb dX7_isSuch_33 (by decide) (fun c33 => ?_) (fun c33 => ?_)
      · have hE := (if_pos c33).symm.trans hE
        refine lv_iconst (v := (0 : Int32)) hx hb dX7_isSuch_40 (by decide) ?_
        exact x_zret hB hz hE (by decide) dX7_isSuch_41
      · have hE := (if_neg c33).symm.trans hE
        refine lv_iconst (v := (1 : Int32)) hx hb dX7_isSuch_36 (by decide) ?_
        refine lv_goto (tgt := 41) hx hb dX7_isSuch_37 (by decide) ?_
        exact x_zret hB hz hE (by decide) dX7_isSuch_41
theorem c_X7_isSuch (l : Launch) (g : GP) {x0 : Int32} {x1 : Int32} {x2 : Int32} {V : Mem} {o : Int32 × Mem} (hE : f_X7_isSuch x0 x1 x2 V = some o) : CT l g LM yX7_isSuch cX7_isSuch 3 (some .boolean) rm_X7_isSuch [.int x0, .int x1, .int x2] V (some (.int o.1)) o.2 := by
  refine ct_of (by decide) (Nat.le_of_ble_eq_true rfl) ?_
  intro p e s m args below meth c ls hB hz hl
  exact w_X7_isSuch hB _ _ _ _ _ _ _  hE hz hl
def rm_X7_put : Room := { frames := 2, cells := 0, slots := 0, locals := 49 }
theorem i_X7_211 {p : Program} {l : Launch} {e : Env} {R : Room} {s : State} {m : MethodId} {args : Array Value} {below : List Frame} {meth : Method} {c : Code} {H : Heap} {locs : List Loc} {Q : State → Prop} {cc : ByteArray} {pc : Nat} {ls : Array Slot} {rest : List Value} {g : GP} {V : Mem} {nL : Nat} {ret : Option FieldType} (hB : BX p s m args meth c g LM cc nL RX7 ret) (hz : OK g LM V s H locs) {i : Nat} (hk : KD LM i 6) {r : Int32} {V1 : Mem} (hM : CT l g LM yX7_isThere cX7_isThere 1 (some .boolean) rm_X7_isThere [.ref (ad g i)] V (some (.int r)) V1) (hR : rm_X7_isThere.frames + 1 ≤ R.frames ∧ 8 + (1 + 11) + rm_X7_isThere.locals ≤ R.locals) (hsz : ls.size = nL) (hrest : (rest.map fun v => v.category).sum ≤ 8) (hdg : decode cc pc = .ok (.invokevirtual 211, 3)) (kk : ∀ (H1 : Heap) (locs1 : List Loc), OK g LM V1 s H1 locs1 → W p l e R s m args below meth c H1 locs1 0 0 Q (F0 m (pc + 3) ls (.int r :: rest))) : W p l e R s m args below meth c H locs 0 0 Q (F0 m pc ls (.ref (ad g i) :: rest)) :=
  x_cv (As := []) (n := 0) (T := TX7) (N := 30) hB hz hM hk rfl rfl rfl rfl kw_917 kw_68 kw_914 kw_916 kw_34 (by decide +kernel) rfl hR hsz hrest hdg kk
theorem i_X7_215 {p : Program} {l : Launch} {e : Env} {R : Room} {s : State} {m : MethodId} {args : Array Value} {below : List Frame} {meth : Method} {c : Code} {H : Heap} {locs : List Loc} {Q : State → Prop} {cc : ByteArray} {pc : Nat} {ls : Array Slot} {rest : List Value} {g : GP} {V : Mem} {nL : Nat} {ret : Option FieldType} (hB : BX p s m args meth c g LM cc nL RX7 ret) (hz : OK g LM V s H locs) {a0 : Int32} {a1 : Int32} {a2 : Int32} {r : Int32} {V1 : Mem} (hM : CT l g LM yX7_isSuch cX7_isSuch 3 (some .boolean) rm_X7_isSuch [.int a0, .int a1, .int a2] V (some (.int r)) V1) (hR : rm_X7_isSuch.frames + 1 ≤ R.frames ∧ 8 + (3 + 11) + rm_X7_isSuch.locals ≤ R.locals) (hsz : ls.size = nL) (hrest : (rest.map fun v => v.category).sum ≤ 8) (hdg : decode cc pc = .ok (.invokestatic 215, 3)) (kk : ∀ (H1 : Heap) (locs1 : List Loc), OK g LM V1 s H1 locs1 → W p l e R s m args below meth c H1 locs1 0 0 Q (F0 m (pc + 3) ls (.int r :: rest))) : W p l e R s m args below meth c H locs 0 0 Q (F0 m pc ls (.int a2 :: .int a1 :: .int a0 :: rest)) :=
  x_cs (As := [.int a0, .int a1, .int a2]) (n := 3) hB hz hM rfl rfl kw_921 kw_68 kw_919 kw_920 (by decide +kernel) rfl hR hsz hrest hdg kk
theorem i_X7_219 {p : Program} {l : Launch} {e : Env} {R : Room} {s : State} {m : MethodId} {args : Array Value} {below : List Frame} {meth : Method} {c : Code} {H : Heap} {locs : List Loc} {Q : State → Prop} {cc : ByteArray} {pc : Nat} {ls : Array Slot} {rest : List Value} {g : GP} {V : Mem} {nL : Nat} {ret : Option FieldType} (hB : BX p s m args meth c g LM cc nL RX7 ret) (hz : OK g LM V s H locs) {i : Nat} (hk : KD LM i 6) {V1 : Mem} (hM : CT l g LM yX7_keep cX7_keep 2 none rm_X7_keep [.ref (ad g i)] V none V1) (hR : rm_X7_keep.frames + 1 ≤ R.frames ∧ 8 + (2 + 11) + rm_X7_keep.locals ≤ R.locals) (hsz : ls.size = nL) (hrest : (rest.map fun v => v.category).sum ≤ 8) (hdg : decode cc pc = .ok (.invokevirtual 219, 3)) (kk : ∀ (H1 : Heap) (locs1 : List Loc), OK g LM V1 s H1 locs1 → W p l e R s m args below meth c H1 locs1 0 0 Q (F0 m (pc + 3) ls (rest))) : W p l e R s m args below meth c H locs 0 0 Q (F0 m pc ls (.ref (ad g i) :: rest)) :=
  x_cv (As := []) (n := 0) (T := TX7) (N := 30) hB hz hM hk rfl rfl rfl rfl kw_927 kw_68 kw_924 kw_926 kw_35 (by decide +kernel) rfl hR hsz hrest hdg kk
set_option maxHeartbeats 4000000 in
set_option maxRecDepth 100000 in
theorem w_X7_put {p : Program} {l : Launch} {e : Env} {s : State} {m : MethodId} {args : Array Value} {below : List Frame} {meth : Method} {c : Code} {g : GP} (hB : BX p s m args meth c g LM cX7_put 5 RX7 (some .int)) {o : Int32 × Mem} : ∀ (x1 : Int32) (x2 : Int32) (x3 : Int32) (x4 : Int32) (V : Mem) (H : Heap) (locs : List Loc) (ls : Array Slot), f_X7_put x1 x2 x3 x4 V = some o → OK g LM V s H locs → lv_has ls 5 [(0, .ref (ad g 0)), (1, .int x1), (2, .int x2), (3, .int x3), (4, .int x4)] → W p l e rm_X7_put s m args below meth c H locs 0 0 (MQ below (QQ g LM (some (.int o.1)) o.2) args s 0 0 (Ar g LM)) (F0 m 0 ls []) := by
  obtain ⟨hx, hb, hml, hown, hT, hr, hlk, hK, hJ, hZ, hN⟩ := id hB
  intro x1 x2 x3 x4 V H locs ls hE hz hl
  unfold f_X7_put at hE
  refine lv_aload_n hx hb dX7_put_0 rfl (lv_at hl 0 rfl) ?_
  refine lv_iconst (v := (0 : Int32)) hx hb dX7_put_1 (by decide) ?_
  refine p_X7_59 hB hz kdM_0 dX7_put_2 (fun H locs hz => ?_)
  refine lv_aload_n hx hb dX7_put_5 rfl (lv_at hl 0 rfl) ?_
  obtain ⟨q6, hq6, hE⟩ := x_bind hE
  refine i_X7_211 hB hz kdM_0 (c_X7_isThere l g  hq6) ⟨(Nat.le_of_ble_eq_true rfl), (Nat.le_of_ble_eq_true rfl)⟩ hl.1 (Nat.le_of_ble_eq_true rfl) dX7_put_6 (fun H locs hz => ?_)
  refine lv_if_ne (tgt := 15) hx hb dX7_put_9 (by decide) (fun c9 => ?_) (fun c9 => ?_)
  · have hE := (if_neg c9).symm.trans hE
    refine lv_iload_n hx hb dX7_put_15 rfl (lv_at hl 1 rfl) ?_
    refine lv_i2l hx hb dX7_put_16 rfl ?_
    refine lv_lconst (v := (0 : Int64)) hx hb dX7_put_17 (by decide) ?_
    refine lv_aload_n hx hb dX7_put_18 rfl (lv_at hl 0 rfl) ?_
    refine g_X7_19 hB hz kdM_0 dX7_put_19 ?_
    refine lv_iconst (v := (0 : Int32)) hx hb dX7_put_22 (by decide) ?_
    obtain ⟨hi23, hE⟩ := x_chk hE
    refine x_iald (n := 76) hB hz kdM_4 hi23 dX7_put_23 ?_
    refine lv_i2l hx hb dX7_put_24 rfl ?_
    obtain ⟨q25, hq25, hE⟩ := x_bind hE
    refine i_X7_69 hB hz (c_X7_in l g  hq25) ⟨(Nat.le_of_ble_eq_true rfl), (Nat.le_of_ble_eq_true rfl)⟩ hl.1 (Nat.le_of_ble_eq_true rfl) dX7_put_25 (fun H locs hz => ?_)
    refine lv_if_eq (tgt := 41) hx hb dX7_put_28 (by decide) (fun c28 => ?_) (fun c28 => ?_)
    · have hE := (if_pos c28).symm.trans hE
      refine lv_ldc (v := (-1000001 : Int32)) hx hb hown (hT _ kw_826) dX7_put_41 ?_
      exact x_iret hB hz hE dX7_put_43
    · have hE := (if_neg c28).symm.trans hE
      refine lv_iload_n hx hb dX7_put_31 rfl (lv_at hl 2 rfl) ?_
      refine lv_iload_n hx hb dX7_put_32 rfl (lv_at hl 3 rfl) ?_
      refine lv_iload hx hb dX7_put_33 (lv_at hl 4 rfl) ?_
      obtain ⟨q35, hq35, hE⟩ := x_bind hE
      refine i_X7_215 hB hz (c_X7_isSuch l g  hq35) ⟨(Nat.le_of_ble_eq_true rfl), (Nat.le_of_ble_eq_true rfl)⟩ hl.1 (Nat.le_of_ble_eq_true rfl) dX7_put_35 (fun H locs hz => ?_)
      refine lv_if_ne (tgt := 44) hx hb dX7_put_38 (by decide) (fun c38 => ?_) (fun c38 => ?_)
      · have hE := (if_neg c38).symm.trans hE
        refine lv_aload_n hx hb dX7_put_44 rfl (lv_at hl 0 rfl) ?_
        refine g_X7_19 hB hz kdM_0 dX7_put_45 ?_
        refine lv_iconst (v := (0 : Int32)) hx hb dX7_put_48 (by decide) ?_
        obtain ⟨hi49, hE⟩ := x_chk hE
        refine x_iald (n := 76) hB hz kdM_4 hi49 dX7_put_49 ?_
        refine lv_bipush (v := (24 : Int32)) hx hb dX7_put_50 (by decide) ?_
        refine lv_icmp_ne (tgt := 58) hx hb dX7_put_52 (by decide) (fun c52 => ?_) (fun c52 => ?_)
        · have hE := (if_neg c52).symm.trans hE
          refine lv_aload_n hx hb dX7_put_58 rfl (lv_at hl 0 rfl) ?_
          obtain ⟨q59, hq59, hE⟩ := x_bind hE
          refine i_X7_219 hB hz kdM_0 (c_X7_keep l g  hq59) ⟨(Nat.le_of_ble_eq_true rfl), (Nat.le_of_ble_eq_true rfl)⟩ hl.1 (Nat.le_of_ble_eq_true rfl) dX7_put_59 (fun H locs hz => ?_)
          refine lv_aload_n hx hb dX7_put_62 rfl (lv_at hl 0 rfl) ?_
          refine g_X7_19 hB hz kdM_0 dX7_put_63 ?_
          refine lv_iload_n hx hb dX7_put_66 rfl (lv_at hl 1 rfl) ?_
          refine lv_iload_n hx hb dX7_put_67 rfl (lv_at hl 2 rfl) ?_
          refine lv_iload_n hx hb dX7_put_68 rfl (lv_at hl 3 rfl) ?_
          refine lv_iload hx hb dX7_put_69 (lv_at hl 4 rfl) ?_
          obtain ⟨q71, hq71, hE⟩ := x_bind hE
          refine i_X7_204 hB hz (c_X7_putAt l g kdM_4 hq71) ⟨(Nat.le_of_ble_eq_true rfl), (Nat.le_of_ble_eq_true rfl)⟩ hl.1 (Nat.le_of_ble_eq_true rfl) dX7_put_71 (fun H locs hz => ?_)
          refine lv_aload_n hx hb dX7_put_74 rfl (lv_at hl 0 rfl) ?_
          refine g_X7_19 hB hz kdM_0 dX7_put_75 ?_
          refine lv_iconst (v := (0 : Int32)) hx hb dX7_put_78 (by decide) ?_
          obtain ⟨hi79, hE⟩ := x_chk hE
          refine x_iald (n := 76) hB hz kdM_4 hi79 dX7_put_79 ?_
          exact x_iret hB hz hE dX7_put_80
        · have hE := (if_pos c52).symm.trans hE
          refine lv_ldc (v := (-1000003 : Int32)) hx hb hown (hT _ kw_849) dX7_put_55 ?_
          exact x_iret hB hz hE dX7_put_57
      · have hE := (if_pos c38).symm.trans hE
        refine lv_ldc (v := (-1000001 : Int32)) hx hb hown (hT _ kw_826) dX7_put_41 ?_
        exact x_iret hB hz hE dX7_put_43
  · have hE := (if_pos c9).symm.trans hE
    refine lv_ldc (v := (-1000002 : Int32)) hx hb hown (hT _ kw_918) dX7_put_12 ?_
    exact x_iret hB hz hE dX7_put_14
theorem c_X7_put (l : Launch) (g : GP) {x1 : Int32} {x2 : Int32} {x3 : Int32} {x4 : Int32} {V : Mem} {o : Int32 × Mem} (hE : f_X7_put x1 x2 x3 x4 V = some o) : CT l g LM yX7_put cX7_put 5 (some .int) rm_X7_put [.ref (ad g 0), .int x1, .int x2, .int x3, .int x4] V (some (.int o.1)) o.2 := by
  refine ct_of (by decide) (Nat.le_of_ble_eq_true rfl) ?_
  intro p e s m args below meth c ls hB hz hl
  exact w_X7_put hB _ _ _ _ _ _ _ _  hE hz hl

def rm_X7_kind : Room := { frames := 2, cells := 0, slots := 0, locals := 46 }
set_option maxHeartbeats 4000000 in
set_option maxRecDepth 100000 in
theorem w_X7_kind {p : Program} {l : Launch} {e : Env} {s : State} {m : MethodId} {args : Array Value} {below : List Frame} {meth : Method} {c : Code} {g : GP} (hB : BX p s m args meth c g LM cX7_kind 2 RX7 (some .int)) {o : Int32 × Mem} : ∀ (x1 : Int32) (V : Mem) (H : Heap) (locs : List Loc) (ls : Array Slot), f_X7_kind x1 V = some o → OK g LM V s H locs → lv_has ls 2 [(0, .ref (ad g 0)), (1, .int x1)] → W p l e rm_X7_kind s m args below meth c H locs 0 0 (MQ below (QQ g LM (some (.int o.1)) o.2) args s 0 0 (Ar g LM)) (F0 m 0 ls []) := by
  obtain ⟨hx, hb, hml, hown, hT, hr, hlk, hK, hJ, hZ, hN⟩ := id hB
  intro x1 V H locs ls hE hz hl
  unfold f_X7_kind at hE
  refine lv_aload_n hx hb dX7_kind_0 rfl (lv_at hl 0 rfl) ?_
  refine lv_iconst (v := (0 : Int32)) hx hb dX7_kind_1 (by decide) ?_
  refine p_X7_59 hB hz kdM_0 dX7_kind_2 (fun H locs hz => ?_)
  refine lv_aload_n hx hb dX7_kind_5 rfl (lv_at hl 0 rfl) ?_
  refine lv_iload_n hx hb dX7_kind_6 rfl (lv_at hl 1 rfl) ?_
  obtain ⟨q7, hq7, hE⟩ := x_bind hE
  refine i_X7_222 hB hz kdM_0 (c_X7_isParagraph l g  hq7) ⟨(Nat.le_of_ble_eq_true rfl), (Nat.le_of_ble_eq_true rfl)⟩ hl.1 (Nat.le_of_ble_eq_true rfl) dX7_kind_7 (fun H locs hz => ?_)
  refine lv_if_eq (tgt := 25) hx hb dX7_kind_10 (by decide) (fun c10 => ?_) (fun c10 => ?_)
  · have hE := (if_pos c10).symm.trans hE
    refine lv_ldc (v := (-1000001 : Int32)) hx hb hown (hT _ kw_826) dX7_kind_25 ?_
    exact x_iret hB hz hE dX7_kind_27
  · have hE := (if_neg c10).symm.trans hE
    refine lv_aload_n hx hb dX7_kind_13 rfl (lv_at hl 0 rfl) ?_
    refine g_X7_19 hB hz kdM_0 dX7_kind_14 ?_
    refine lv_iload_n hx hb dX7_kind_17 rfl (lv_at hl 1 rfl) ?_
    refine lv_iconst (v := (0 : Int32)) hx hb dX7_kind_18 (by decide) ?_
    obtain ⟨q19, hq19, hE⟩ := x_bind hE
    refine i_X7_165 hB hz (c_X7_of l g kdM_4 hq19) ⟨(Nat.le_of_ble_eq_true rfl), (Nat.le_of_ble_eq_true rfl)⟩ hl.1 (Nat.le_of_ble_eq_true rfl) dX7_kind_19 (fun H locs hz => ?_)
    refine lv_goto (tgt := 27) hx hb dX7_kind_22 (by decide) ?_
    exact x_iret hB hz hE dX7_kind_27
theorem c_X7_kind (l : Launch) (g : GP) {x1 : Int32} {V : Mem} {o : Int32 × Mem} (hE : f_X7_kind x1 V = some o) : CT l g LM yX7_kind cX7_kind 2 (some .int) rm_X7_kind [.ref (ad g 0), .int x1] V (some (.int o.1)) o.2 := by
  refine ct_of (by decide) (Nat.le_of_ble_eq_true rfl) ?_
  intro p e s m args below meth c ls hB hz hl
  exact w_X7_kind hB _ _ _ _ _  hE hz hl
def rm_X7_as : Room := { frames := 2, cells := 0, slots := 0, locals := 46 }
theorem i_X7_313 {p : Program} {l : Launch} {e : Env} {R : Room} {s : State} {m : MethodId} {args : Array Value} {below : List Frame} {meth : Method} {c : Code} {H : Heap} {locs : List Loc} {Q : State → Prop} {cc : ByteArray} {pc : Nat} {ls : Array Slot} {rest : List Value} {g : GP} {V : Mem} {nL : Nat} {ret : Option FieldType} (hB : BX p s m args meth c g LM cc nL RX7 ret) (hz : OK g LM V s H locs) {a0 : Int32} {a1 : Int32} {r : Int32} {V1 : Mem} (hM : CT l g LM yX7_isOf cX7_isOf 2 (some .boolean) rm_X7_isOf [.int a0, .int a1] V (some (.int r)) V1) (hR : rm_X7_isOf.frames + 1 ≤ R.frames ∧ 8 + (2 + 11) + rm_X7_isOf.locals ≤ R.locals) (hsz : ls.size = nL) (hrest : (rest.map fun v => v.category).sum ≤ 8) (hdg : decode cc pc = .ok (.invokestatic 313, 3)) (kk : ∀ (H1 : Heap) (locs1 : List Loc), OK g LM V1 s H1 locs1 → W p l e R s m args below meth c H1 locs1 0 0 Q (F0 m (pc + 3) ls (.int r :: rest))) : W p l e R s m args below meth c H locs 0 0 Q (F0 m pc ls (.int a1 :: .int a0 :: rest)) :=
  x_cs (As := [.int a0, .int a1]) (n := 2) hB hz hM rfl rfl kw_1137 kw_68 kw_1135 kw_1136 (by decide +kernel) rfl hR hsz hrest hdg kk
set_option maxHeartbeats 4000000 in
set_option maxRecDepth 100000 in
theorem w_X7_as {p : Program} {l : Launch} {e : Env} {s : State} {m : MethodId} {args : Array Value} {below : List Frame} {meth : Method} {c : Code} {g : GP} (hB : BX p s m args meth c g LM cX7_as 3 RX7 (some .int)) {o : Int32 × Mem} : ∀ (x1 : Int32) (x2 : Int32) (V : Mem) (H : Heap) (locs : List Loc) (ls : Array Slot), f_X7_as x1 x2 V = some o → OK g LM V s H locs → lv_has ls 3 [(0, .ref (ad g 0)), (1, .int x1), (2, .int x2)] → W p l e rm_X7_as s m args below meth c H locs 0 0 (MQ below (QQ g LM (some (.int o.1)) o.2) args s 0 0 (Ar g LM)) (F0 m 0 ls []) := by
  obtain ⟨hx, hb, hml, hown, hT, hr, hlk, hK, hJ, hZ, hN⟩ := id hB
  intro x1 x2 V H locs ls hE hz hl
  unfold f_X7_as at hE
  refine lv_aload_n hx hb dX7_as_0 rfl (lv_at hl 0 rfl) ?_
  refine lv_iconst (v := (0 : Int32)) hx hb dX7_as_1 (by decide) ?_
  refine p_X7_59 hB hz kdM_0 dX7_as_2 (fun H locs hz => ?_)
  refine lv_aload_n hx hb dX7_as_5 rfl (lv_at hl 0 rfl) ?_
  refine lv_iload_n hx hb dX7_as_6 rfl (lv_at hl 1 rfl) ?_
  obtain ⟨q7, hq7, hE⟩ := x_bind hE
  refine i_X7_222 hB hz kdM_0 (c_X7_isParagraph l g  hq7) ⟨(Nat.le_of_ble_eq_true rfl), (Nat.le_of_ble_eq_true rfl)⟩ hl.1 (Nat.le_of_ble_eq_true rfl) dX7_as_7 (fun H locs hz => ?_)
  refine lv_if_eq (tgt := 25) hx hb dX7_as_10 (by decide) (fun c10 => ?_) (fun c10 => ?_)
  · have hE := (if_pos c10).symm.trans hE
    refine lv_ldc (v := (-1000001 : Int32)) hx hb hown (hT _ kw_826) dX7_as_25 ?_
    exact x_iret hB hz hE dX7_as_27
  · have hE := (if_neg c10).symm.trans hE
    refine lv_iload_n hx hb dX7_as_13 rfl (lv_at hl 2 rfl) ?_
    refine lv_i2l hx hb dX7_as_14 rfl ?_
    refine lv_lconst (v := (0 : Int64)) hx hb dX7_as_15 (by decide) ?_
    refine lv_ldc2 (v := (5 : Int64)) hx hb hown (hT _ kw_922) dX7_as_16 ?_
    obtain ⟨q19, hq19, hE⟩ := x_bind hE
    refine i_X7_69 hB hz (c_X7_in l g  hq19) ⟨(Nat.le_of_ble_eq_true rfl), (Nat.le_of_ble_eq_true rfl)⟩ hl.1 (Nat.le_of_ble_eq_true rfl) dX7_as_19 (fun H locs hz => ?_)
    refine lv_if_ne (tgt := 28) hx hb dX7_as_22 (by decide) (fun c22 => ?_) (fun c22 => ?_)
    · have hE := (if_neg c22).symm.trans hE
      refine lv_aload_n hx hb dX7_as_28 rfl (lv_at hl 0 rfl) ?_
      refine lv_iconst (v := (0 : Int32)) hx hb dX7_as_29 (by decide) ?_
      refine p_X7_63 hB hz kdM_0 dX7_as_30 (fun H locs hz => ?_)
      refine lv_aload_n hx hb dX7_as_33 rfl (lv_at hl 0 rfl) ?_
      refine g_X7_19 hB hz kdM_0 dX7_as_34 ?_
      refine lv_iload_n hx hb dX7_as_37 rfl (lv_at hl 1 rfl) ?_
      refine lv_iconst (v := (0 : Int32)) hx hb dX7_as_38 (by decide) ?_
      obtain ⟨q39, hq39, hE⟩ := x_bind hE
      refine i_X7_165 hB hz (c_X7_of l g kdM_4 hq39) ⟨(Nat.le_of_ble_eq_true rfl), (Nat.le_of_ble_eq_true rfl)⟩ hl.1 (Nat.le_of_ble_eq_true rfl) dX7_as_39 (fun H locs hz => ?_)
      refine lv_iload_n hx hb dX7_as_42 rfl (lv_at hl 2 rfl) ?_
      obtain ⟨q43, hq43, hE⟩ := x_bind hE
      refine i_X7_313 hB hz (c_X7_isOf l g  hq43) ⟨(Nat.le_of_ble_eq_true rfl), (Nat.le_of_ble_eq_true rfl)⟩ hl.1 (Nat.le_of_ble_eq_true rfl) dX7_as_43 (fun H locs hz => ?_)
      refine lv_if_eq (tgt := 53) hx hb dX7_as_46 (by decide) (fun c46 => ?_) (fun c46 => ?_)
      · have hE := (if_pos c46).symm.trans hE
        refine lv_aload_n hx hb dX7_as_53 rfl (lv_at hl 0 rfl) ?_
        refine lv_iconst (v := (3 : Int32)) hx hb dX7_as_54 (by decide) ?_
        obtain ⟨q55, hq55, hE⟩ := x_bind hE
        refine i_X7_80 hB hz kdM_0 (c_X7_finding l g  hq55) ⟨(Nat.le_of_ble_eq_true rfl), (Nat.le_of_ble_eq_true rfl)⟩ hl.1 (Nat.le_of_ble_eq_true rfl) dX7_as_55 (fun H locs hz => ?_)
        exact x_iret hB hz hE dX7_as_58
      · have hE := (if_neg c46).symm.trans hE
        refine lv_iload_n hx hb dX7_as_49 rfl (lv_at hl 1 rfl) ?_
        refine lv_goto (tgt := 58) hx hb dX7_as_50 (by decide) ?_
        exact x_iret hB hz hE dX7_as_58
    · have hE := (if_pos c22).symm.trans hE
      refine lv_ldc (v := (-1000001 : Int32)) hx hb hown (hT _ kw_826) dX7_as_25 ?_
      exact x_iret hB hz hE dX7_as_27
theorem c_X7_as (l : Launch) (g : GP) {x1 : Int32} {x2 : Int32} {V : Mem} {o : Int32 × Mem} (hE : f_X7_as x1 x2 V = some o) : CT l g LM yX7_as cX7_as 3 (some .int) rm_X7_as [.ref (ad g 0), .int x1, .int x2] V (some (.int o.1)) o.2 := by
  refine ct_of (by decide) (Nat.le_of_ble_eq_true rfl) ?_
  intro p e s m args below meth c ls hB hz hl
  exact w_X7_as hB _ _ _ _ _ _  hE hz hl
def rm_X7_began : Room := { frames := 0, cells := 0, slots := 0, locals := 0 }
set_option maxHeartbeats 4000000 in
set_option maxRecDepth 100000 in
theorem w_X7_began {p : Program} {l : Launch} {e : Env} {s : State} {m : MethodId} {args : Array Value} {below : List Frame} {meth : Method} {c : Code} {g : GP} (hB : BX p s m args meth c g LM cX7_began 2 RX7 none) {o : Mem} : ∀ (x1 : Int32) (V : Mem) (H : Heap) (locs : List Loc) (ls : Array Slot), f_X7_began x1 V = some o → OK g LM V s H locs → lv_has ls 2 [(0, .ref (ad g 0)), (1, .int x1)] → W p l e rm_X7_began s m args below meth c H locs 0 0 (MQ below (QQ g LM none o) args s 0 0 (Ar g LM)) (F0 m 0 ls []) := by
  obtain ⟨hx, hb, hml, hown, hT, hr, hlk, hK, hJ, hZ, hN⟩ := id hB
  intro x1 V H locs ls hE hz hl
  unfold f_X7_began at hE
  refine lv_aload_n hx hb dX7_began_0 rfl (lv_at hl 0 rfl) ?_
  refine g_X7_316 hB hz kdM_0 dX7_began_1 ?_
  refine lv_bipush (v := (16 : Int32)) hx hb dX7_began_4 (by decide) ?_
  refine lv_icmp_ge (tgt := 29) hx hb dX7_began_6 (by decide) (fun c6 => ?_) (fun c6 => ?_)
  · have hE := (if_pos c6).symm.trans hE
    exact x_vret hB hz hE dX7_began_29
  · have hE := (if_neg c6).symm.trans hE
    refine lv_aload_n hx hb dX7_began_9 rfl (lv_at hl 0 rfl) ?_
    refine g_X7_56 hB hz kdM_0 dX7_began_10 ?_
    refine lv_aload_n hx hb dX7_began_13 rfl (lv_at hl 0 rfl) ?_
    refine g_X7_316 hB hz kdM_0 dX7_began_14 ?_
    refine lv_iload_n hx hb dX7_began_17 rfl (lv_at hl 1 rfl) ?_
    obtain ⟨hi18, hE⟩ := x_chk hE
    refine x_iast (n := 16) hB hz kdM_16 hi18 dX7_began_18 (fun H locs hz => ?_)
    refine lv_aload_n hx hb dX7_began_19 rfl (lv_at hl 0 rfl) ?_
    refine lv_dup hx hb dX7_began_20 rfl ?_
    refine g_X7_316 hB hz kdM_0 dX7_began_21 ?_
    refine lv_iconst (v := (1 : Int32)) hx hb dX7_began_24 (by decide) ?_
    refine lv_iadd hx hb dX7_began_25 ?_
    refine p_X7_316 hB hz kdM_0 dX7_began_26 (fun H locs hz => ?_)
    exact x_vret hB hz hE dX7_began_29
theorem c_X7_began (l : Launch) (g : GP) {x1 : Int32} {V : Mem} {o : Mem} (hE : f_X7_began x1 V = some o) : CT l g LM yX7_began cX7_began 2 none rm_X7_began [.ref (ad g 0), .int x1] V none o := by
  refine ct_of (by decide) (Nat.le_of_ble_eq_true rfl) ?_
  intro p e s m args below meth c ls hB hz hl
  exact w_X7_began hB _ _ _ _ _  hE hz hl
def rm_X7_plainSize : Room := { frames := 1, cells := 0, slots := 0, locals := 22 }
theorem i_X7_319 {p : Program} {l : Launch} {e : Env} {R : Room} {s : State} {m : MethodId} {args : Array Value} {below : List Frame} {meth : Method} {c : Code} {H : Heap} {locs : List Loc} {Q : State → Prop} {cc : ByteArray} {pc : Nat} {ls : Array Slot} {rest : List Value} {g : GP} {V : Mem} {nL : Nat} {ret : Option FieldType} (hB : BX p s m args meth c g LM cc nL RX7 ret) (hz : OK g LM V s H locs) {i : Nat} (hk : KD LM i 6) {a0 : Int32} {V1 : Mem} (hM : CT l g LM yX7_began cX7_began 2 none rm_X7_began [.ref (ad g i), .int a0] V none V1) (hR : rm_X7_began.frames + 1 ≤ R.frames ∧ 8 + (2 + 11) + rm_X7_began.locals ≤ R.locals) (hsz : ls.size = nL) (hrest : (rest.map fun v => v.category).sum ≤ 8) (hdg : decode cc pc = .ok (.invokevirtual 319, 3)) (kk : ∀ (H1 : Heap) (locs1 : List Loc), OK g LM V1 s H1 locs1 → W p l e R s m args below meth c H1 locs1 0 0 Q (F0 m (pc + 3) ls (rest))) : W p l e R s m args below meth c H locs 0 0 Q (F0 m pc ls (.int a0 :: .ref (ad g i) :: rest)) :=
  x_cv (As := [.int a0]) (n := 1) (T := TX7) (N := 30) hB hz hM hk rfl rfl rfl rfl kw_1153 kw_68 kw_1150 kw_1152 kw_58 (by decide +kernel) rfl hR hsz hrest hdg kk
set_option maxHeartbeats 4000000 in
set_option maxRecDepth 100000 in
theorem w_X7_plainSize {p : Program} {l : Launch} {e : Env} {s : State} {m : MethodId} {args : Array Value} {below : List Frame} {meth : Method} {c : Code} {g : GP} (hB : BX p s m args meth c g LM cX7_plainSize 2 RX7 (some .int)) {o : Int32 × Mem} : ∀ (x1 : Int32) (V : Mem) (H : Heap) (locs : List Loc) (ls : Array Slot), f_X7_plainSize x1 V = some o → OK g LM V s H locs → lv_has ls 2 [(0, .ref (ad g 0)), (1, .int x1)] → W p l e rm_X7_plainSize s m args below meth c H locs 0 0 (MQ below (QQ g LM (some (.int o.1)) o.2) args s 0 0 (Ar g LM)) (F0 m 0 ls []) := by
  obtain ⟨hx, hb, hml, hown, hT, hr, hlk, hK, hJ, hZ, hN⟩ := id hB
  intro x1 V H locs ls hE hz hl
  unfold f_X7_plainSize at hE
  refine lv_aload_n hx hb dX7_plainSize_0 rfl (lv_at hl 0 rfl) ?_
  refine lv_bipush (v := (10 : Int32)) hx hb dX7_plainSize_1 (by decide) ?_
  obtain ⟨q3, hq3, hE⟩ := x_bind hE
  refine i_X7_319 hB hz kdM_0 (c_X7_began l g  hq3) ⟨(Nat.le_of_ble_eq_true rfl), (Nat.le_of_ble_eq_true rfl)⟩ hl.1 (Nat.le_of_ble_eq_true rfl) dX7_plainSize_3 (fun H locs hz => ?_)
  refine lv_aload_n hx hb dX7_plainSize_6 rfl (lv_at hl 0 rfl) ?_
  refine g_X7_19 hB hz kdM_0 dX7_plainSize_7 ?_
  refine lv_iload_n hx hb dX7_plainSize_10 rfl (lv_at hl 1 rfl) ?_
  refine lv_iconst (v := (2 : Int32)) hx hb dX7_plainSize_11 (by decide) ?_
  obtain ⟨q12, hq12, hE⟩ := x_bind hE
  refine i_X7_165 hB hz (c_X7_of l g kdM_4 hq12) ⟨(Nat.le_of_ble_eq_true rfl), (Nat.le_of_ble_eq_true rfl)⟩ hl.1 (Nat.le_of_ble_eq_true rfl) dX7_plainSize_12 (fun H locs hz => ?_)
  exact x_iret hB hz hE dX7_plainSize_15
theorem c_X7_plainSize (l : Launch) (g : GP) {x1 : Int32} {V : Mem} {o : Int32 × Mem} (hE : f_X7_plainSize x1 V = some o) : CT l g LM yX7_plainSize cX7_plainSize 2 (some .int) rm_X7_plainSize [.ref (ad g 0), .int x1] V (some (.int o.1)) o.2 := by
  refine ct_of (by decide) (Nat.le_of_ble_eq_true rfl) ?_
  intro p e s m args below meth c ls hB hz hl
  exact w_X7_plainSize hB _ _ _ _ _  hE hz hl
def rm_X7_textSize : Room := { frames := 2, cells := 0, slots := 0, locals := 43 }
theorem i_X7_322 {p : Program} {l : Launch} {e : Env} {R : Room} {s : State} {m : MethodId} {args : Array Value} {below : List Frame} {meth : Method} {c : Code} {H : Heap} {locs : List Loc} {Q : State → Prop} {cc : ByteArray} {pc : Nat} {ls : Array Slot} {rest : List Value} {g : GP} {V : Mem} {nL : Nat} {ret : Option FieldType} (hB : BX p s m args meth c g LM cc nL RX7 ret) (hz : OK g LM V s H locs) {i : Nat} (hk : KD LM i 6) {a0 : Int32} {r : Int32} {V1 : Mem} (hM : CT l g LM yX7_plainSize cX7_plainSize 2 (some .int) rm_X7_plainSize [.ref (ad g i), .int a0] V (some (.int r)) V1) (hR : rm_X7_plainSize.frames + 1 ≤ R.frames ∧ 8 + (2 + 11) + rm_X7_plainSize.locals ≤ R.locals) (hsz : ls.size = nL) (hrest : (rest.map fun v => v.category).sum ≤ 8) (hdg : decode cc pc = .ok (.invokevirtual 322, 3)) (kk : ∀ (H1 : Heap) (locs1 : List Loc), OK g LM V1 s H1 locs1 → W p l e R s m args below meth c H1 locs1 0 0 Q (F0 m (pc + 3) ls (.int r :: rest))) : W p l e R s m args below meth c H locs 0 0 Q (F0 m pc ls (.int a0 :: .ref (ad g i) :: rest)) :=
  x_cv (As := [.int a0]) (n := 1) (T := TX7) (N := 30) hB hz hM hk rfl rfl rfl rfl kw_1157 kw_68 kw_1154 kw_1156 kw_59 (by decide +kernel) rfl hR hsz hrest hdg kk
set_option maxHeartbeats 4000000 in
set_option maxRecDepth 100000 in
theorem w_X7_textSize_29 {p : Program} {l : Launch} {e : Env} {s : State} {m : MethodId} {args : Array Value} {below : List Frame} {meth : Method} {c : Code} {g : GP} (hB : BX p s m args meth c g LM cX7_textSize 4 RX7 (some .int)) {o : Int32 × Mem} : ∀ (x1 : Int32) (x2 : Int32) (V : Mem) (H : Heap) (locs : List Loc) (ls : Array Slot), f_X7_textSize_29 x1 x2 V = some o → OK g LM V s H locs → lv_has ls 4 [(0, .ref (ad g 0)), (1, .int x1), (2, .int x2)] → W p l e rm_X7_textSize s m args below meth c H locs 0 0 (MQ below (QQ g LM (some (.int o.1)) o.2) args s 0 0 (Ar g LM)) (F0 m 29 ls []) := by
  obtain ⟨hx, hb, hml, hown, hT, hr, hlk, hK, hJ, hZ, hN⟩ := id hB
  intro x1 x2 V H locs ls hE hz hl
  unfold f_X7_textSize_29 at hE
  refine lv_aload_n hx hb dX7_textSize_29 rfl (lv_at hl 0 rfl) ?_
  refine lv_bipush (v := (13 : Int32)) hx hb dX7_textSize_30 (by decide) ?_
  obtain ⟨q32, hq32, hE⟩ := x_bind hE
  refine i_X7_319 hB hz kdM_0 (c_X7_began l g  hq32) ⟨(Nat.le_of_ble_eq_true rfl), (Nat.le_of_ble_eq_true rfl)⟩ hl.1 (Nat.le_of_ble_eq_true rfl) dX7_textSize_32 (fun H locs hz => ?_)
  refine lv_aload_n hx hb dX7_textSize_35 rfl (lv_at hl 0 rfl) ?_
  refine lv_iload_n hx hb dX7_textSize_36 rfl (lv_at hl 1 rfl) ?_
  obtain ⟨q37, hq37, hE⟩ := x_bind hE
  refine i_X7_322 hB hz kdM_0 (c_X7_plainSize l g  hq37) ⟨(Nat.le_of_ble_eq_true rfl), (Nat.le_of_ble_eq_true rfl)⟩ hl.1 (Nat.le_of_ble_eq_true rfl) dX7_textSize_37 (fun H locs hz => ?_)
  refine lv_bipush (v := (100 : Int32)) hx hb dX7_textSize_40 (by decide) ?_
  refine lv_isub hx hb dX7_textSize_42 ?_
  refine lv_istore_n (lv' := [(3, .int (q37.1 - (100 : Int32))), (0, .ref (ad g 0)), (1, .int x1), (2, .int x2)]) hx hb dX7_textSize_43 rfl hl (by decide) rfl (fun ls hl => ?_)
  refine lv_iload_n hx hb dX7_textSize_44 rfl (lv_at hl 3 rfl) ?_
  refine lv_if_eq (tgt := 54) hx hb dX7_textSize_45 (by decide) (fun c45 => ?_) (fun c45 => ?_)
  · have hE := (if_pos c45).symm.trans hE
    refine lv_iload_n hx hb dX7_textSize_54 rfl (lv_at hl 0 rfl) ?_
    exact x_iret hB hz hE dX7_textSize_55
  · have hE := (if_neg c45).symm.trans hE
    refine lv_iconst (v := (2 : Int32)) hx hb dX7_textSize_48 (by decide) ?_
    refine lv_iload_n hx hb dX7_textSize_49 rfl (lv_at hl 0 rfl) ?_
    refine lv_imul hx hb dX7_textSize_50 ?_
    refine lv_goto (tgt := 55) hx hb dX7_textSize_51 (by decide) ?_
    exact x_iret hB hz hE dX7_textSize_55

set_option maxHeartbeats 4000000 in
set_option maxRecDepth 100000 in
theorem w_X7_textSize_18 {p : Program} {l : Launch} {e : Env} {s : State} {m : MethodId} {args : Array Value} {below : List Frame} {meth : Method} {c : Code} {g : GP} (hB : BX p s m args meth c g LM cX7_textSize 4 RX7 (some .int)) {o : Int32 × Mem} : ∀ (x1 : Int32) (s0 : Int32) (V : Mem) (H : Heap) (locs : List Loc) (ls : Array Slot), f_X7_textSize_18 x1 s0 V = some o → OK g LM V s H locs → lv_has ls 4 [(0, .ref (ad g 0)), (1, .int x1)] → W p l e rm_X7_textSize s m args below meth c H locs 0 0 (MQ below (QQ g LM (some (.int o.1)) o.2) args s 0 0 (Ar g LM)) (F0 m 18 ls [.int s0]) := by
  obtain ⟨hx, hb, hml, hown, hT, hr, hlk, hK, hJ, hZ, hN⟩ := id hB
  intro x1 s0 V H locs ls hE hz hl
  unfold f_X7_textSize_18 at hE
  refine lv_istore_n (lv' := [(2, .int s0), (0, .ref (ad g 0)), (1, .int x1)]) hx hb dX7_textSize_18 rfl hl (by decide) rfl (fun ls hl => ?_)
  refine lv_iload_n hx hb dX7_textSize_19 rfl (lv_at hl 0 rfl) ?_
  refine lv_if_eq (tgt := 29) hx hb dX7_textSize_20 (by decide) (fun c20 => ?_) (fun c20 => ?_)
  · have hE := (if_pos c20).symm.trans hE
    exact w_X7_textSize_29 hB  _ _ _ _ _ _  hE hz (lv_sub hl [1, 2, 0] rfl)
  · have hE := (if_neg c20).symm.trans hE
    refine lv_aload_n hx hb dX7_textSize_23 rfl (lv_at hl 1 rfl) ?_
    refine lv_bipush (v := (14 : Int32)) hx hb dX7_textSize_24 (by decide) ?_
    obtain ⟨q26, hq26, hE⟩ := x_bind hE
    refine i_X7_319 hB hz kdM_0 (c_X7_began l g  hq26) ⟨(Nat.le_of_ble_eq_true rfl), (Nat.le_of_ble_eq_true rfl)⟩ hl.1 (Nat.le_of_ble_eq_true rfl) dX7_textSize_26 (fun H locs hz => ?_)
    exact w_X7_textSize_29 hB  _ _ _ _ _ _  hE hz (lv_sub hl [1, 2, 0] rfl)

set_option maxHeartbeats 4000000 in
set_option maxRecDepth 100000 in
theorem w_X7_textSize {p : Program} {l : Launch} {e : Env} {s : State} {m : MethodId} {args : Array Value} {below : List Frame} {meth : Method} {c : Code} {g : GP} (hB : BX p s m args meth c g LM cX7_textSize 4 RX7 (some .int)) {o : Int32 × Mem} : ∀ (x1 : Int32) (V : Mem) (H : Heap) (locs : List Loc) (ls : Array Slot), f_X7_textSize x1 V = some o → OK g LM V s H locs → lv_has ls 4 [(0, .ref (ad g 0)), (1, .int x1)] → W p l e rm_X7_textSize s m args below meth c H locs 0 0 (MQ below (QQ g LM (some (.int o.1)) o.2) args s 0 0 (Ar g LM)) (F0 m 0 ls []) := by
  obtain ⟨hx, hb, hml, hown, hT, hr, hlk, hK, hJ, hZ, hN⟩ := id hB
  intro x1 V H locs ls hE hz hl
  unfold f_X7_textSize at hE
  refine lv_aload_n hx hb dX7_textSize_0 rfl (lv_at hl 0 rfl) ?_
  refine g_X7_19 hB hz kdM_0 dX7_textSize_1 ?_
  refine lv_iload_n hx hb dX7_textSize_4 rfl (lv_at hl 1 rfl) ?_
  refine lv_iconst (v := (0 : Int32)) hx hb dX7_textSize_5 (by decide) ?_
  obtain ⟨q6, hq6, hE⟩ := x_bind hE
  refine i_X7_165 hB hz (c_X7_of l g kdM_4 hq6) ⟨(Nat.le_of_ble_eq_true rfl), (Nat.le_of_ble_eq_true rfl)⟩ hl.1 (Nat.le_of_ble_eq_true rfl) dX7_textSize_6 (fun H locs hz => ?_)
  refine lv_iconst (v := (5 : Int32)) hx hb dX7_textSize_9 (by decide) ?_
  refine lv_icmp_ne (tgt := 17) hx hb dX7_textSize_10 (by decide) (fun c10 => ?_) (fun c10 => ?_)
  · have hE := (if_neg c10).symm.trans hE
    refine lv_iconst (v := (0 : Int32)) hx hb dX7_textSize_17 (by decide) ?_
    exact w_X7_textSize_18 hB  _ _ _ _ _ _  hE hz (lv_sub hl [0, 1] rfl)
  · have hE := (if_pos c10).symm.trans hE
    refine lv_iconst (v := (1 : Int32)) hx hb dX7_textSize_13 (by decide) ?_
    refine lv_goto (tgt := 18) hx hb dX7_textSize_14 (by decide) ?_
    exact w_X7_textSize_18 hB  _ _ _ _ _ _  hE hz (lv_sub hl [0, 1] rfl)
theorem c_X7_textSize (l : Launch) (g : GP) {x1 : Int32} {V : Mem} {o : Int32 × Mem} (hE : f_X7_textSize x1 V = some o) : CT l g LM yX7_textSize cX7_textSize 4 (some .int) rm_X7_textSize [.ref (ad g 0), .int x1] V (some (.int o.1)) o.2 := by
  refine ct_of (by decide) (Nat.le_of_ble_eq_true rfl) ?_
  intro p e s m args below meth c ls hB hz hl
  exact w_X7_textSize hB _ _ _ _ _  hE hz hl
def rm_X7_markOf : Room := { frames := 3, cells := 0, slots := 0, locals := 66 }
theorem i_X7_325 {p : Program} {l : Launch} {e : Env} {R : Room} {s : State} {m : MethodId} {args : Array Value} {below : List Frame} {meth : Method} {c : Code} {H : Heap} {locs : List Loc} {Q : State → Prop} {cc : ByteArray} {pc : Nat} {ls : Array Slot} {rest : List Value} {g : GP} {V : Mem} {nL : Nat} {ret : Option FieldType} (hB : BX p s m args meth c g LM cc nL RX7 ret) (hz : OK g LM V s H locs) {i : Nat} (hk : KD LM i 6) {a0 : Int32} {r : Int32} {V1 : Mem} (hM : CT l g LM yX7_textSize cX7_textSize 4 (some .int) rm_X7_textSize [.ref (ad g i), .int a0] V (some (.int r)) V1) (hR : rm_X7_textSize.frames + 1 ≤ R.frames ∧ 8 + (4 + 11) + rm_X7_textSize.locals ≤ R.locals) (hsz : ls.size = nL) (hrest : (rest.map fun v => v.category).sum ≤ 8) (hdg : decode cc pc = .ok (.invokevirtual 325, 3)) (kk : ∀ (H1 : Heap) (locs1 : List Loc), OK g LM V1 s H1 locs1 → W p l e R s m args below meth c H1 locs1 0 0 Q (F0 m (pc + 3) ls (.int r :: rest))) : W p l e R s m args below meth c H locs 0 0 Q (F0 m pc ls (.int a0 :: .ref (ad g i) :: rest)) :=
  x_cv (As := [.int a0]) (n := 1) (T := TX7) (N := 30) hB hz hM hk rfl rfl rfl rfl kw_1149 kw_68 kw_1146 kw_1148 kw_57 (by decide +kernel) rfl hR hsz hrest hdg kk
set_option maxHeartbeats 4000000 in
set_option maxRecDepth 100000 in
theorem w_X7_markOf_56 {p : Program} {l : Launch} {e : Env} {s : State} {m : MethodId} {args : Array Value} {below : List Frame} {meth : Method} {c : Code} {g : GP} (hB : BX p s m args meth c g LM cX7_markOf 4 RX7 (some .int)) {o : Int32 × Mem} : ∀ (x1 : Int32) (x2 : Int32) (V : Mem) (H : Heap) (locs : List Loc) (ls : Array Slot), f_X7_markOf_56 x1 x2 V = some o → OK g LM V s H locs → lv_has ls 4 [(0, .ref (ad g 0)), (1, .int x1), (2, .int x2)] → W p l e rm_X7_markOf s m args below meth c H locs 0 0 (MQ below (QQ g LM (some (.int o.1)) o.2) args s 0 0 (Ar g LM)) (F0 m 56 ls []) := by
  obtain ⟨hx, hb, hml, hown, hT, hr, hlk, hK, hJ, hZ, hN⟩ := id hB
  intro x1 x2 V H locs ls hE hz hl
  unfold f_X7_markOf_56 at hE
  refine lv_aload_n hx hb dX7_markOf_56 rfl (lv_at hl 0 rfl) ?_
  refine lv_bipush (v := (21 : Int32)) hx hb dX7_markOf_57 (by decide) ?_
  obtain ⟨q59, hq59, hE⟩ := x_bind hE
  refine i_X7_319 hB hz kdM_0 (c_X7_began l g  hq59) ⟨(Nat.le_of_ble_eq_true rfl), (Nat.le_of_ble_eq_true rfl)⟩ hl.1 (Nat.le_of_ble_eq_true rfl) dX7_markOf_59 (fun H locs hz => ?_)
  refine lv_aload_n hx hb dX7_markOf_62 rfl (lv_at hl 0 rfl) ?_
  refine lv_bipush (v := (20 : Int32)) hx hb dX7_markOf_63 (by decide) ?_
  obtain ⟨q65, hq65, hE⟩ := x_bind hE
  refine i_X7_319 hB hz kdM_0 (c_X7_began l g  hq65) ⟨(Nat.le_of_ble_eq_true rfl), (Nat.le_of_ble_eq_true rfl)⟩ hl.1 (Nat.le_of_ble_eq_true rfl) dX7_markOf_65 (fun H locs hz => ?_)
  refine lv_iload_n hx hb dX7_markOf_68 rfl (lv_at hl 1 rfl) ?_
  refine lv_aload_n hx hb dX7_markOf_69 rfl (lv_at hl 0 rfl) ?_
  refine lv_aload_n hx hb dX7_markOf_70 rfl (lv_at hl 0 rfl) ?_
  refine g_X7_19 hB hz kdM_0 dX7_markOf_71 ?_
  refine lv_iload_n hx hb dX7_markOf_74 rfl (lv_at hl 1 rfl) ?_
  obtain ⟨q75, hq75, hE⟩ := x_bind hE
  refine i_X7_269 hB hz kdM_0 (c_X7_ownOf l g kdM_4 hq75) ⟨(Nat.le_of_ble_eq_true rfl), (Nat.le_of_ble_eq_true rfl)⟩ hl.1 (Nat.le_of_ble_eq_true rfl) dX7_markOf_75 (fun H locs hz => ?_)
  refine lv_iadd hx hb dX7_markOf_78 ?_
  refine lv_istore_n (lv' := [(3, .int (x1 + q75.1)), (0, .ref (ad g 0)), (1, .int x1), (2, .int x2)]) hx hb dX7_markOf_79 rfl hl (by decide) rfl (fun ls hl => ?_)
  refine lv_iload_n hx hb dX7_markOf_80 rfl (lv_at hl 3 rfl) ?_
  refine lv_iconst (v := (1 : Int32)) hx hb dX7_markOf_81 (by decide) ?_
  refine lv_icmp_ne (tgt := 89) hx hb dX7_markOf_82 (by decide) (fun c82 => ?_) (fun c82 => ?_)
  · have hE := (if_neg c82).symm.trans hE
    refine lv_iload_n hx hb dX7_markOf_89 rfl (lv_at hl 3 rfl) ?_
    refine lv_iconst (v := (3 : Int32)) hx hb dX7_markOf_90 (by decide) ?_
    refine lv_icmp_ne (tgt := 102) hx hb dX7_markOf_91 (by decide) (fun c91 => ?_) (fun c91 => ?_)
    · have hE := (if_neg c91).symm.trans hE
      refine lv_iconst (v := (2 : Int32)) hx hb dX7_markOf_102 (by decide) ?_
      refine lv_iload_n hx hb dX7_markOf_103 rfl (lv_at hl 0 rfl) ?_
      refine lv_imul hx hb dX7_markOf_104 ?_
      exact x_iret hB hz hE dX7_markOf_105
    · have hE := (if_pos c91).symm.trans hE
      refine lv_iload_n hx hb dX7_markOf_94 rfl (lv_at hl 0 rfl) ?_
      refine lv_sipush (v := (1000 : Int32)) hx hb dX7_markOf_95 (by decide) ?_
      refine lv_isub hx hb dX7_markOf_98 ?_
      refine lv_goto (tgt := 105) hx hb dX7_markOf_99 (by decide) ?_
      exact x_iret hB hz hE dX7_markOf_105
  · have hE := (if_pos c82).symm.trans hE
    refine lv_iload_n hx hb dX7_markOf_85 rfl (lv_at hl 0 rfl) ?_
    refine lv_goto (tgt := 105) hx hb dX7_markOf_86 (by decide) ?_
    exact x_iret hB hz hE dX7_markOf_105

set_option maxHeartbeats 4000000 in
set_option maxRecDepth 100000 in
theorem w_X7_markOf_53_c0 {p : Program} {l : Launch} {e : Env} {s : State} {m : MethodId} {args : Array Value} {below : List Frame} {meth : Method} {c : Code} {g : GP} (hB : BX p s m args meth c g LM cX7_markOf 4 RX7 (some .int)) {o : Int32 × Mem} : ∀ (x1 : Int32) (x2 : Int32) (s1 : Int32) (V : Mem) (H : Heap) (locs : List Loc) (ls : Array Slot), f_X7_markOf_53_c0 x1 x2 s1 V = some o → OK g LM V s H locs → lv_has ls 4 [(0, .ref (ad g 0)), (1, .int x1), (2, .int x2)] → W p l e rm_X7_markOf s m args below meth c H locs 0 0 (MQ below (QQ g LM (some (.int o.1)) o.2) args s 0 0 (Ar g LM)) (F0 m 53 ls [.int s1, .ref (ad g 0)]) := by
  obtain ⟨hx, hb, hml, hown, hT, hr, hlk, hK, hJ, hZ, hN⟩ := id hB
  intro x1 x2 s1 V H locs ls hE hz hl
  unfold f_X7_markOf_53_c0 at hE
  obtain ⟨q53, hq53, hE⟩ := x_bind hE
  refine i_X7_319 hB hz kdM_0 (c_X7_began l g  hq53) ⟨(Nat.le_of_ble_eq_true rfl), (Nat.le_of_ble_eq_true rfl)⟩ hl.1 (Nat.le_of_ble_eq_true rfl) dX7_markOf_53 (fun H locs hz => ?_)
  exact w_X7_markOf_56 hB  _ _ _ _ _ _  hE hz (lv_sub hl [0, 1, 2] rfl)

set_option maxHeartbeats 4000000 in
set_option maxRecDepth 100000 in
theorem w_X7_markOf {p : Program} {l : Launch} {e : Env} {s : State} {m : MethodId} {args : Array Value} {below : List Frame} {meth : Method} {c : Code} {g : GP} (hB : BX p s m args meth c g LM cX7_markOf 4 RX7 (some .int)) {o : Int32 × Mem} : ∀ (x1 : Int32) (V : Mem) (H : Heap) (locs : List Loc) (ls : Array Slot), f_X7_markOf x1 V = some o → OK g LM V s H locs → lv_has ls 4 [(0, .ref (ad g 0)), (1, .int x1)] → W p l e rm_X7_markOf s m args below meth c H locs 0 0 (MQ below (QQ g LM (some (.int o.1)) o.2) args s 0 0 (Ar g LM)) (F0 m 0 ls []) := by
  obtain ⟨hx, hb, hml, hown, hT, hr, hlk, hK, hJ, hZ, hN⟩ := id hB
  intro x1 V H locs ls hE hz hl
  unfold f_X7_markOf at hE
  refine lv_aload_n hx hb dX7_markOf_0 rfl (lv_at hl 0 rfl) ?_
  refine g_X7_19 hB hz kdM_0 dX7_markOf_1 ?_
  refine lv_iload_n hx hb dX7_markOf_4 rfl (lv_at hl 1 rfl) ?_
  refine lv_iconst (v := (0 : Int32)) hx hb dX7_markOf_5 (by decide) ?_
  obtain ⟨q6, hq6, hE⟩ := x_bind hE
  refine i_X7_165 hB hz (c_X7_of l g kdM_4 hq6) ⟨(Nat.le_of_ble_eq_true rfl), (Nat.le_of_ble_eq_true rfl)⟩ hl.1 (Nat.le_of_ble_eq_true rfl) dX7_markOf_6 (fun H locs hz => ?_)
  refine lv_istore_n (lv' := [(2, .int q6.1), (0, .ref (ad g 0)), (1, .int x1)]) hx hb dX7_markOf_9 rfl hl (by decide) rfl (fun ls hl => ?_)
  refine lv_iload_n hx hb dX7_markOf_10 rfl (lv_at hl 0 rfl) ?_
  refine lv_iconst (v := (4 : Int32)) hx hb dX7_markOf_11 (by decide) ?_
  refine lv_icmp_lt (tgt := 35) hx hb dX7_markOf_12 (by decide) (fun c12 => ?_) (fun c12 => ?_)
  · have hE := (if_pos c12).symm.trans hE
    refine lv_iload_n hx hb dX7_markOf_35 rfl (lv_at hl 0 rfl) ?_
    refine lv_iconst (v := (1 : Int32)) hx hb dX7_markOf_36 (by decide) ?_
    refine lv_icmp_eq (tgt := 56) hx hb dX7_markOf_37 (by decide) (fun c37 => ?_) (fun c37 => ?_)
    · have hE := (if_pos c37).symm.trans hE
      exact w_X7_markOf_56 hB  _ _ _ _ _ _  hE hz (lv_sub hl [1, 2, 0] rfl)
    · have hE := (if_neg c37).symm.trans hE
      refine lv_aload_n hx hb dX7_markOf_40 rfl (lv_at hl 1 rfl) ?_
      refine lv_iload_n hx hb dX7_markOf_41 rfl (lv_at hl 0 rfl) ?_
      refine lv_iconst (v := (3 : Int32)) hx hb dX7_markOf_42 (by decide) ?_
      refine lv_icmp_ne (tgt := 51) hx hb dX7_markOf_43 (by decide) (fun c43 => ?_) (fun c43 => ?_)
      · have hE := (if_neg c43).symm.trans hE
        refine lv_bipush (v := (24 : Int32)) hx hb dX7_markOf_51 (by decide) ?_
        exact w_X7_markOf_53_c0 hB  _ _ _ _ _ _ _  hE hz (lv_sub hl [1, 2, 0] rfl)
      · have hE := (if_pos c43).symm.trans hE
        refine lv_bipush (v := (22 : Int32)) hx hb dX7_markOf_46 (by decide) ?_
        refine lv_goto (tgt := 53) hx hb dX7_markOf_48 (by decide) ?_
        exact w_X7_markOf_53_c0 hB  _ _ _ _ _ _ _  hE hz (lv_sub hl [1, 2, 0] rfl)
  · have hE := (if_neg c12).symm.trans hE
    refine lv_aload_n hx hb dX7_markOf_15 rfl (lv_at hl 1 rfl) ?_
    refine lv_bipush (v := (23 : Int32)) hx hb dX7_markOf_16 (by decide) ?_
    obtain ⟨q18, hq18, hE⟩ := x_bind hE
    refine i_X7_319 hB hz kdM_0 (c_X7_began l g  hq18) ⟨(Nat.le_of_ble_eq_true rfl), (Nat.le_of_ble_eq_true rfl)⟩ hl.1 (Nat.le_of_ble_eq_true rfl) dX7_markOf_18 (fun H locs hz => ?_)
    refine lv_aload_n hx hb dX7_markOf_21 rfl (lv_at hl 1 rfl) ?_
    refine lv_bipush (v := (20 : Int32)) hx hb dX7_markOf_22 (by decide) ?_
    obtain ⟨q24, hq24, hE⟩ := x_bind hE
    refine i_X7_319 hB hz kdM_0 (c_X7_began l g  hq24) ⟨(Nat.le_of_ble_eq_true rfl), (Nat.le_of_ble_eq_true rfl)⟩ hl.1 (Nat.le_of_ble_eq_true rfl) dX7_markOf_24 (fun H locs hz => ?_)
    refine lv_iload_n hx hb dX7_markOf_27 rfl (lv_at hl 2 rfl) ?_
    refine lv_aload_n hx hb dX7_markOf_28 rfl (lv_at hl 1 rfl) ?_
    refine lv_iload_n hx hb dX7_markOf_29 rfl (lv_at hl 2 rfl) ?_
    obtain ⟨q30, hq30, hE⟩ := x_bind hE
    refine i_X7_325 hB hz kdM_0 (c_X7_textSize l g  hq30) ⟨(Nat.le_of_ble_eq_true rfl), (Nat.le_of_ble_eq_true rfl)⟩ hl.1 (Nat.le_of_ble_eq_true rfl) dX7_markOf_30 (fun H locs hz => ?_)
    refine lv_isub hx hb dX7_markOf_33 ?_
    exact x_iret hB hz hE dX7_markOf_34
theorem c_X7_markOf (l : Launch) (g : GP) {x1 : Int32} {V : Mem} {o : Int32 × Mem} (hE : f_X7_markOf x1 V = some o) : CT l g LM yX7_markOf cX7_markOf 4 (some .int) rm_X7_markOf [.ref (ad g 0), .int x1] V (some (.int o.1)) o.2 := by
  refine ct_of (by decide) (Nat.le_of_ble_eq_true rfl) ?_
  intro p e s m args below meth c ls hB hz hl
  exact w_X7_markOf hB _ _ _ _ _  hE hz hl
def rm_X7_sizeOf : Room := { frames := 4, cells := 0, slots := 0, locals := 89 }
theorem i_X7_328 {p : Program} {l : Launch} {e : Env} {R : Room} {s : State} {m : MethodId} {args : Array Value} {below : List Frame} {meth : Method} {c : Code} {H : Heap} {locs : List Loc} {Q : State → Prop} {cc : ByteArray} {pc : Nat} {ls : Array Slot} {rest : List Value} {g : GP} {V : Mem} {nL : Nat} {ret : Option FieldType} (hB : BX p s m args meth c g LM cc nL RX7 ret) (hz : OK g LM V s H locs) {i : Nat} (hk : KD LM i 6) {a0 : Int32} {r : Int32} {V1 : Mem} (hM : CT l g LM yX7_markOf cX7_markOf 4 (some .int) rm_X7_markOf [.ref (ad g i), .int a0] V (some (.int r)) V1) (hR : rm_X7_markOf.frames + 1 ≤ R.frames ∧ 8 + (4 + 11) + rm_X7_markOf.locals ≤ R.locals) (hsz : ls.size = nL) (hrest : (rest.map fun v => v.category).sum ≤ 8) (hdg : decode cc pc = .ok (.invokevirtual 328, 3)) (kk : ∀ (H1 : Heap) (locs1 : List Loc), OK g LM V1 s H1 locs1 → W p l e R s m args below meth c H1 locs1 0 0 Q (F0 m (pc + 3) ls (.int r :: rest))) : W p l e R s m args below meth c H locs 0 0 Q (F0 m pc ls (.int a0 :: .ref (ad g i) :: rest)) :=
  x_cv (As := [.int a0]) (n := 1) (T := TX7) (N := 30) hB hz hM hk rfl rfl rfl rfl kw_1161 kw_68 kw_1158 kw_1160 kw_60 (by decide +kernel) rfl hR hsz hrest hdg kk
set_option maxHeartbeats 4000000 in
set_option maxRecDepth 100000 in
theorem w_X7_sizeOf_32 {p : Program} {l : Launch} {e : Env} {s : State} {m : MethodId} {args : Array Value} {below : List Frame} {meth : Method} {c : Code} {g : GP} (hB : BX p s m args meth c g LM cX7_sizeOf 4 RX7 (some .int)) {o : Int32 × Mem} : ∀ (x1 : Int32) (x2 : Int32) (V : Mem) (H : Heap) (locs : List Loc) (ls : Array Slot), f_X7_sizeOf_32 x1 x2 V = some o → OK g LM V s H locs → lv_has ls 4 [(0, .ref (ad g 0)), (1, .int x1), (2, .int x2)] → W p l e rm_X7_sizeOf s m args below meth c H locs 0 0 (MQ below (QQ g LM (some (.int o.1)) o.2) args s 0 0 (Ar g LM)) (F0 m 32 ls []) := by
  obtain ⟨hx, hb, hml, hown, hT, hr, hlk, hK, hJ, hZ, hN⟩ := id hB
  intro x1 x2 V H locs ls hE hz hl
  unfold f_X7_sizeOf_32 at hE
  refine lv_aload_n hx hb dX7_sizeOf_32 rfl (lv_at hl 0 rfl) ?_
  refine lv_bipush (v := (11 : Int32)) hx hb dX7_sizeOf_33 (by decide) ?_
  obtain ⟨q35, hq35, hE⟩ := x_bind hE
  refine i_X7_319 hB hz kdM_0 (c_X7_began l g  hq35) ⟨(Nat.le_of_ble_eq_true rfl), (Nat.le_of_ble_eq_true rfl)⟩ hl.1 (Nat.le_of_ble_eq_true rfl) dX7_sizeOf_35 (fun H locs hz => ?_)
  refine lv_aload_n hx hb dX7_sizeOf_38 rfl (lv_at hl 0 rfl) ?_
  refine lv_iload_n hx hb dX7_sizeOf_39 rfl (lv_at hl 1 rfl) ?_
  obtain ⟨q40, hq40, hE⟩ := x_bind hE
  refine i_X7_322 hB hz kdM_0 (c_X7_plainSize l g  hq40) ⟨(Nat.le_of_ble_eq_true rfl), (Nat.le_of_ble_eq_true rfl)⟩ hl.1 (Nat.le_of_ble_eq_true rfl) dX7_sizeOf_40 (fun H locs hz => ?_)
  refine lv_istore_n (lv' := [(3, .int q40.1), (0, .ref (ad g 0)), (1, .int x1), (2, .int x2)]) hx hb dX7_sizeOf_43 rfl hl (by decide) rfl (fun ls hl => ?_)
  refine lv_iload_n hx hb dX7_sizeOf_44 rfl (lv_at hl 0 rfl) ?_
  refine lv_aload_n hx hb dX7_sizeOf_45 rfl (lv_at hl 1 rfl) ?_
  refine lv_iload_n hx hb dX7_sizeOf_46 rfl (lv_at hl 2 rfl) ?_
  obtain ⟨q47, hq47, hE⟩ := x_bind hE
  refine i_X7_328 hB hz kdM_0 (c_X7_markOf l g  hq47) ⟨(Nat.le_of_ble_eq_true rfl), (Nat.le_of_ble_eq_true rfl)⟩ hl.1 (Nat.le_of_ble_eq_true rfl) dX7_sizeOf_47 (fun H locs hz => ?_)
  refine lv_iadd hx hb dX7_sizeOf_50 ?_
  refine lv_istore_n (lv' := [(3, .int (q40.1 + q47.1)), (0, .ref (ad g 0)), (1, .int x1), (2, .int x2)]) hx hb dX7_sizeOf_51 rfl hl (by decide) rfl (fun ls hl => ?_)
  refine lv_iload_n hx hb dX7_sizeOf_52 rfl (lv_at hl 3 rfl) ?_
  refine lv_iconst (v := (2 : Int32)) hx hb dX7_sizeOf_53 (by decide) ?_
  refine lv_icmp_ne (tgt := 62) hx hb dX7_sizeOf_54 (by decide) (fun c54 => ?_) (fun c54 => ?_)
  · have hE := (if_neg c54).symm.trans hE
    refine lv_iload_n hx hb dX7_sizeOf_62 rfl (lv_at hl 0 rfl) ?_
    exact x_iret hB hz hE dX7_sizeOf_63
  · have hE := (if_pos c54).symm.trans hE
    refine lv_iload_n hx hb dX7_sizeOf_57 rfl (lv_at hl 0 rfl) ?_
    refine lv_ineg hx hb dX7_sizeOf_58 ?_
    refine lv_goto (tgt := 63) hx hb dX7_sizeOf_59 (by decide) ?_
    exact x_iret hB hz hE dX7_sizeOf_63

set_option maxHeartbeats 4000000 in
set_option maxRecDepth 100000 in
theorem w_X7_sizeOf {p : Program} {l : Launch} {e : Env} {s : State} {m : MethodId} {args : Array Value} {below : List Frame} {meth : Method} {c : Code} {g : GP} (hB : BX p s m args meth c g LM cX7_sizeOf 4 RX7 (some .int)) {o : Int32 × Mem} : ∀ (x1 : Int32) (V : Mem) (H : Heap) (locs : List Loc) (ls : Array Slot), f_X7_sizeOf x1 V = some o → OK g LM V s H locs → lv_has ls 4 [(0, .ref (ad g 0)), (1, .int x1)] → W p l e rm_X7_sizeOf s m args below meth c H locs 0 0 (MQ below (QQ g LM (some (.int o.1)) o.2) args s 0 0 (Ar g LM)) (F0 m 0 ls []) := by
  obtain ⟨hx, hb, hml, hown, hT, hr, hlk, hK, hJ, hZ, hN⟩ := id hB
  intro x1 V H locs ls hE hz hl
  unfold f_X7_sizeOf at hE
  refine lv_aload_n hx hb dX7_sizeOf_0 rfl (lv_at hl 0 rfl) ?_
  refine g_X7_19 hB hz kdM_0 dX7_sizeOf_1 ?_
  refine lv_iload_n hx hb dX7_sizeOf_4 rfl (lv_at hl 1 rfl) ?_
  refine lv_iconst (v := (0 : Int32)) hx hb dX7_sizeOf_5 (by decide) ?_
  obtain ⟨q6, hq6, hE⟩ := x_bind hE
  refine i_X7_165 hB hz (c_X7_of l g kdM_4 hq6) ⟨(Nat.le_of_ble_eq_true rfl), (Nat.le_of_ble_eq_true rfl)⟩ hl.1 (Nat.le_of_ble_eq_true rfl) dX7_sizeOf_6 (fun H locs hz => ?_)
  refine lv_istore_n (lv' := [(2, .int q6.1), (0, .ref (ad g 0)), (1, .int x1)]) hx hb dX7_sizeOf_9 rfl hl (by decide) rfl (fun ls hl => ?_)
  refine lv_iload_n hx hb dX7_sizeOf_10 rfl (lv_at hl 0 rfl) ?_
  refine lv_iconst (v := (4 : Int32)) hx hb dX7_sizeOf_11 (by decide) ?_
  refine lv_icmp_lt (tgt := 21) hx hb dX7_sizeOf_12 (by decide) (fun c12 => ?_) (fun c12 => ?_)
  · have hE := (if_pos c12).symm.trans hE
    refine lv_iload_n hx hb dX7_sizeOf_21 rfl (lv_at hl 0 rfl) ?_
    refine lv_iconst (v := (2 : Int32)) hx hb dX7_sizeOf_22 (by decide) ?_
    refine lv_icmp_ne (tgt := 32) hx hb dX7_sizeOf_23 (by decide) (fun c23 => ?_) (fun c23 => ?_)
    · have hE := (if_neg c23).symm.trans hE
      exact w_X7_sizeOf_32 hB  _ _ _ _ _ _  hE hz (lv_sub hl [1, 2, 0] rfl)
    · have hE := (if_pos c23).symm.trans hE
      refine lv_aload_n hx hb dX7_sizeOf_26 rfl (lv_at hl 1 rfl) ?_
      refine lv_bipush (v := (12 : Int32)) hx hb dX7_sizeOf_27 (by decide) ?_
      obtain ⟨q29, hq29, hE⟩ := x_bind hE
      refine i_X7_319 hB hz kdM_0 (c_X7_began l g  hq29) ⟨(Nat.le_of_ble_eq_true rfl), (Nat.le_of_ble_eq_true rfl)⟩ hl.1 (Nat.le_of_ble_eq_true rfl) dX7_sizeOf_29 (fun H locs hz => ?_)
      exact w_X7_sizeOf_32 hB  _ _ _ _ _ _  hE hz (lv_sub hl [1, 2, 0] rfl)
  · have hE := (if_neg c12).symm.trans hE
    refine lv_aload_n hx hb dX7_sizeOf_15 rfl (lv_at hl 1 rfl) ?_
    refine lv_iload_n hx hb dX7_sizeOf_16 rfl (lv_at hl 2 rfl) ?_
    obtain ⟨q17, hq17, hE⟩ := x_bind hE
    refine i_X7_325 hB hz kdM_0 (c_X7_textSize l g  hq17) ⟨(Nat.le_of_ble_eq_true rfl), (Nat.le_of_ble_eq_true rfl)⟩ hl.1 (Nat.le_of_ble_eq_true rfl) dX7_sizeOf_17 (fun H locs hz => ?_)
    exact x_iret hB hz hE dX7_sizeOf_20
theorem c_X7_sizeOf (l : Launch) (g : GP) {x1 : Int32} {V : Mem} {o : Int32 × Mem} (hE : f_X7_sizeOf x1 V = some o) : CT l g LM yX7_sizeOf cX7_sizeOf 4 (some .int) rm_X7_sizeOf [.ref (ad g 0), .int x1] V (some (.int o.1)) o.2 := by
  refine ct_of (by decide) (Nat.le_of_ble_eq_true rfl) ?_
  intro p e s m args below meth c ls hB hz hl
  exact w_X7_sizeOf hB _ _ _ _ _  hE hz hl
def rm_X7_ask : Room := { frames := 5, cells := 0, slots := 0, locals := 112 }
theorem i_X7_331 {p : Program} {l : Launch} {e : Env} {R : Room} {s : State} {m : MethodId} {args : Array Value} {below : List Frame} {meth : Method} {c : Code} {H : Heap} {locs : List Loc} {Q : State → Prop} {cc : ByteArray} {pc : Nat} {ls : Array Slot} {rest : List Value} {g : GP} {V : Mem} {nL : Nat} {ret : Option FieldType} (hB : BX p s m args meth c g LM cc nL RX7 ret) (hz : OK g LM V s H locs) {i : Nat} (hk : KD LM i 6) {a0 : Int32} {r : Int32} {V1 : Mem} (hM : CT l g LM yX7_sizeOf cX7_sizeOf 4 (some .int) rm_X7_sizeOf [.ref (ad g i), .int a0] V (some (.int r)) V1) (hR : rm_X7_sizeOf.frames + 1 ≤ R.frames ∧ 8 + (4 + 11) + rm_X7_sizeOf.locals ≤ R.locals) (hsz : ls.size = nL) (hrest : (rest.map fun v => v.category).sum ≤ 8) (hdg : decode cc pc = .ok (.invokevirtual 331, 3)) (kk : ∀ (H1 : Heap) (locs1 : List Loc), OK g LM V1 s H1 locs1 → W p l e R s m args below meth c H1 locs1 0 0 Q (F0 m (pc + 3) ls (.int r :: rest))) : W p l e R s m args below meth c H locs 0 0 Q (F0 m pc ls (.int a0 :: .ref (ad g i) :: rest)) :=
  x_cv (As := [.int a0]) (n := 1) (T := TX7) (N := 30) hB hz hM hk rfl rfl rfl rfl kw_1145 kw_68 kw_1142 kw_1144 kw_56 (by decide +kernel) rfl hR hsz hrest hdg kk
set_option maxHeartbeats 4000000 in
set_option maxRecDepth 100000 in
theorem w_X7_ask {p : Program} {l : Launch} {e : Env} {s : State} {m : MethodId} {args : Array Value} {below : List Frame} {meth : Method} {c : Code} {g : GP} (hB : BX p s m args meth c g LM cX7_ask 3 RX7 (some .int)) {o : Int32 × Mem} : ∀ (x1 : Int32) (x2 : Int32) (V : Mem) (H : Heap) (locs : List Loc) (ls : Array Slot), f_X7_ask x1 x2 V = some o → OK g LM V s H locs → lv_has ls 3 [(0, .ref (ad g 0)), (1, .int x1), (2, .int x2)] → W p l e rm_X7_ask s m args below meth c H locs 0 0 (MQ below (QQ g LM (some (.int o.1)) o.2) args s 0 0 (Ar g LM)) (F0 m 0 ls []) := by
  obtain ⟨hx, hb, hml, hown, hT, hr, hlk, hK, hJ, hZ, hN⟩ := id hB
  intro x1 x2 V H locs ls hE hz hl
  unfold f_X7_ask at hE
  refine lv_aload_n hx hb dX7_ask_0 rfl (lv_at hl 0 rfl) ?_
  refine lv_iconst (v := (0 : Int32)) hx hb dX7_ask_1 (by decide) ?_
  refine p_X7_59 hB hz kdM_0 dX7_ask_2 (fun H locs hz => ?_)
  refine lv_aload_n hx hb dX7_ask_5 rfl (lv_at hl 0 rfl) ?_
  refine lv_iload_n hx hb dX7_ask_6 rfl (lv_at hl 1 rfl) ?_
  obtain ⟨q7, hq7, hE⟩ := x_bind hE
  refine i_X7_222 hB hz kdM_0 (c_X7_isParagraph l g  hq7) ⟨(Nat.le_of_ble_eq_true rfl), (Nat.le_of_ble_eq_true rfl)⟩ hl.1 (Nat.le_of_ble_eq_true rfl) dX7_ask_7 (fun H locs hz => ?_)
  refine lv_if_eq (tgt := 23) hx hb dX7_ask_10 (by decide) (fun c10 => ?_) (fun c10 => ?_)
  · have hE := (if_pos c10).symm.trans hE
    refine lv_ldc (v := (-1000001 : Int32)) hx hb hown (hT _ kw_826) dX7_ask_23 ?_
    exact x_iret hB hz hE dX7_ask_25
  · have hE := (if_neg c10).symm.trans hE
    refine lv_iload_n hx hb dX7_ask_13 rfl (lv_at hl 2 rfl) ?_
    refine lv_i2l hx hb dX7_ask_14 rfl ?_
    refine lv_lconst (v := (0 : Int64)) hx hb dX7_ask_15 (by decide) ?_
    refine lv_lconst (v := (1 : Int64)) hx hb dX7_ask_16 (by decide) ?_
    obtain ⟨q17, hq17, hE⟩ := x_bind hE
    refine i_X7_69 hB hz (c_X7_in l g  hq17) ⟨(Nat.le_of_ble_eq_true rfl), (Nat.le_of_ble_eq_true rfl)⟩ hl.1 (Nat.le_of_ble_eq_true rfl) dX7_ask_17 (fun H locs hz => ?_)
    refine lv_if_ne (tgt := 26) hx hb dX7_ask_20 (by decide) (fun c20 => ?_) (fun c20 => ?_)
    · have hE := (if_neg c20).symm.trans hE
      refine lv_aload_n hx hb dX7_ask_26 rfl (lv_at hl 0 rfl) ?_
      refine lv_iconst (v := (0 : Int32)) hx hb dX7_ask_27 (by decide) ?_
      refine p_X7_316 hB hz kdM_0 dX7_ask_28 (fun H locs hz => ?_)
      refine lv_aload_n hx hb dX7_ask_31 rfl (lv_at hl 0 rfl) ?_
      refine lv_aload_n hx hb dX7_ask_32 rfl (lv_at hl 0 rfl) ?_
      refine g_X7_19 hB hz kdM_0 dX7_ask_33 ?_
      obtain ⟨q36, hq36, hE⟩ := x_bind hE
      refine i_X7_231 hB hz kdM_0 (c_X7_countAll l g kdM_4 hq36) ⟨(Nat.le_of_ble_eq_true rfl), (Nat.le_of_ble_eq_true rfl)⟩ hl.1 (Nat.le_of_ble_eq_true rfl) dX7_ask_36 (fun H locs hz => ?_)
      refine lv_iload_n hx hb dX7_ask_39 rfl (lv_at hl 2 rfl) ?_
      refine lv_if_ne (tgt := 51) hx hb dX7_ask_40 (by decide) (fun c40 => ?_) (fun c40 => ?_)
      · have hE := (if_neg c40).symm.trans hE
        refine lv_aload_n hx hb dX7_ask_51 rfl (lv_at hl 0 rfl) ?_
        refine lv_iload_n hx hb dX7_ask_52 rfl (lv_at hl 1 rfl) ?_
        obtain ⟨q53, hq53, hE⟩ := x_bind hE
        refine i_X7_328 hB hz kdM_0 (c_X7_markOf l g  hq53) ⟨(Nat.le_of_ble_eq_true rfl), (Nat.le_of_ble_eq_true rfl)⟩ hl.1 (Nat.le_of_ble_eq_true rfl) dX7_ask_53 (fun H locs hz => ?_)
        exact x_iret hB hz hE dX7_ask_56
      · have hE := (if_pos c40).symm.trans hE
        refine lv_aload_n hx hb dX7_ask_43 rfl (lv_at hl 0 rfl) ?_
        refine lv_iload_n hx hb dX7_ask_44 rfl (lv_at hl 1 rfl) ?_
        obtain ⟨q45, hq45, hE⟩ := x_bind hE
        refine i_X7_331 hB hz kdM_0 (c_X7_sizeOf l g  hq45) ⟨(Nat.le_of_ble_eq_true rfl), (Nat.le_of_ble_eq_true rfl)⟩ hl.1 (Nat.le_of_ble_eq_true rfl) dX7_ask_45 (fun H locs hz => ?_)
        refine lv_goto (tgt := 56) hx hb dX7_ask_48 (by decide) ?_
        exact x_iret hB hz hE dX7_ask_56
    · have hE := (if_pos c20).symm.trans hE
      refine lv_ldc (v := (-1000001 : Int32)) hx hb hown (hT _ kw_826) dX7_ask_23 ?_
      exact x_iret hB hz hE dX7_ask_25
theorem c_X7_ask (l : Launch) (g : GP) {x1 : Int32} {x2 : Int32} {V : Mem} {o : Int32 × Mem} (hE : f_X7_ask x1 x2 V = some o) : CT l g LM yX7_ask cX7_ask 3 (some .int) rm_X7_ask [.ref (ad g 0), .int x1, .int x2] V (some (.int o.1)) o.2 := by
  refine ct_of (by decide) (Nat.le_of_ble_eq_true rfl) ?_
  intro p e s m args below meth c ls hB hz hl
  exact w_X7_ask hB _ _ _ _ _ _  hE hz hl
def rm_X7_trace : Room := { frames := 1, cells := 0, slots := 0, locals := 25 }
set_option maxHeartbeats 4000000 in
set_option maxRecDepth 100000 in
theorem w_X7_trace {p : Program} {l : Launch} {e : Env} {s : State} {m : MethodId} {args : Array Value} {below : List Frame} {meth : Method} {c : Code} {g : GP} (hB : BX p s m args meth c g LM cX7_trace 2 RX7 (some .int)) {o : Int32 × Mem} : ∀ (x1 : Int32) (V : Mem) (H : Heap) (locs : List Loc) (ls : Array Slot), f_X7_trace x1 V = some o → OK g LM V s H locs → lv_has ls 2 [(0, .ref (ad g 0)), (1, .int x1)] → W p l e rm_X7_trace s m args below meth c H locs 0 0 (MQ below (QQ g LM (some (.int o.1)) o.2) args s 0 0 (Ar g LM)) (F0 m 0 ls []) := by
  obtain ⟨hx, hb, hml, hown, hT, hr, hlk, hK, hJ, hZ, hN⟩ := id hB
  intro x1 V H locs ls hE hz hl
  unfold f_X7_trace at hE
  refine lv_aload_n hx hb dX7_trace_0 rfl (lv_at hl 0 rfl) ?_
  refine lv_iconst (v := (0 : Int32)) hx hb dX7_trace_1 (by decide) ?_
  refine p_X7_59 hB hz kdM_0 dX7_trace_2 (fun H locs hz => ?_)
  refine lv_iload_n hx hb dX7_trace_5 rfl (lv_at hl 1 rfl) ?_
  refine lv_i2l hx hb dX7_trace_6 rfl ?_
  refine lv_lconst (v := (0 : Int64)) hx hb dX7_trace_7 (by decide) ?_
  refine lv_aload_n hx hb dX7_trace_8 rfl (lv_at hl 0 rfl) ?_
  refine g_X7_316 hB hz kdM_0 dX7_trace_9 ?_
  refine lv_iconst (v := (1 : Int32)) hx hb dX7_trace_12 (by decide) ?_
  refine lv_isub hx hb dX7_trace_13 ?_
  refine lv_i2l hx hb dX7_trace_14 rfl ?_
  obtain ⟨q15, hq15, hE⟩ := x_bind hE
  refine i_X7_69 hB hz (c_X7_in l g  hq15) ⟨(Nat.le_of_ble_eq_true rfl), (Nat.le_of_ble_eq_true rfl)⟩ hl.1 (Nat.le_of_ble_eq_true rfl) dX7_trace_15 (fun H locs hz => ?_)
  refine lv_if_eq (tgt := 30) hx hb dX7_trace_18 (by decide) (fun c18 => ?_) (fun c18 => ?_)
  · have hE := (if_pos c18).symm.trans hE
    refine lv_ldc (v := (-1000000 : Int32)) hx hb hown (hT _ kw_866) dX7_trace_30 ?_
    exact x_iret hB hz hE dX7_trace_32
  · have hE := (if_neg c18).symm.trans hE
    refine lv_aload_n hx hb dX7_trace_21 rfl (lv_at hl 0 rfl) ?_
    refine g_X7_56 hB hz kdM_0 dX7_trace_22 ?_
    refine lv_iload_n hx hb dX7_trace_25 rfl (lv_at hl 1 rfl) ?_
    obtain ⟨hi26, hE⟩ := x_chk hE
    refine x_iald (n := 16) hB hz kdM_16 hi26 dX7_trace_26 ?_
    refine lv_goto (tgt := 32) hx hb dX7_trace_27 (by decide) ?_
    exact x_iret hB hz hE dX7_trace_32
theorem c_X7_trace (l : Launch) (g : GP) {x1 : Int32} {V : Mem} {o : Int32 × Mem} (hE : f_X7_trace x1 V = some o) : CT l g LM yX7_trace cX7_trace 2 (some .int) rm_X7_trace [.ref (ad g 0), .int x1] V (some (.int o.1)) o.2 := by
  refine ct_of (by decide) (Nat.le_of_ble_eq_true rfl) ?_
  intro p e s m args below meth c ls hB hz hl
  exact w_X7_trace hB _ _ _ _ _  hE hz hl
def rm_X7_count : Room := { frames := 3, cells := 0, slots := 0, locals := 71 }
set_option maxHeartbeats 4000000 in
set_option maxRecDepth 100000 in
theorem w_X7_count_71 {p : Program} {l : Launch} {e : Env} {s : State} {m : MethodId} {args : Array Value} {below : List Frame} {meth : Method} {c : Code} {g : GP} (hB : BX p s m args meth c g LM cX7_count 4 RX7 (some .int)) {o : Int32 × Mem} {k50 : Int32 → Int32 → Mem → Option (Int32 × Mem)} (hk50 : ∀ (x2 : Int32) (x3 : Int32) (V : Mem) (H : Heap) (locs : List Loc) (ls : Array Slot), k50 x2 x3 V = some o → OK g LM V s H locs → lv_has ls 4 [(0, .ref (ad g 0)), (2, .int x2), (3, .int x3)] → W p l e rm_X7_count s m args below meth c H locs 0 0 (MQ below (QQ g LM (some (.int o.1)) o.2) args s 0 0 (Ar g LM)) (F0 m 50 ls [])) : ∀ (x3 : Int32) (s0 : Int32) (s1 : Int32) (V : Mem) (H : Heap) (locs : List Loc) (ls : Array Slot), f_X7_count_71 k50 x3 s0 s1 V = some o → OK g LM V s H locs → lv_has ls 4 [(0, .ref (ad g 0)), (3, .int x3)] → W p l e rm_X7_count s m args below meth c H locs 0 0 (MQ below (QQ g LM (some (.int o.1)) o.2) args s 0 0 (Ar g LM)) (F0 m 71 ls [.int s1, .int s0]) := by
  obtain ⟨hx, hb, hml, hown, hT, hr, hlk, hK, hJ, hZ, hN⟩ := id hB
  intro x3 s0 s1 V H locs ls hE hz hl
  unfold f_X7_count_71 at hE
  refine lv_iadd hx hb dX7_count_71 ?_
  refine lv_istore_n (lv' := [(2, .int (s0 + s1)), (0, .ref (ad g 0)), (3, .int x3)]) hx hb dX7_count_72 rfl hl (by decide) rfl (fun ls hl => ?_)
  refine lv_iinc (v := (x3 + 1)) (lv' := [(3, .int (x3 + 1)), (2, .int (s0 + s1)), (0, .ref (ad g 0))]) hx hb dX7_count_73 hl (k := 2) rfl rfl (by decide) rfl (fun ls hl => ?_)
  refine lv_goto (tgt := 50) hx hb dX7_count_76 (by decide) ?_
  exact hk50 _ _ _ _ _ _  hE hz (lv_sub hl [2, 1, 0] rfl)

set_option maxHeartbeats 4000000 in
set_option maxRecDepth 100000 in
theorem w_X7_count_50 {p : Program} {l : Launch} {e : Env} {s : State} {m : MethodId} {args : Array Value} {below : List Frame} {meth : Method} {c : Code} {g : GP} (hB : BX p s m args meth c g LM cX7_count 4 RX7 (some .int)) {o : Int32 × Mem} : ∀ (n : Nat), ∀ (x2 : Int32) (x3 : Int32) (V : Mem) (H : Heap) (locs : List Loc) (ls : Array Slot), f_X7_count_50 n x2 x3 V = some o → OK g LM V s H locs → lv_has ls 4 [(0, .ref (ad g 0)), (2, .int x2), (3, .int x3)] → W p l e rm_X7_count s m args below meth c H locs 0 0 (MQ below (QQ g LM (some (.int o.1)) o.2) args s 0 0 (Ar g LM)) (F0 m 50 ls []) := by
  obtain ⟨hx, hb, hml, hown, hT, hr, hlk, hK, hJ, hZ, hN⟩ := id hB
  intro n
  induction n with
  | zero =>
    intro x2 x3 V H locs ls hE hz hl
    exact absurd (show (none : Option (Int32 × Mem)) = some o from hE) (by simp)
  | succ n ih =>
    intro x2 x3 V H locs ls hE hz hl
    unfold f_X7_count_50 at hE
    refine lv_iload_n hx hb dX7_count_50 rfl (lv_at hl 2 rfl) ?_
    refine lv_bipush (v := (8 : Int32)) hx hb dX7_count_51 (by decide) ?_
    refine lv_icmp_ge (tgt := 79) hx hb dX7_count_53 (by decide) (fun c53 => ?_) (fun c53 => ?_)
    · have hE := (if_pos c53).symm.trans hE
      refine lv_iload_n hx hb dX7_count_79 rfl (lv_at hl 1 rfl) ?_
      exact x_iret hB hz hE dX7_count_80
    · have hE := (if_neg c53).symm.trans hE
      refine lv_iload_n hx hb dX7_count_56 rfl (lv_at hl 1 rfl) ?_
      refine lv_aload_n hx hb dX7_count_57 rfl (lv_at hl 0 rfl) ?_
      refine g_X7_7 hB hz kdM_0 dX7_count_58 ?_
      refine lv_iload_n hx hb dX7_count_61 rfl (lv_at hl 2 rfl) ?_
      obtain ⟨hi62, hE⟩ := x_chk hE
      refine x_iald (n := 8) hB hz kdM_1 hi62 dX7_count_62 ?_
      refine lv_if_lt (tgt := 70) hx hb dX7_count_63 (by decide) (fun c63 => ?_) (fun c63 => ?_)
      · have hE := (if_pos c63).symm.trans hE
        refine lv_iconst (v := (0 : Int32)) hx hb dX7_count_70 (by decide) ?_
        exact w_X7_count_71 hB ih _ _ _ _ _ _ _  hE hz (lv_sub hl [0, 2] rfl)
      · have hE := (if_neg c63).symm.trans hE
        refine lv_iconst (v := (1 : Int32)) hx hb dX7_count_66 (by decide) ?_
        refine lv_goto (tgt := 71) hx hb dX7_count_67 (by decide) ?_
        exact w_X7_count_71 hB ih _ _ _ _ _ _ _  hE hz (lv_sub hl [0, 2] rfl)

set_option maxHeartbeats 4000000 in
set_option maxRecDepth 100000 in
theorem w_X7_count_117 {p : Program} {l : Launch} {e : Env} {s : State} {m : MethodId} {args : Array Value} {below : List Frame} {meth : Method} {c : Code} {g : GP} (hB : BX p s m args meth c g LM cX7_count 4 RX7 (some .int)) {o : Int32 × Mem} {k90 : Int32 → Int32 → Mem → Option (Int32 × Mem)} (hk90 : ∀ (x2 : Int32) (x3 : Int32) (V : Mem) (H : Heap) (locs : List Loc) (ls : Array Slot), k90 x2 x3 V = some o → OK g LM V s H locs → lv_has ls 4 [(0, .ref (ad g 0)), (2, .int x2), (3, .int x3)] → W p l e rm_X7_count s m args below meth c H locs 0 0 (MQ below (QQ g LM (some (.int o.1)) o.2) args s 0 0 (Ar g LM)) (F0 m 90 ls [])) : ∀ (x3 : Int32) (s0 : Int32) (s1 : Int32) (V : Mem) (H : Heap) (locs : List Loc) (ls : Array Slot), f_X7_count_117 k90 x3 s0 s1 V = some o → OK g LM V s H locs → lv_has ls 4 [(0, .ref (ad g 0)), (3, .int x3)] → W p l e rm_X7_count s m args below meth c H locs 0 0 (MQ below (QQ g LM (some (.int o.1)) o.2) args s 0 0 (Ar g LM)) (F0 m 117 ls [.int s1, .int s0]) := by
  obtain ⟨hx, hb, hml, hown, hT, hr, hlk, hK, hJ, hZ, hN⟩ := id hB
  intro x3 s0 s1 V H locs ls hE hz hl
  unfold f_X7_count_117 at hE
  refine lv_iadd hx hb dX7_count_117 ?_
  refine lv_istore_n (lv' := [(2, .int (s0 + s1)), (0, .ref (ad g 0)), (3, .int x3)]) hx hb dX7_count_118 rfl hl (by decide) rfl (fun ls hl => ?_)
  refine lv_iinc (v := (x3 + 1)) (lv' := [(3, .int (x3 + 1)), (2, .int (s0 + s1)), (0, .ref (ad g 0))]) hx hb dX7_count_119 hl (k := 2) rfl rfl (by decide) rfl (fun ls hl => ?_)
  refine lv_goto (tgt := 90) hx hb dX7_count_122 (by decide) ?_
  exact hk90 _ _ _ _ _ _  hE hz (lv_sub hl [2, 1, 0] rfl)

set_option maxHeartbeats 4000000 in
set_option maxRecDepth 100000 in
theorem w_X7_count_90 {p : Program} {l : Launch} {e : Env} {s : State} {m : MethodId} {args : Array Value} {below : List Frame} {meth : Method} {c : Code} {g : GP} (hB : BX p s m args meth c g LM cX7_count 4 RX7 (some .int)) {o : Int32 × Mem} : ∀ (n : Nat), ∀ (x2 : Int32) (x3 : Int32) (V : Mem) (H : Heap) (locs : List Loc) (ls : Array Slot), f_X7_count_90 n x2 x3 V = some o → OK g LM V s H locs → lv_has ls 4 [(0, .ref (ad g 0)), (2, .int x2), (3, .int x3)] → W p l e rm_X7_count s m args below meth c H locs 0 0 (MQ below (QQ g LM (some (.int o.1)) o.2) args s 0 0 (Ar g LM)) (F0 m 90 ls []) := by
  obtain ⟨hx, hb, hml, hown, hT, hr, hlk, hK, hJ, hZ, hN⟩ := id hB
  intro n
  induction n with
  | zero =>
    intro x2 x3 V H locs ls hE hz hl
    exact absurd (show (none : Option (Int32 × Mem)) = some o from hE) (by simp)
  | succ n ih =>
    intro x2 x3 V H locs ls hE hz hl
    unfold f_X7_count_90 at hE
    refine lv_iload_n hx hb dX7_count_90 rfl (lv_at hl 2 rfl) ?_
    refine lv_aload_n hx hb dX7_count_91 rfl (lv_at hl 0 rfl) ?_
    refine g_X7_19 hB hz kdM_0 dX7_count_92 ?_
    refine lv_iconst (v := (0 : Int32)) hx hb dX7_count_95 (by decide) ?_
    obtain ⟨hi96, hE⟩ := x_chk hE
    refine x_iald (n := 76) hB hz kdM_4 hi96 dX7_count_96 ?_
    refine lv_icmp_ge (tgt := 125) hx hb dX7_count_97 (by decide) (fun c97 => ?_) (fun c97 => ?_)
    · have hE := (if_pos c97).symm.trans hE
      refine lv_iload_n hx hb dX7_count_125 rfl (lv_at hl 1 rfl) ?_
      exact x_iret hB hz hE dX7_count_126
    · have hE := (if_neg c97).symm.trans hE
      refine lv_iload_n hx hb dX7_count_100 rfl (lv_at hl 1 rfl) ?_
      refine lv_aload_n hx hb dX7_count_101 rfl (lv_at hl 0 rfl) ?_
      refine g_X7_19 hB hz kdM_0 dX7_count_102 ?_
      refine lv_iload_n hx hb dX7_count_105 rfl (lv_at hl 2 rfl) ?_
      obtain ⟨q106, hq106, hE⟩ := x_bind hE
      refine i_X7_194 hB hz (c_X7_isLabelled l g kdM_4 hq106) ⟨(Nat.le_of_ble_eq_true rfl), (Nat.le_of_ble_eq_true rfl)⟩ hl.1 (Nat.le_of_ble_eq_true rfl) dX7_count_106 (fun H locs hz => ?_)
      refine lv_if_eq (tgt := 116) hx hb dX7_count_109 (by decide) (fun c109 => ?_) (fun c109 => ?_)
      · have hE := (if_pos c109).symm.trans hE
        refine lv_iconst (v := (0 : Int32)) hx hb dX7_count_116 (by decide) ?_
        exact w_X7_count_117 hB ih _ _ _ _ _ _ _  hE hz (lv_sub hl [0, 2] rfl)
      · have hE := (if_neg c109).symm.trans hE
        refine lv_iconst (v := (1 : Int32)) hx hb dX7_count_112 (by decide) ?_
        refine lv_goto (tgt := 117) hx hb dX7_count_113 (by decide) ?_
        exact w_X7_count_117 hB ih _ _ _ _ _ _ _  hE hz (lv_sub hl [0, 2] rfl)

set_option maxHeartbeats 4000000 in
set_option maxRecDepth 100000 in
theorem w_X7_count {p : Program} {l : Launch} {e : Env} {s : State} {m : MethodId} {args : Array Value} {below : List Frame} {meth : Method} {c : Code} {g : GP} (hB : BX p s m args meth c g LM cX7_count 4 RX7 (some .int)) {o : Int32 × Mem} : ∀ (x1 : Int32) (V : Mem) (H : Heap) (locs : List Loc) (ls : Array Slot), f_X7_count x1 V = some o → OK g LM V s H locs → lv_has ls 4 [(0, .ref (ad g 0)), (1, .int x1)] → W p l e rm_X7_count s m args below meth c H locs 0 0 (MQ below (QQ g LM (some (.int o.1)) o.2) args s 0 0 (Ar g LM)) (F0 m 0 ls []) := by
  obtain ⟨hx, hb, hml, hown, hT, hr, hlk, hK, hJ, hZ, hN⟩ := id hB
  intro x1 V H locs ls hE hz hl
  unfold f_X7_count at hE
  refine lv_aload_n hx hb dX7_count_0 rfl (lv_at hl 0 rfl) ?_
  refine lv_iconst (v := (0 : Int32)) hx hb dX7_count_1 (by decide) ?_
  refine p_X7_59 hB hz kdM_0 dX7_count_2 (fun H locs hz => ?_)
  refine lv_iconst (v := (0 : Int32)) hx hb dX7_count_5 (by decide) ?_
  refine lv_istore_n (lv' := [(2, .int (0 : Int32)), (0, .ref (ad g 0)), (1, .int x1)]) hx hb dX7_count_6 rfl hl (by decide) rfl (fun ls hl => ?_)
  refine lv_iload_n hx hb dX7_count_7 rfl (lv_at hl 2 rfl) ?_
  by_cases c8_0 : x1 = (0 : Int32)
  · have hE := (if_pos c8_0).symm.trans hE
    refine lv_tableIn (tgt := 48) hx hb dX7_count_8 (by rw [c8_0]; decide) (by rw [c8_0]; decide) (by rw [c8_0]; rfl) (by decide) ?_
    refine lv_iconst (v := (0 : Int32)) hx hb dX7_count_48 (by decide) ?_
    refine lv_istore_n (lv' := [(3, .int (0 : Int32)), (2, .int (0 : Int32)), (0, .ref (ad g 0)), (1, .int x1)]) hx hb dX7_count_49 rfl hl (by decide) rfl (fun ls hl => ?_)
    exact w_X7_count_50 hB  _ _ _ _ _ _ _  hE hz (lv_sub hl [2, 1, 0] rfl)
  have hE := (if_neg c8_0).symm.trans hE
  by_cases c8_1 : x1 = (1 : Int32)
  · have hE := (if_pos c8_1).symm.trans hE
    refine lv_tableIn (tgt := 81) hx hb dX7_count_8 (by rw [c8_1]; decide) (by rw [c8_1]; decide) (by rw [c8_1]; rfl) (by decide) ?_
    refine lv_aload_n hx hb dX7_count_81 rfl (lv_at hl 1 rfl) ?_
    refine g_X7_19 hB hz kdM_0 dX7_count_82 ?_
    refine lv_iconst (v := (0 : Int32)) hx hb dX7_count_85 (by decide) ?_
    obtain ⟨hi86, hE⟩ := x_chk hE
    refine x_iald (n := 76) hB hz kdM_4 hi86 dX7_count_86 ?_
    exact x_iret hB hz hE dX7_count_87
  have hE := (if_neg c8_1).symm.trans hE
  by_cases c8_2 : x1 = (2 : Int32)
  · have hE := (if_pos c8_2).symm.trans hE
    refine lv_tableIn (tgt := 88) hx hb dX7_count_8 (by rw [c8_2]; decide) (by rw [c8_2]; decide) (by rw [c8_2]; rfl) (by decide) ?_
    refine lv_iconst (v := (0 : Int32)) hx hb dX7_count_88 (by decide) ?_
    refine lv_istore_n (lv' := [(3, .int (0 : Int32)), (2, .int (0 : Int32)), (0, .ref (ad g 0)), (1, .int x1)]) hx hb dX7_count_89 rfl hl (by decide) rfl (fun ls hl => ?_)
    exact w_X7_count_90 hB  _ _ _ _ _ _ _  hE hz (lv_sub hl [2, 1, 0] rfl)
  have hE := (if_neg c8_2).symm.trans hE
  by_cases c8_3 : x1 = (3 : Int32)
  · have hE := (if_pos c8_3).symm.trans hE
    refine lv_tableIn (tgt := 127) hx hb dX7_count_8 (by rw [c8_3]; decide) (by rw [c8_3]; decide) (by rw [c8_3]; rfl) (by decide) ?_
    refine lv_aload_n hx hb dX7_count_127 rfl (lv_at hl 1 rfl) ?_
    refine lv_aload_n hx hb dX7_count_128 rfl (lv_at hl 1 rfl) ?_
    refine g_X7_19 hB hz kdM_0 dX7_count_129 ?_
    obtain ⟨q132, hq132, hE⟩ := x_bind hE
    refine i_X7_231 hB hz kdM_0 (c_X7_countAll l g kdM_4 hq132) ⟨(Nat.le_of_ble_eq_true rfl), (Nat.le_of_ble_eq_true rfl)⟩ hl.1 (Nat.le_of_ble_eq_true rfl) dX7_count_132 (fun H locs hz => ?_)
    refine lv_aload_n hx hb dX7_count_135 rfl (lv_at hl 1 rfl) ?_
    refine lv_aload_n hx hb dX7_count_136 rfl (lv_at hl 1 rfl) ?_
    refine g_X7_19 hB hz kdM_0 dX7_count_137 ?_
    obtain ⟨q140, hq140, hE⟩ := x_bind hE
    refine i_X7_309 hB hz kdM_0 (c_X7_lastTogether l g kdM_4 hq140) ⟨(Nat.le_of_ble_eq_true rfl), (Nat.le_of_ble_eq_true rfl)⟩ hl.1 (Nat.le_of_ble_eq_true rfl) dX7_count_140 (fun H locs hz => ?_)
    exact x_iret hB hz hE dX7_count_143
  have hE := (if_neg c8_3).symm.trans hE
  by_cases c8_4 : x1 = (4 : Int32)
  · have hE := (if_pos c8_4).symm.trans hE
    refine lv_tableIn (tgt := 144) hx hb dX7_count_8 (by rw [c8_4]; decide) (by rw [c8_4]; decide) (by rw [c8_4]; rfl) (by decide) ?_
    refine lv_aload_n hx hb dX7_count_144 rfl (lv_at hl 1 rfl) ?_
    refine g_X7_162 hB hz kdM_0 dX7_count_145 ?_
    exact x_iret hB hz hE dX7_count_148
  have hE := (if_neg c8_4).symm.trans hE
  by_cases c8_5 : x1 = (5 : Int32)
  · have hE := (if_pos c8_5).symm.trans hE
    refine lv_tableIn (tgt := 149) hx hb dX7_count_8 (by rw [c8_5]; decide) (by rw [c8_5]; decide) (by rw [c8_5]; rfl) (by decide) ?_
    refine lv_aload_n hx hb dX7_count_149 rfl (lv_at hl 1 rfl) ?_
    refine g_X7_86 hB hz kdM_0 dX7_count_150 ?_
    exact x_iret hB hz hE dX7_count_153
  have hE := (if_neg c8_5).symm.trans hE
  have nc8_0 := x_nei c8_0 (k := 0) (by decide)
  have nc8_1 := x_nei c8_1 (k := 1) (by decide)
  have nc8_2 := x_nei c8_2 (k := 2) (by decide)
  have nc8_3 := x_nei c8_3 (k := 3) (by decide)
  have nc8_4 := x_nei c8_4 (k := 4) (by decide)
  have nc8_5 := x_nei c8_5 (k := 5) (by decide)
  refine lv_tableOut (tgt := 154) hx hb dX7_count_8 (by omega) (by decide) ?_
  refine lv_ldc (v := (-1000001 : Int32)) hx hb hown (hT _ kw_826) dX7_count_154 ?_
  exact x_iret hB hz hE dX7_count_156
theorem c_X7_count (l : Launch) (g : GP) {x1 : Int32} {V : Mem} {o : Int32 × Mem} (hE : f_X7_count x1 V = some o) : CT l g LM yX7_count cX7_count 4 (some .int) rm_X7_count [.ref (ad g 0), .int x1] V (some (.int o.1)) o.2 := by
  refine ct_of (by decide) (Nat.le_of_ble_eq_true rfl) ?_
  intro p e s m args below meth c ls hB hz hl
  exact w_X7_count hB _ _ _ _ _  hE hz hl
def rm_X7_status : Room := { frames := 0, cells := 0, slots := 0, locals := 0 }
set_option maxHeartbeats 4000000 in
set_option maxRecDepth 100000 in
theorem w_X7_status {p : Program} {l : Launch} {e : Env} {s : State} {m : MethodId} {args : Array Value} {below : List Frame} {meth : Method} {c : Code} {g : GP} (hB : BX p s m args meth c g LM cX7_status 1 RX7 (some .int)) {o : Int32 × Mem} : ∀ (V : Mem) (H : Heap) (locs : List Loc) (ls : Array Slot), f_X7_status V = some o → OK g LM V s H locs → lv_has ls 1 [(0, .ref (ad g 0))] → W p l e rm_X7_status s m args below meth c H locs 0 0 (MQ below (QQ g LM (some (.int o.1)) o.2) args s 0 0 (Ar g LM)) (F0 m 0 ls []) := by
  obtain ⟨hx, hb, hml, hown, hT, hr, hlk, hK, hJ, hZ, hN⟩ := id hB
  intro V H locs ls hE hz hl
  unfold f_X7_status at hE
  refine lv_aload_n hx hb dX7_status_0 rfl (lv_at hl 0 rfl) ?_
  refine lv_iconst (v := (0 : Int32)) hx hb dX7_status_1 (by decide) ?_
  refine p_X7_59 hB hz kdM_0 dX7_status_2 (fun H locs hz => ?_)
  refine lv_aload_n hx hb dX7_status_5 rfl (lv_at hl 0 rfl) ?_
  refine g_X7_63 hB hz kdM_0 dX7_status_6 ?_
  exact x_iret hB hz hE dX7_status_9
theorem c_X7_status (l : Launch) (g : GP) {V : Mem} {o : Int32 × Mem} (hE : f_X7_status V = some o) : CT l g LM yX7_status cX7_status 1 (some .int) rm_X7_status [.ref (ad g 0)] V (some (.int o.1)) o.2 := by
  refine ct_of (by decide) (Nat.le_of_ble_eq_true rfl) ?_
  intro p e s m args below meth c ls hB hz hl
  exact w_X7_status hB  _ _ _ _  hE hz hl

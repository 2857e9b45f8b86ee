def rm_X7_in : Room := { frames := 0, cells := 0, slots := 0, locals := 0 }
set_option maxHeartbeats 4000000 in
set_option maxRecDepth 100000 in
theorem w_X7_in {p : Program} {l : Launch} {e : Env} {s : State} {m : MethodId} {args : Array Value} {below : List Frame} {meth : Method} {c : Code} {g : GP} (hB : BX p s m args meth c g LM cX7_in 6 RX7 (some .boolean)) {o : Int32 × Mem} : ∀ (x0 : Int64) (x2 : Int64) (x4 : Int64) (V : Mem) (H : Heap) (locs : List Loc) (ls : Array Slot), f_X7_in x0 x2 x4 V = some o → OK g LM V s H locs → lv_has ls 6 [(0, .long x0), (2, .long x2), (4, .long x4)] → W p l e rm_X7_in s m args below meth c H locs 0 0 (MQ below (QQ g LM (some (.int o.1)) o.2) args s 0 0 (Ar g LM)) (F0 m 0 ls []) := by
  obtain ⟨hx, hb, hml, hown, hT, hr, hlk, hK, hJ, hZ, hN⟩ := id hB
  intro x0 x2 x4 V H locs ls hE hz hl
  unfold f_X7_in at hE
  refine lv_lload_n hx hb dX7_in_0 rfl (lv_at hl 0 rfl) ?_
  refine lv_lload_n hx hb dX7_in_1 rfl (lv_at hl 1 rfl) ?_
  refine W.lcmp hx hb dX7_in_2 ?_
  refine lv_if_lt (tgt := 17) hx hb dX7_in_3 (by decide) (fun c3 => ?_) (fun c3 => ?_)
  · have hE := (if_pos c3).symm.trans hE
    refine lv_iconst (v := (0 : Int32)) hx hb dX7_in_17 (by decide) ?_
    exact x_zret hB hz hE (by decide) dX7_in_18
  · have hE := (if_neg c3).symm.trans hE
    refine lv_lload_n hx hb dX7_in_6 rfl (lv_at hl 0 rfl) ?_
    refine lv_lload hx hb dX7_in_7 (lv_at hl 2 rfl) ?_
    refine W.lcmp hx hb dX7_in_9 ?_
    refine lv_if_gt (tgt := 17) hx hb dX7_in_10 (by decide) (fun c10 => ?_) (fun c10 => ?_)
    · have hE := (if_pos c10).symm.trans hE
      refine lv_iconst (v := (0 : Int32)) hx hb dX7_in_17 (by decide) ?_
      exact x_zret hB hz hE (by decide) dX7_in_18
    · have hE := (if_neg c10).symm.trans hE
      refine lv_iconst (v := (1 : Int32)) hx hb dX7_in_13 (by decide) ?_
      refine lv_goto (tgt := 18) hx hb dX7_in_14 (by decide) ?_
      exact x_zret hB hz hE (by decide) dX7_in_18
theorem c_X7_in (l : Launch) (g : GP) {x0 : Int64} {x2 : Int64} {x4 : Int64} {V : Mem} {o : Int32 × Mem} (hE : f_X7_in x0 x2 x4 V = some o) : CT l g LM yX7_in cX7_in 6 (some .boolean) rm_X7_in [.long x0, .long x2, .long x4] V (some (.int o.1)) o.2 := by
  refine ct_of (by decide) (Nat.le_of_ble_eq_true rfl) ?_
  intro p e s m args below meth c ls hB hz hl
  exact w_X7_in hB _ _ _ _ _ _ _  hE hz hl
def rm_X7_finding : Room := { frames := 0, cells := 0, slots := 0, locals := 0 }
set_option maxHeartbeats 4000000 in
set_option maxRecDepth 100000 in
theorem w_X7_finding {p : Program} {l : Launch} {e : Env} {s : State} {m : MethodId} {args : Array Value} {below : List Frame} {meth : Method} {c : Code} {g : GP} (hB : BX p s m args meth c g LM cX7_finding 2 RX7 (some .int)) {o : Int32 × Mem} : ∀ (x1 : Int32) (V : Mem) (H : Heap) (locs : List Loc) (ls : Array Slot), f_X7_finding x1 V = some o → OK g LM V s H locs → lv_has ls 2 [(0, .ref (ad g 0)), (1, .int x1)] → W p l e rm_X7_finding s m args below meth c H locs 0 0 (MQ below (QQ g LM (some (.int o.1)) o.2) args s 0 0 (Ar g LM)) (F0 m 0 ls []) := by
  obtain ⟨hx, hb, hml, hown, hT, hr, hlk, hK, hJ, hZ, hN⟩ := id hB
  intro x1 V H locs ls hE hz hl
  unfold f_X7_finding at hE
  refine lv_aload_n hx hb dX7_finding_0 rfl (lv_at hl 0 rfl) ?_
  refine lv_iload_n hx hb dX7_finding_1 rfl (lv_at hl 1 rfl) ?_
  refine p_X7_63 hB hz kdM_0 dX7_finding_2 (fun H locs hz => ?_)
  refine lv_ldc (v := (-1000010 : Int32)) hx hb hown (hT _ kw_831) dX7_finding_5 ?_
  refine lv_iload_n hx hb dX7_finding_7 rfl (lv_at hl 1 rfl) ?_
  refine lv_isub hx hb dX7_finding_8 ?_
  exact x_iret hB hz hE dX7_finding_9
theorem c_X7_finding (l : Launch) (g : GP) {x1 : Int32} {V : Mem} {o : Int32 × Mem} (hE : f_X7_finding x1 V = some o) : CT l g LM yX7_finding cX7_finding 2 (some .int) rm_X7_finding [.ref (ad g 0), .int x1] V (some (.int o.1)) o.2 := by
  refine ct_of (by decide) (Nat.le_of_ble_eq_true rfl) ?_
  intro p e s m args below meth c ls hB hz hl
  exact w_X7_finding hB _ _ _ _ _  hE hz hl
def rm_X7_isRow : Room := { frames := 1, cells := 0, slots := 0, locals := 25 }
theorem i_X7_69 {p : Program} {l : Launch} {e : Env} {R : Room} {s : State} {m : MethodId} {args : Array Value} {below : List Frame} {meth : Method} {c : Code} {H : Heap} {locs : List Loc} {Q : State → Prop} {cc : ByteArray} {pc : Nat} {ls : Array Slot} {rest : List Value} {g : GP} {V : Mem} {nL : Nat} {ret : Option FieldType} (hB : BX p s m args meth c g LM cc nL RX7 ret) (hz : OK g LM V s H locs) {a0 : Int64} {a1 : Int64} {a2 : Int64} {r : Int32} {V1 : Mem} (hM : CT l g LM yX7_in cX7_in 6 (some .boolean) rm_X7_in [.long a0, .long a1, .long a2] V (some (.int r)) V1) (hR : rm_X7_in.frames + 1 ≤ R.frames ∧ 8 + (6 + 11) + rm_X7_in.locals ≤ R.locals) (hsz : ls.size = nL) (hrest : (rest.map fun v => v.category).sum ≤ 8) (hdg : decode cc pc = .ok (.invokestatic 69, 3)) (kk : ∀ (H1 : Heap) (locs1 : List Loc), OK g LM V1 s H1 locs1 → W p l e R s m args below meth c H1 locs1 0 0 Q (F0 m (pc + 3) ls (.int r :: rest))) : W p l e R s m args below meth c H locs 0 0 Q (F0 m pc ls (.long a2 :: .long a1 :: .long a0 :: rest)) :=
  x_cs (As := [.long a0, .long a1, .long a2]) (n := 3) hB hz hM rfl rfl kw_824 kw_68 kw_822 kw_823 (by decide +kernel) rfl hR hsz hrest hdg kk
set_option maxHeartbeats 4000000 in
set_option maxRecDepth 100000 in
theorem w_X7_isRow {p : Program} {l : Launch} {e : Env} {s : State} {m : MethodId} {args : Array Value} {below : List Frame} {meth : Method} {c : Code} {g : GP} (hB : BX p s m args meth c g LM cX7_isRow 1 RX7 (some .boolean)) {o : Int32 × Mem} : ∀ (x0 : Int32) (V : Mem) (H : Heap) (locs : List Loc) (ls : Array Slot), f_X7_isRow x0 V = some o → OK g LM V s H locs → lv_has ls 1 [(0, .int x0)] → W p l e rm_X7_isRow s m args below meth c H locs 0 0 (MQ below (QQ g LM (some (.int o.1)) o.2) args s 0 0 (Ar g LM)) (F0 m 0 ls []) := by
  obtain ⟨hx, hb, hml, hown, hT, hr, hlk, hK, hJ, hZ, hN⟩ := id hB
  intro x0 V H locs ls hE hz hl
  unfold f_X7_isRow at hE
  refine lv_iload_n hx hb dX7_isRow_0 rfl (lv_at hl 0 rfl) ?_
  refine lv_i2l hx hb dX7_isRow_1 rfl ?_
  refine lv_lconst (v := (0 : Int64)) hx hb dX7_isRow_2 (by decide) ?_
  refine lv_ldc2 (v := (7 : Int64)) hx hb hown (hT _ kw_821) dX7_isRow_3 ?_
  obtain ⟨q6, hq6, hE⟩ := x_bind hE
  refine i_X7_69 hB hz (c_X7_in l g  hq6) ⟨(Nat.le_of_ble_eq_true rfl), (Nat.le_of_ble_eq_true rfl)⟩ hl.1 (Nat.le_of_ble_eq_true rfl) dX7_isRow_6 (fun H locs hz => ?_)
  obtain ⟨hv9, hE⟩ := x_if hE
  exact x_zret hB hz hE hv9 dX7_isRow_9
theorem c_X7_isRow (l : Launch) (g : GP) {x0 : Int32} {V : Mem} {o : Int32 × Mem} (hE : f_X7_isRow x0 V = some o) : CT l g LM yX7_isRow cX7_isRow 1 (some .boolean) rm_X7_isRow [.int x0] V (some (.int o.1)) o.2 := by
  refine ct_of (by decide) (Nat.le_of_ble_eq_true rfl) ?_
  intro p e s m args below meth c ls hB hz hl
  exact w_X7_isRow hB _ _ _ _ _  hE hz hl
def rm_X7_row : Room := { frames := 2, cells := 0, slots := 0, locals := 45 }
theorem i_X7_73 {p : Program} {l : Launch} {e : Env} {R : Room} {s : State} {m : MethodId} {args : Array Value} {below : List Frame} {meth : Method} {c : Code} {H : Heap} {locs : List Loc} {Q : State → Prop} {cc : ByteArray} {pc : Nat} {ls : Array Slot} {rest : List Value} {g : GP} {V : Mem} {nL : Nat} {ret : Option FieldType} (hB : BX p s m args meth c g LM cc nL RX7 ret) (hz : OK g LM V s H locs) {a0 : Int32} {r : Int32} {V1 : Mem} (hM : CT l g LM yX7_isRow cX7_isRow 1 (some .boolean) rm_X7_isRow [.int a0] V (some (.int r)) V1) (hR : rm_X7_isRow.frames + 1 ≤ R.frames ∧ 8 + (1 + 11) + rm_X7_isRow.locals ≤ R.locals) (hsz : ls.size = nL) (hrest : (rest.map fun v => v.category).sum ≤ 8) (hdg : decode cc pc = .ok (.invokestatic 73, 3)) (kk : ∀ (H1 : Heap) (locs1 : List Loc), OK g LM V1 s H1 locs1 → W p l e R s m args below meth c H1 locs1 0 0 Q (F0 m (pc + 3) ls (.int r :: rest))) : W p l e R s m args below meth c H locs 0 0 Q (F0 m pc ls (.int a0 :: rest)) :=
  x_cs (As := [.int a0]) (n := 1) hB hz hM rfl rfl kw_820 kw_68 kw_818 kw_819 (by decide +kernel) rfl hR hsz hrest hdg kk
theorem i_X7_80 {p : Program} {l : Launch} {e : Env} {R : Room} {s : State} {m : MethodId} {args : Array Value} {below : List Frame} {meth : Method} {c : Code} {H : Heap} {locs : List Loc} {Q : State → Prop} {cc : ByteArray} {pc : Nat} {ls : Array Slot} {rest : List Value} {g : GP} {V : Mem} {nL : Nat} {ret : Option FieldType} (hB : BX p s m args meth c g LM cc nL RX7 ret) (hz : OK g LM V s H locs) {i : Nat} (hk : KD LM i 6) {a0 : Int32} {r : Int32} {V1 : Mem} (hM : CT l g LM yX7_finding cX7_finding 2 (some .int) rm_X7_finding [.ref (ad g i), .int a0] V (some (.int r)) V1) (hR : rm_X7_finding.frames + 1 ≤ R.frames ∧ 8 + (2 + 11) + rm_X7_finding.locals ≤ R.locals) (hsz : ls.size = nL) (hrest : (rest.map fun v => v.category).sum ≤ 8) (hdg : decode cc pc = .ok (.invokevirtual 80, 3)) (kk : ∀ (H1 : Heap) (locs1 : List Loc), OK g LM V1 s H1 locs1 → W p l e R s m args below meth c H1 locs1 0 0 Q (F0 m (pc + 3) ls (.int r :: rest))) : W p l e R s m args below meth c H locs 0 0 Q (F0 m pc ls (.int a0 :: .ref (ad g i) :: rest)) :=
  x_cv (As := [.int a0]) (n := 1) (T := TX7) (N := 30) hB hz hM hk rfl rfl rfl rfl kw_830 kw_68 kw_827 kw_829 kw_23 (by decide +kernel) rfl hR hsz hrest hdg kk
set_option maxHeartbeats 4000000 in
set_option maxRecDepth 100000 in
theorem w_X7_row_65 {p : Program} {l : Launch} {e : Env} {s : State} {m : MethodId} {args : Array Value} {below : List Frame} {meth : Method} {c : Code} {g : GP} (hB : BX p s m args meth c g LM cX7_row 5 RX7 (some .int)) {o : Int32 × Mem} : ∀ (n : Nat), ∀ (x1 : Int32) (x3 : Int32) (x4 : Int32) (V : Mem) (H : Heap) (locs : List Loc) (ls : Array Slot), f_X7_row_65 n x1 x3 x4 V = some o → OK g LM V s H locs → lv_has ls 5 [(0, .ref (ad g 0)), (1, .int x1), (3, .int x3), (4, .int x4)] → W p l e rm_X7_row s m args below meth c H locs 0 0 (MQ below (QQ g LM (some (.int o.1)) o.2) args s 0 0 (Ar g LM)) (F0 m 65 ls []) := by
  obtain ⟨hx, hb, hml, hown, hT, hr, hlk, hK, hJ, hZ, hN⟩ := id hB
  intro n
  induction n with
  | zero =>
    intro x1 x3 x4 V H locs ls hE hz hl
    exact absurd (show (none : Option (Int32 × Mem)) = some o from hE) (by simp)
  | succ n ih =>
    intro x1 x3 x4 V H locs ls hE hz hl
    unfold f_X7_row_65 at hE
    refine lv_iload hx hb dX7_row_65 (lv_at hl 3 rfl) ?_
    refine lv_bipush (v := (40 : Int32)) hx hb dX7_row_67 (by decide) ?_
    refine lv_icmp_ge (tgt := 91) hx hb dX7_row_69 (by decide) (fun c69 => ?_) (fun c69 => ?_)
    · have hE := (if_pos c69).symm.trans hE
      refine lv_iload_n hx hb dX7_row_91 rfl (lv_at hl 2 rfl) ?_
      exact x_iret hB hz hE dX7_row_92
    · have hE := (if_neg c69).symm.trans hE
      refine lv_aload_n hx hb dX7_row_72 rfl (lv_at hl 0 rfl) ?_
      refine g_X7_16 hB hz kdM_0 dX7_row_73 ?_
      refine lv_bipush (v := (40 : Int32)) hx hb dX7_row_76 (by decide) ?_
      refine lv_iload_n hx hb dX7_row_78 rfl (lv_at hl 1 rfl) ?_
      refine lv_imul hx hb dX7_row_79 ?_
      refine lv_iload hx hb dX7_row_80 (lv_at hl 3 rfl) ?_
      refine lv_iadd hx hb dX7_row_82 ?_
      refine lv_iconst (v := (0 : Int32)) hx hb dX7_row_83 (by decide) ?_
      obtain ⟨hi84, hE⟩ := x_chk hE
      refine x_iast (n := 320) hB hz kdM_3 hi84 dX7_row_84 (fun H locs hz => ?_)
      refine lv_iinc (v := (x4 + 1)) (lv' := [(4, .int (x4 + 1)), (0, .ref (ad g 0)), (1, .int x1), (3, .int x3)]) hx hb dX7_row_85 hl (k := 3) rfl rfl (by decide) rfl (fun ls hl => ?_)
      refine lv_goto (tgt := 65) hx hb dX7_row_88 (by decide) ?_
      exact ih _ _ _ _ _ _ _  hE hz (lv_sub hl [1, 2, 3, 0] rfl)

set_option maxHeartbeats 4000000 in
set_option maxRecDepth 100000 in
theorem w_X7_row {p : Program} {l : Launch} {e : Env} {s : State} {m : MethodId} {args : Array Value} {below : List Frame} {meth : Method} {c : Code} {g : GP} (hB : BX p s m args meth c g LM cX7_row 5 RX7 (some .int)) {o : Int32 × Mem} : ∀ (x1 : Int32) (x2 : Int32) (x3 : Int32) (V : Mem) (H : Heap) (locs : List Loc) (ls : Array Slot), f_X7_row x1 x2 x3 V = some o → OK g LM V s H locs → lv_has ls 5 [(0, .ref (ad g 0)), (1, .int x1), (2, .int x2), (3, .int x3)] → W p l e rm_X7_row s m args below meth c H locs 0 0 (MQ below (QQ g LM (some (.int o.1)) o.2) args s 0 0 (Ar g LM)) (F0 m 0 ls []) := by
  obtain ⟨hx, hb, hml, hown, hT, hr, hlk, hK, hJ, hZ, hN⟩ := id hB
  intro x1 x2 x3 V H locs ls hE hz hl
  unfold f_X7_row at hE
  refine lv_aload_n hx hb dX7_row_0 rfl (lv_at hl 0 rfl) ?_
  refine lv_iconst (v := (0 : Int32)) hx hb dX7_row_1 (by decide) ?_
  refine p_X7_59 hB hz kdM_0 dX7_row_2 (fun H locs hz => ?_)
  refine lv_iload_n hx hb dX7_row_5 rfl (lv_at hl 1 rfl) ?_
  obtain ⟨q6, hq6, hE⟩ := x_bind hE
  refine i_X7_73 hB hz (c_X7_isRow l g  hq6) ⟨(Nat.le_of_ble_eq_true rfl), (Nat.le_of_ble_eq_true rfl)⟩ hl.1 (Nat.le_of_ble_eq_true rfl) dX7_row_6 (fun H locs hz => ?_)
  refine lv_if_eq (tgt := 30) hx hb dX7_row_9 (by decide) (fun c9 => ?_) (fun c9 => ?_)
  · have hE := (if_pos c9).symm.trans hE
    refine lv_ldc (v := (-1000001 : Int32)) hx hb hown (hT _ kw_826) dX7_row_30 ?_
    exact x_iret hB hz hE dX7_row_32
  · have hE := (if_neg c9).symm.trans hE
    refine lv_iload_n hx hb dX7_row_12 rfl (lv_at hl 2 rfl) ?_
    refine lv_i2l hx hb dX7_row_13 rfl ?_
    refine lv_lconst (v := (0 : Int64)) hx hb dX7_row_14 (by decide) ?_
    refine lv_ldc2 (v := (2 : Int64)) hx hb hown (hT _ kw_825) dX7_row_15 ?_
    obtain ⟨q18, hq18, hE⟩ := x_bind hE
    refine i_X7_69 hB hz (c_X7_in l g  hq18) ⟨(Nat.le_of_ble_eq_true rfl), (Nat.le_of_ble_eq_true rfl)⟩ hl.1 (Nat.le_of_ble_eq_true rfl) dX7_row_18 (fun H locs hz => ?_)
    refine lv_if_eq (tgt := 30) hx hb dX7_row_21 (by decide) (fun c21 => ?_) (fun c21 => ?_)
    · have hE := (if_pos c21).symm.trans hE
      refine lv_ldc (v := (-1000001 : Int32)) hx hb hown (hT _ kw_826) dX7_row_30 ?_
      exact x_iret hB hz hE dX7_row_32
    · have hE := (if_neg c21).symm.trans hE
      refine lv_iload_n hx hb dX7_row_24 rfl (lv_at hl 3 rfl) ?_
      refine lv_bipush (v := (40 : Int32)) hx hb dX7_row_25 (by decide) ?_
      refine lv_icmp_le (tgt := 33) hx hb dX7_row_27 (by decide) (fun c27 => ?_) (fun c27 => ?_)
      · have hE := (if_pos c27).symm.trans hE
        refine lv_aload_n hx hb dX7_row_33 rfl (lv_at hl 0 rfl) ?_
        refine lv_iconst (v := (0 : Int32)) hx hb dX7_row_34 (by decide) ?_
        refine p_X7_63 hB hz kdM_0 dX7_row_35 (fun H locs hz => ?_)
        refine lv_iload_n hx hb dX7_row_38 rfl (lv_at hl 3 rfl) ?_
        refine lv_if_ge (tgt := 48) hx hb dX7_row_39 (by decide) (fun c39 => ?_) (fun c39 => ?_)
        · have hE := (if_pos c39).symm.trans hE
          refine lv_aload_n hx hb dX7_row_48 rfl (lv_at hl 0 rfl) ?_
          refine g_X7_7 hB hz kdM_0 dX7_row_49 ?_
          refine lv_iload_n hx hb dX7_row_52 rfl (lv_at hl 1 rfl) ?_
          refine lv_iload_n hx hb dX7_row_53 rfl (lv_at hl 2 rfl) ?_
          obtain ⟨hi54, hE⟩ := x_chk hE
          refine x_iast (n := 8) hB hz kdM_1 hi54 dX7_row_54 (fun H locs hz => ?_)
          refine lv_aload_n hx hb dX7_row_55 rfl (lv_at hl 0 rfl) ?_
          refine g_X7_13 hB hz kdM_0 dX7_row_56 ?_
          refine lv_iload_n hx hb dX7_row_59 rfl (lv_at hl 1 rfl) ?_
          refine lv_iload_n hx hb dX7_row_60 rfl (lv_at hl 3 rfl) ?_
          obtain ⟨hi61, hE⟩ := x_chk hE
          refine x_iast (n := 8) hB hz kdM_2 hi61 dX7_row_61 (fun H locs hz => ?_)
          refine lv_iconst (v := (0 : Int32)) hx hb dX7_row_62 (by decide) ?_
          refine lv_istore (lv' := [(4, .int (0 : Int32)), (0, .ref (ad g 0)), (1, .int x1), (2, .int x2), (3, .int x3)]) hx hb dX7_row_63 hl (by decide) rfl (fun ls hl => ?_)
          exact w_X7_row_65 hB  _ _ _ _ _ _ _ _  hE hz (lv_sub hl [1, 2, 4, 0] rfl)
        · have hE := (if_neg c39).symm.trans hE
          refine lv_aload_n hx hb dX7_row_42 rfl (lv_at hl 0 rfl) ?_
          refine lv_iconst (v := (4 : Int32)) hx hb dX7_row_43 (by decide) ?_
          obtain ⟨q44, hq44, hE⟩ := x_bind hE
          refine i_X7_80 hB hz kdM_0 (c_X7_finding l g  hq44) ⟨(Nat.le_of_ble_eq_true rfl), (Nat.le_of_ble_eq_true rfl)⟩ hl.1 (Nat.le_of_ble_eq_true rfl) dX7_row_44 (fun H locs hz => ?_)
          exact x_iret hB hz hE dX7_row_47
      · have hE := (if_neg c27).symm.trans hE
        refine lv_ldc (v := (-1000001 : Int32)) hx hb hown (hT _ kw_826) dX7_row_30 ?_
        exact x_iret hB hz hE dX7_row_32
theorem c_X7_row (l : Launch) (g : GP) {x1 : Int32} {x2 : Int32} {x3 : Int32} {V : Mem} {o : Int32 × Mem} (hE : f_X7_row x1 x2 x3 V = some o) : CT l g LM yX7_row cX7_row 5 (some .int) rm_X7_row [.ref (ad g 0), .int x1, .int x2, .int x3] V (some (.int o.1)) o.2 := by
  refine ct_of (by decide) (Nat.le_of_ble_eq_true rfl) ?_
  intro p e s m args below meth c ls hB hz hl
  exact w_X7_row hB _ _ _ _ _ _ _  hE hz hl
def rm_X7_set : Room := { frames := 2, cells := 0, slots := 0, locals := 45 }
set_option maxHeartbeats 4000000 in
set_option maxRecDepth 100000 in
theorem w_X7_set_99_c3 {p : Program} {l : Launch} {e : Env} {s : State} {m : MethodId} {args : Array Value} {below : List Frame} {meth : Method} {c : Code} {g : GP} (hB : BX p s m args meth c g LM cX7_set 4 RX7 (some .int)) {o : Int32 × Mem} : ∀ (x1 : Int32) (x2 : Int32) (s1 : Int32) (s2 : Int32) (V : Mem) (H : Heap) (locs : List Loc) (ls : Array Slot), f_X7_set_99_c3 x1 x2 s1 s2 V = some o → OK g LM V s H locs → lv_has ls 4 [(0, .ref (ad g 0)), (1, .int x1), (2, .int x2)] → W p l e rm_X7_set s m args below meth c H locs 0 0 (MQ below (QQ g LM (some (.int o.1)) o.2) args s 0 0 (Ar g LM)) (F0 m 99 ls [.int s2, .int s1, .ref (ad g 3)]) := by
  obtain ⟨hx, hb, hml, hown, hT, hr, hlk, hK, hJ, hZ, hN⟩ := id hB
  intro x1 x2 s1 s2 V H locs ls hE hz hl
  unfold f_X7_set_99_c3 at hE
  obtain ⟨hi99, hE⟩ := x_chk hE
  refine x_iast (n := 320) hB hz kdM_3 hi99 dX7_set_99 (fun H locs hz => ?_)
  refine lv_aload_n hx hb dX7_set_100 rfl (lv_at hl 0 rfl) ?_
  refine g_X7_16 hB hz kdM_0 dX7_set_101 ?_
  refine lv_bipush (v := (40 : Int32)) hx hb dX7_set_104 (by decide) ?_
  refine lv_iload_n hx hb dX7_set_106 rfl (lv_at hl 1 rfl) ?_
  refine lv_imul hx hb dX7_set_107 ?_
  refine lv_iload_n hx hb dX7_set_108 rfl (lv_at hl 2 rfl) ?_
  refine lv_iadd hx hb dX7_set_109 ?_
  obtain ⟨hi110, hE⟩ := x_chk hE
  refine x_iald (n := 320) hB hz kdM_3 hi110 dX7_set_110 ?_
  exact x_iret hB hz hE dX7_set_111

set_option maxHeartbeats 4000000 in
set_option maxRecDepth 100000 in
theorem w_X7_set {p : Program} {l : Launch} {e : Env} {s : State} {m : MethodId} {args : Array Value} {below : List Frame} {meth : Method} {c : Code} {g : GP} (hB : BX p s m args meth c g LM cX7_set 4 RX7 (some .int)) {o : Int32 × Mem} : ∀ (x1 : Int32) (x2 : Int32) (x3 : Int32) (V : Mem) (H : Heap) (locs : List Loc) (ls : Array Slot), f_X7_set x1 x2 x3 V = some o → OK g LM V s H locs → lv_has ls 4 [(0, .ref (ad g 0)), (1, .int x1), (2, .int x2), (3, .int x3)] → W p l e rm_X7_set s m args below meth c H locs 0 0 (MQ below (QQ g LM (some (.int o.1)) o.2) args s 0 0 (Ar g LM)) (F0 m 0 ls []) := by
  obtain ⟨hx, hb, hml, hown, hT, hr, hlk, hK, hJ, hZ, hN⟩ := id hB
  intro x1 x2 x3 V H locs ls hE hz hl
  unfold f_X7_set at hE
  refine lv_aload_n hx hb dX7_set_0 rfl (lv_at hl 0 rfl) ?_
  refine lv_iconst (v := (0 : Int32)) hx hb dX7_set_1 (by decide) ?_
  refine p_X7_59 hB hz kdM_0 dX7_set_2 (fun H locs hz => ?_)
  refine lv_iload_n hx hb dX7_set_5 rfl (lv_at hl 1 rfl) ?_
  obtain ⟨q6, hq6, hE⟩ := x_bind hE
  refine i_X7_73 hB hz (c_X7_isRow l g  hq6) ⟨(Nat.le_of_ble_eq_true rfl), (Nat.le_of_ble_eq_true rfl)⟩ hl.1 (Nat.le_of_ble_eq_true rfl) dX7_set_6 (fun H locs hz => ?_)
  refine lv_if_ne (tgt := 15) hx hb dX7_set_9 (by decide) (fun c9 => ?_) (fun c9 => ?_)
  · have hE := (if_neg c9).symm.trans hE
    refine lv_aload_n hx hb dX7_set_15 rfl (lv_at hl 0 rfl) ?_
    refine lv_iconst (v := (0 : Int32)) hx hb dX7_set_16 (by decide) ?_
    refine p_X7_63 hB hz kdM_0 dX7_set_17 (fun H locs hz => ?_)
    refine lv_aload_n hx hb dX7_set_20 rfl (lv_at hl 0 rfl) ?_
    refine g_X7_7 hB hz kdM_0 dX7_set_21 ?_
    refine lv_iload_n hx hb dX7_set_24 rfl (lv_at hl 1 rfl) ?_
    obtain ⟨hi25, hE⟩ := x_chk hE
    refine x_iald (n := 8) hB hz kdM_1 hi25 dX7_set_25 ?_
    refine lv_if_ge (tgt := 35) hx hb dX7_set_26 (by decide) (fun c26 => ?_) (fun c26 => ?_)
    · have hE := (if_pos c26).symm.trans hE
      refine lv_iload_n hx hb dX7_set_35 rfl (lv_at hl 2 rfl) ?_
      refine lv_i2l hx hb dX7_set_36 rfl ?_
      refine lv_lconst (v := (0 : Int64)) hx hb dX7_set_37 (by decide) ?_
      refine lv_aload_n hx hb dX7_set_38 rfl (lv_at hl 0 rfl) ?_
      refine g_X7_13 hB hz kdM_0 dX7_set_39 ?_
      refine lv_iload_n hx hb dX7_set_42 rfl (lv_at hl 1 rfl) ?_
      obtain ⟨hi43, hE⟩ := x_chk hE
      refine x_iald (n := 8) hB hz kdM_2 hi43 dX7_set_43 ?_
      refine lv_iconst (v := (1 : Int32)) hx hb dX7_set_44 (by decide) ?_
      refine lv_isub hx hb dX7_set_45 ?_
      refine lv_i2l hx hb dX7_set_46 rfl ?_
      obtain ⟨q47, hq47, hE⟩ := x_bind hE
      refine i_X7_69 hB hz (c_X7_in l g  hq47) ⟨(Nat.le_of_ble_eq_true rfl), (Nat.le_of_ble_eq_true rfl)⟩ hl.1 (Nat.le_of_ble_eq_true rfl) dX7_set_47 (fun H locs hz => ?_)
      refine lv_if_ne (tgt := 59) hx hb dX7_set_50 (by decide) (fun c50 => ?_) (fun c50 => ?_)
      · have hE := (if_neg c50).symm.trans hE
        refine lv_aload_n hx hb dX7_set_59 rfl (lv_at hl 0 rfl) ?_
        refine g_X7_16 hB hz kdM_0 dX7_set_60 ?_
        refine lv_bipush (v := (40 : Int32)) hx hb dX7_set_63 (by decide) ?_
        refine lv_iload_n hx hb dX7_set_65 rfl (lv_at hl 1 rfl) ?_
        refine lv_imul hx hb dX7_set_66 ?_
        refine lv_iload_n hx hb dX7_set_67 rfl (lv_at hl 2 rfl) ?_
        refine lv_iadd hx hb dX7_set_68 ?_
        refine lv_aload_n hx hb dX7_set_69 rfl (lv_at hl 0 rfl) ?_
        refine g_X7_7 hB hz kdM_0 dX7_set_70 ?_
        refine lv_iload_n hx hb dX7_set_73 rfl (lv_at hl 1 rfl) ?_
        obtain ⟨hi74, hE⟩ := x_chk hE
        refine x_iald (n := 8) hB hz kdM_1 hi74 dX7_set_74 ?_
        refine lv_if_ne (tgt := 83) hx hb dX7_set_75 (by decide) (fun c75 => ?_) (fun c75 => ?_)
        · have hE := (if_neg c75).symm.trans hE
          refine lv_aload_n hx hb dX7_set_83 rfl (lv_at hl 0 rfl) ?_
          refine g_X7_7 hB hz kdM_0 dX7_set_84 ?_
          refine lv_iload_n hx hb dX7_set_87 rfl (lv_at hl 1 rfl) ?_
          obtain ⟨hi88, hE⟩ := x_chk hE
          refine x_iald (n := 8) hB hz kdM_1 hi88 dX7_set_88 ?_
          refine lv_iconst (v := (1 : Int32)) hx hb dX7_set_89 (by decide) ?_
          refine lv_icmp_ne (tgt := 98) hx hb dX7_set_90 (by decide) (fun c90 => ?_) (fun c90 => ?_)
          · have hE := (if_neg c90).symm.trans hE
            refine lv_iload_n hx hb dX7_set_98 rfl (lv_at hl 3 rfl) ?_
            exact w_X7_set_99_c3 hB  _ _ _ _ _ _ _ _  hE hz (lv_sub hl [0, 1, 2] rfl)
          · have hE := (if_pos c90).symm.trans hE
            refine lv_iload_n hx hb dX7_set_93 rfl (lv_at hl 3 rfl) ?_
            refine lv_i2s hx hb dX7_set_94 rfl ?_
            refine lv_goto (tgt := 99) hx hb dX7_set_95 (by decide) ?_
            exact w_X7_set_99_c3 hB  _ _ _ _ _ _ _ _  hE hz (lv_sub hl [0, 1, 2] rfl)
        · have hE := (if_pos c75).symm.trans hE
          refine lv_iload_n hx hb dX7_set_78 rfl (lv_at hl 3 rfl) ?_
          refine lv_i2b hx hb dX7_set_79 rfl ?_
          refine lv_goto (tgt := 99) hx hb dX7_set_80 (by decide) ?_
          exact w_X7_set_99_c3 hB  _ _ _ _ _ _ _ _  hE hz (lv_sub hl [0, 1, 2] rfl)
      · have hE := (if_pos c50).symm.trans hE
        refine lv_aload_n hx hb dX7_set_53 rfl (lv_at hl 0 rfl) ?_
        refine lv_iconst (v := (2 : Int32)) hx hb dX7_set_54 (by decide) ?_
        obtain ⟨q55, hq55, hE⟩ := x_bind hE
        refine i_X7_80 hB hz kdM_0 (c_X7_finding l g  hq55) ⟨(Nat.le_of_ble_eq_true rfl), (Nat.le_of_ble_eq_true rfl)⟩ hl.1 (Nat.le_of_ble_eq_true rfl) dX7_set_55 (fun H locs hz => ?_)
        exact x_iret hB hz hE dX7_set_58
    · have hE := (if_neg c26).symm.trans hE
      refine lv_aload_n hx hb dX7_set_29 rfl (lv_at hl 0 rfl) ?_
      refine lv_iconst (v := (1 : Int32)) hx hb dX7_set_30 (by decide) ?_
      obtain ⟨q31, hq31, hE⟩ := x_bind hE
      refine i_X7_80 hB hz kdM_0 (c_X7_finding l g  hq31) ⟨(Nat.le_of_ble_eq_true rfl), (Nat.le_of_ble_eq_true rfl)⟩ hl.1 (Nat.le_of_ble_eq_true rfl) dX7_set_31 (fun H locs hz => ?_)
      exact x_iret hB hz hE dX7_set_34
  · have hE := (if_pos c9).symm.trans hE
    refine lv_ldc (v := (-1000001 : Int32)) hx hb hown (hT _ kw_826) dX7_set_12 ?_
    exact x_iret hB hz hE dX7_set_14
theorem c_X7_set (l : Launch) (g : GP) {x1 : Int32} {x2 : Int32} {x3 : Int32} {V : Mem} {o : Int32 × Mem} (hE : f_X7_set x1 x2 x3 V = some o) : CT l g LM yX7_set cX7_set 4 (some .int) rm_X7_set [.ref (ad g 0), .int x1, .int x2, .int x3] V (some (.int o.1)) o.2 := by
  refine ct_of (by decide) (Nat.le_of_ble_eq_true rfl) ?_
  intro p e s m args below meth c ls hB hz hl
  exact w_X7_set hB _ _ _ _ _ _ _  hE hz hl
def rm_X7_copy : Room := { frames := 2, cells := 0, slots := 0, locals := 45 }
set_option maxHeartbeats 4000000 in
set_option maxRecDepth 100000 in
theorem w_X7_copy_45 {p : Program} {l : Launch} {e : Env} {s : State} {m : MethodId} {args : Array Value} {below : List Frame} {meth : Method} {c : Code} {g : GP} (hB : BX p s m args meth c g LM cX7_copy 9 RX7 (some .int)) {o : Int32 × Mem} : ∀ (V : Mem) (H : Heap) (locs : List Loc) (ls : Array Slot), f_X7_copy_45 V = some o → OK g LM V s H locs → lv_has ls 9 [(0, .ref (ad g 0))] → W p l e rm_X7_copy s m args below meth c H locs 0 0 (MQ below (QQ g LM (some (.int o.1)) o.2) args s 0 0 (Ar g LM)) (F0 m 45 ls []) := by
  obtain ⟨hx, hb, hml, hown, hT, hr, hlk, hK, hJ, hZ, hN⟩ := id hB
  intro V H locs ls hE hz hl
  unfold f_X7_copy_45 at hE
  refine lv_aload_n hx hb dX7_copy_45 rfl (lv_at hl 0 rfl) ?_
  refine lv_iconst (v := (1 : Int32)) hx hb dX7_copy_46 (by decide) ?_
  obtain ⟨q47, hq47, hE⟩ := x_bind hE
  refine i_X7_80 hB hz kdM_0 (c_X7_finding l g  hq47) ⟨(Nat.le_of_ble_eq_true rfl), (Nat.le_of_ble_eq_true rfl)⟩ hl.1 (Nat.le_of_ble_eq_true rfl) dX7_copy_47 (fun H locs hz => ?_)
  exact x_iret hB hz hE dX7_copy_50

set_option maxHeartbeats 4000000 in
set_option maxRecDepth 100000 in
theorem w_X7_copy_121 {p : Program} {l : Launch} {e : Env} {s : State} {m : MethodId} {args : Array Value} {below : List Frame} {meth : Method} {c : Code} {g : GP} (hB : BX p s m args meth c g LM cX7_copy 9 RX7 (some .int)) {o : Int32 × Mem} : ∀ (V : Mem) (H : Heap) (locs : List Loc) (ls : Array Slot), f_X7_copy_121 V = some o → OK g LM V s H locs → lv_has ls 9 [(0, .ref (ad g 0))] → W p l e rm_X7_copy s m args below meth c H locs 0 0 (MQ below (QQ g LM (some (.int o.1)) o.2) args s 0 0 (Ar g LM)) (F0 m 121 ls []) := by
  obtain ⟨hx, hb, hml, hown, hT, hr, hlk, hK, hJ, hZ, hN⟩ := id hB
  intro V H locs ls hE hz hl
  unfold f_X7_copy_121 at hE
  refine lv_aload_n hx hb dX7_copy_121 rfl (lv_at hl 0 rfl) ?_
  refine lv_iconst (v := (2 : Int32)) hx hb dX7_copy_122 (by decide) ?_
  obtain ⟨q123, hq123, hE⟩ := x_bind hE
  refine i_X7_80 hB hz kdM_0 (c_X7_finding l g  hq123) ⟨(Nat.le_of_ble_eq_true rfl), (Nat.le_of_ble_eq_true rfl)⟩ hl.1 (Nat.le_of_ble_eq_true rfl) dX7_copy_123 (fun H locs hz => ?_)
  exact x_iret hB hz hE dX7_copy_126

set_option maxHeartbeats 4000000 in
set_option maxRecDepth 100000 in
theorem w_X7_copy_167 {p : Program} {l : Launch} {e : Env} {s : State} {m : MethodId} {args : Array Value} {below : List Frame} {meth : Method} {c : Code} {g : GP} (hB : BX p s m args meth c g LM cX7_copy 9 RX7 (some .int)) {o : Int32 × Mem} {k143 : Int32 → Int32 → Int32 → Int32 → Int32 → Int32 → Int32 → Mem → Option (Int32 × Mem)} (hk143 : ∀ (x1 : Int32) (x2 : Int32) (x3 : Int32) (x4 : Int32) (x5 : Int32) (x6 : Int32) (x7 : Int32) (V : Mem) (H : Heap) (locs : List Loc) (ls : Array Slot), k143 x1 x2 x3 x4 x5 x6 x7 V = some o → OK g LM V s H locs → lv_has ls 9 [(0, .ref (ad g 0)), (1, .int x1), (2, .int x2), (3, .int x3), (4, .int x4), (5, .int x5), (6, .int x6), (7, .int x7)] → W p l e rm_X7_copy s m args below meth c H locs 0 0 (MQ below (QQ g LM (some (.int o.1)) o.2) args s 0 0 (Ar g LM)) (F0 m 143 ls [])) : ∀ (x1 : Int32) (x2 : Int32) (x3 : Int32) (x4 : Int32) (x5 : Int32) (x6 : Int32) (x7 : Int32) (s0 : Int32) (V : Mem) (H : Heap) (locs : List Loc) (ls : Array Slot), f_X7_copy_167 k143 x1 x2 x3 x4 x5 x6 x7 s0 V = some o → OK g LM V s H locs → lv_has ls 9 [(0, .ref (ad g 0)), (1, .int x1), (2, .int x2), (3, .int x3), (4, .int x4), (5, .int x5), (6, .int x6), (7, .int x7)] → W p l e rm_X7_copy s m args below meth c H locs 0 0 (MQ below (QQ g LM (some (.int o.1)) o.2) args s 0 0 (Ar g LM)) (F0 m 167 ls [.int s0]) := by
  obtain ⟨hx, hb, hml, hown, hT, hr, hlk, hK, hJ, hZ, hN⟩ := id hB
  intro x1 x2 x3 x4 x5 x6 x7 s0 V H locs ls hE hz hl
  unfold f_X7_copy_167 at hE
  refine lv_istore (lv' := [(8, .int s0), (0, .ref (ad g 0)), (1, .int x1), (2, .int x2), (3, .int x3), (4, .int x4), (5, .int x5), (6, .int x6), (7, .int x7)]) hx hb dX7_copy_167 hl (by decide) rfl (fun ls hl => ?_)
  refine lv_aload_n hx hb dX7_copy_169 rfl (lv_at hl 1 rfl) ?_
  refine g_X7_16 hB hz kdM_0 dX7_copy_170 ?_
  refine lv_bipush (v := (40 : Int32)) hx hb dX7_copy_173 (by decide) ?_
  refine lv_iload_n hx hb dX7_copy_175 rfl (lv_at hl 4 rfl) ?_
  refine lv_imul hx hb dX7_copy_176 ?_
  refine lv_iload hx hb dX7_copy_177 (lv_at hl 5 rfl) ?_
  refine lv_iadd hx hb dX7_copy_179 ?_
  refine lv_iload hx hb dX7_copy_180 (lv_at hl 0 rfl) ?_
  refine lv_iadd hx hb dX7_copy_182 ?_
  refine lv_aload_n hx hb dX7_copy_183 rfl (lv_at hl 1 rfl) ?_
  refine g_X7_16 hB hz kdM_0 dX7_copy_184 ?_
  refine lv_bipush (v := (40 : Int32)) hx hb dX7_copy_187 (by decide) ?_
  refine lv_iload_n hx hb dX7_copy_189 rfl (lv_at hl 2 rfl) ?_
  refine lv_imul hx hb dX7_copy_190 ?_
  refine lv_iload_n hx hb dX7_copy_191 rfl (lv_at hl 3 rfl) ?_
  refine lv_iadd hx hb dX7_copy_192 ?_
  refine lv_iload hx hb dX7_copy_193 (lv_at hl 0 rfl) ?_
  refine lv_iadd hx hb dX7_copy_195 ?_
  obtain ⟨hi196, hE⟩ := x_chk hE
  refine x_iald (n := 320) hB hz kdM_3 hi196 dX7_copy_196 ?_
  obtain ⟨hi197, hE⟩ := x_chk hE
  refine x_iast (n := 320) hB hz kdM_3 hi197 dX7_copy_197 (fun H locs hz => ?_)
  refine lv_iinc (v := (x7 + 1)) (lv' := [(7, .int (x7 + 1)), (8, .int s0), (0, .ref (ad g 0)), (1, .int x1), (2, .int x2), (3, .int x3), (4, .int x4), (5, .int x5), (6, .int x6)]) hx hb dX7_copy_198 hl (k := 8) rfl rfl (by decide) rfl (fun ls hl => ?_)
  refine lv_goto (tgt := 143) hx hb dX7_copy_201 (by decide) ?_
  exact hk143 _ _ _ _ _ _ _ _ _ _ _  hE hz (lv_sub hl [2, 3, 4, 5, 6, 7, 8, 0] rfl)

set_option maxHeartbeats 4000000 in
set_option maxRecDepth 100000 in
theorem w_X7_copy_143 {p : Program} {l : Launch} {e : Env} {s : State} {m : MethodId} {args : Array Value} {below : List Frame} {meth : Method} {c : Code} {g : GP} (hB : BX p s m args meth c g LM cX7_copy 9 RX7 (some .int)) {o : Int32 × Mem} : ∀ (n : Nat), ∀ (x1 : Int32) (x2 : Int32) (x3 : Int32) (x4 : Int32) (x5 : Int32) (x6 : Int32) (x7 : Int32) (V : Mem) (H : Heap) (locs : List Loc) (ls : Array Slot), f_X7_copy_143 n x1 x2 x3 x4 x5 x6 x7 V = some o → OK g LM V s H locs → lv_has ls 9 [(0, .ref (ad g 0)), (1, .int x1), (2, .int x2), (3, .int x3), (4, .int x4), (5, .int x5), (6, .int x6), (7, .int x7)] → W p l e rm_X7_copy s m args below meth c H locs 0 0 (MQ below (QQ g LM (some (.int o.1)) o.2) args s 0 0 (Ar g LM)) (F0 m 143 ls []) := by
  obtain ⟨hx, hb, hml, hown, hT, hr, hlk, hK, hJ, hZ, hN⟩ := id hB
  intro n
  induction n with
  | zero =>
    intro x1 x2 x3 x4 x5 x6 x7 V H locs ls hE hz hl
    exact absurd (show (none : Option (Int32 × Mem)) = some o from hE) (by simp)
  | succ n ih =>
    intro x1 x2 x3 x4 x5 x6 x7 V H locs ls hE hz hl
    unfold f_X7_copy_143 at hE
    refine lv_iload hx hb dX7_copy_143 (lv_at hl 7 rfl) ?_
    refine lv_iload hx hb dX7_copy_145 (lv_at hl 5 rfl) ?_
    refine lv_icmp_ge (tgt := 204) hx hb dX7_copy_147 (by decide) (fun c147 => ?_) (fun c147 => ?_)
    · have hE := (if_pos c147).symm.trans hE
      refine lv_iload hx hb dX7_copy_204 (lv_at hl 5 rfl) ?_
      exact x_iret hB hz hE dX7_copy_206
    · have hE := (if_neg c147).symm.trans hE
      refine lv_iload hx hb dX7_copy_150 (lv_at hl 6 rfl) ?_
      refine lv_if_eq (tgt := 160) hx hb dX7_copy_152 (by decide) (fun c152 => ?_) (fun c152 => ?_)
      · have hE := (if_pos c152).symm.trans hE
        refine lv_iload hx hb dX7_copy_160 (lv_at hl 5 rfl) ?_
        refine lv_iconst (v := (1 : Int32)) hx hb dX7_copy_162 (by decide) ?_
        refine lv_isub hx hb dX7_copy_163 ?_
        refine lv_iload hx hb dX7_copy_164 (lv_at hl 7 rfl) ?_
        refine lv_isub hx hb dX7_copy_166 ?_
        exact w_X7_copy_167 hB ih _ _ _ _ _ _ _ _ _ _ _ _  hE hz (lv_sub hl [0, 1, 2, 3, 4, 5, 6, 7] rfl)
      · have hE := (if_neg c152).symm.trans hE
        refine lv_iload hx hb dX7_copy_155 (lv_at hl 7 rfl) ?_
        refine lv_goto (tgt := 167) hx hb dX7_copy_157 (by decide) ?_
        exact w_X7_copy_167 hB ih _ _ _ _ _ _ _ _ _ _ _ _  hE hz (lv_sub hl [0, 1, 2, 3, 4, 5, 6, 7] rfl)

set_option maxHeartbeats 4000000 in
set_option maxRecDepth 100000 in
theorem w_X7_copy_138 {p : Program} {l : Launch} {e : Env} {s : State} {m : MethodId} {args : Array Value} {below : List Frame} {meth : Method} {c : Code} {g : GP} (hB : BX p s m args meth c g LM cX7_copy 9 RX7 (some .int)) {o : Int32 × Mem} : ∀ (x1 : Int32) (x2 : Int32) (x3 : Int32) (x4 : Int32) (x5 : Int32) (s0 : Int32) (V : Mem) (H : Heap) (locs : List Loc) (ls : Array Slot), f_X7_copy_138 x1 x2 x3 x4 x5 s0 V = some o → OK g LM V s H locs → lv_has ls 9 [(0, .ref (ad g 0)), (1, .int x1), (2, .int x2), (3, .int x3), (4, .int x4), (5, .int x5)] → W p l e rm_X7_copy s m args below meth c H locs 0 0 (MQ below (QQ g LM (some (.int o.1)) o.2) args s 0 0 (Ar g LM)) (F0 m 138 ls [.int s0]) := by
  obtain ⟨hx, hb, hml, hown, hT, hr, hlk, hK, hJ, hZ, hN⟩ := id hB
  intro x1 x2 x3 x4 x5 s0 V H locs ls hE hz hl
  unfold f_X7_copy_138 at hE
  refine lv_istore (lv' := [(6, .int s0), (0, .ref (ad g 0)), (1, .int x1), (2, .int x2), (3, .int x3), (4, .int x4), (5, .int x5)]) hx hb dX7_copy_138 hl (by decide) rfl (fun ls hl => ?_)
  refine lv_iconst (v := (0 : Int32)) hx hb dX7_copy_140 (by decide) ?_
  refine lv_istore (lv' := [(7, .int (0 : Int32)), (6, .int s0), (0, .ref (ad g 0)), (1, .int x1), (2, .int x2), (3, .int x3), (4, .int x4), (5, .int x5)]) hx hb dX7_copy_141 hl (by decide) rfl (fun ls hl => ?_)
  exact w_X7_copy_143 hB  _ _ _ _ _ _ _ _ _ _ _ _  hE hz (lv_sub hl [2, 3, 4, 5, 6, 7, 1, 0] rfl)

set_option maxHeartbeats 4000000 in
set_option maxRecDepth 100000 in
theorem w_X7_copy {p : Program} {l : Launch} {e : Env} {s : State} {m : MethodId} {args : Array Value} {below : List Frame} {meth : Method} {c : Code} {g : GP} (hB : BX p s m args meth c g LM cX7_copy 9 RX7 (some .int)) {o : Int32 × Mem} : ∀ (x1 : Int32) (x2 : Int32) (x3 : Int32) (x4 : Int32) (x5 : Int32) (V : Mem) (H : Heap) (locs : List Loc) (ls : Array Slot), f_X7_copy x1 x2 x3 x4 x5 V = some o → OK g LM V s H locs → lv_has ls 9 [(0, .ref (ad g 0)), (1, .int x1), (2, .int x2), (3, .int x3), (4, .int x4), (5, .int x5)] → W p l e rm_X7_copy s m args below meth c H locs 0 0 (MQ below (QQ g LM (some (.int o.1)) o.2) args s 0 0 (Ar g LM)) (F0 m 0 ls []) := by
  obtain ⟨hx, hb, hml, hown, hT, hr, hlk, hK, hJ, hZ, hN⟩ := id hB
  intro x1 x2 x3 x4 x5 V H locs ls hE hz hl
  unfold f_X7_copy at hE
  refine lv_aload_n hx hb dX7_copy_0 rfl (lv_at hl 0 rfl) ?_
  refine lv_iconst (v := (0 : Int32)) hx hb dX7_copy_1 (by decide) ?_
  refine p_X7_59 hB hz kdM_0 dX7_copy_2 (fun H locs hz => ?_)
  refine lv_iload_n hx hb dX7_copy_5 rfl (lv_at hl 1 rfl) ?_
  obtain ⟨q6, hq6, hE⟩ := x_bind hE
  refine i_X7_73 hB hz (c_X7_isRow l g  hq6) ⟨(Nat.le_of_ble_eq_true rfl), (Nat.le_of_ble_eq_true rfl)⟩ hl.1 (Nat.le_of_ble_eq_true rfl) dX7_copy_6 (fun H locs hz => ?_)
  refine lv_if_eq (tgt := 19) hx hb dX7_copy_9 (by decide) (fun c9 => ?_) (fun c9 => ?_)
  · have hE := (if_pos c9).symm.trans hE
    refine lv_ldc (v := (-1000001 : Int32)) hx hb hown (hT _ kw_826) dX7_copy_19 ?_
    exact x_iret hB hz hE dX7_copy_21
  · have hE := (if_neg c9).symm.trans hE
    refine lv_iload_n hx hb dX7_copy_12 rfl (lv_at hl 3 rfl) ?_
    obtain ⟨q13, hq13, hE⟩ := x_bind hE
    refine i_X7_73 hB hz (c_X7_isRow l g  hq13) ⟨(Nat.le_of_ble_eq_true rfl), (Nat.le_of_ble_eq_true rfl)⟩ hl.1 (Nat.le_of_ble_eq_true rfl) dX7_copy_13 (fun H locs hz => ?_)
    refine lv_if_ne (tgt := 22) hx hb dX7_copy_16 (by decide) (fun c16 => ?_) (fun c16 => ?_)
    · have hE := (if_neg c16).symm.trans hE
      refine lv_aload_n hx hb dX7_copy_22 rfl (lv_at hl 0 rfl) ?_
      refine lv_iconst (v := (0 : Int32)) hx hb dX7_copy_23 (by decide) ?_
      refine p_X7_63 hB hz kdM_0 dX7_copy_24 (fun H locs hz => ?_)
      refine lv_aload_n hx hb dX7_copy_27 rfl (lv_at hl 0 rfl) ?_
      refine g_X7_7 hB hz kdM_0 dX7_copy_28 ?_
      refine lv_iload_n hx hb dX7_copy_31 rfl (lv_at hl 1 rfl) ?_
      obtain ⟨hi32, hE⟩ := x_chk hE
      refine x_iald (n := 8) hB hz kdM_1 hi32 dX7_copy_32 ?_
      refine lv_if_lt (tgt := 45) hx hb dX7_copy_33 (by decide) (fun c33 => ?_) (fun c33 => ?_)
      · have hE := (if_pos c33).symm.trans hE
        exact w_X7_copy_45 hB   _ _ _ _  hE hz (lv_sub hl [0] rfl)
      · have hE := (if_neg c33).symm.trans hE
        refine lv_aload_n hx hb dX7_copy_36 rfl (lv_at hl 0 rfl) ?_
        refine g_X7_7 hB hz kdM_0 dX7_copy_37 ?_
        refine lv_iload_n hx hb dX7_copy_40 rfl (lv_at hl 3 rfl) ?_
        obtain ⟨hi41, hE⟩ := x_chk hE
        refine x_iald (n := 8) hB hz kdM_1 hi41 dX7_copy_41 ?_
        refine lv_if_ge (tgt := 51) hx hb dX7_copy_42 (by decide) (fun c42 => ?_) (fun c42 => ?_)
        · have hE := (if_pos c42).symm.trans hE
          refine lv_aload_n hx hb dX7_copy_51 rfl (lv_at hl 0 rfl) ?_
          refine g_X7_7 hB hz kdM_0 dX7_copy_52 ?_
          refine lv_iload_n hx hb dX7_copy_55 rfl (lv_at hl 1 rfl) ?_
          obtain ⟨hi56, hE⟩ := x_chk hE
          refine x_iald (n := 8) hB hz kdM_1 hi56 dX7_copy_56 ?_
          refine lv_aload_n hx hb dX7_copy_57 rfl (lv_at hl 0 rfl) ?_
          refine g_X7_7 hB hz kdM_0 dX7_copy_58 ?_
          refine lv_iload_n hx hb dX7_copy_61 rfl (lv_at hl 3 rfl) ?_
          obtain ⟨hi62, hE⟩ := x_chk hE
          refine x_iald (n := 8) hB hz kdM_1 hi62 dX7_copy_62 ?_
          refine lv_icmp_eq (tgt := 72) hx hb dX7_copy_63 (by decide) (fun c63 => ?_) (fun c63 => ?_)
          · have hE := (if_pos c63).symm.trans hE
            refine lv_iload_n hx hb dX7_copy_72 rfl (lv_at hl 2 rfl) ?_
            refine lv_if_lt (tgt := 121) hx hb dX7_copy_73 (by decide) (fun c73 => ?_) (fun c73 => ?_)
            · have hE := (if_pos c73).symm.trans hE
              exact w_X7_copy_121 hB   _ _ _ _  hE hz (lv_sub hl [0] rfl)
            · have hE := (if_neg c73).symm.trans hE
              refine lv_iload hx hb dX7_copy_76 (lv_at hl 4 rfl) ?_
              refine lv_if_lt (tgt := 121) hx hb dX7_copy_78 (by decide) (fun c78 => ?_) (fun c78 => ?_)
              · have hE := (if_pos c78).symm.trans hE
                exact w_X7_copy_121 hB   _ _ _ _  hE hz (lv_sub hl [0] rfl)
              · have hE := (if_neg c78).symm.trans hE
                refine lv_iload hx hb dX7_copy_81 (lv_at hl 5 rfl) ?_
                refine lv_if_lt (tgt := 121) hx hb dX7_copy_83 (by decide) (fun c83 => ?_) (fun c83 => ?_)
                · have hE := (if_pos c83).symm.trans hE
                  exact w_X7_copy_121 hB   _ _ _ _  hE hz (lv_sub hl [0] rfl)
                · have hE := (if_neg c83).symm.trans hE
                  refine lv_iload_n hx hb dX7_copy_86 rfl (lv_at hl 2 rfl) ?_
                  refine lv_i2l hx hb dX7_copy_87 rfl ?_
                  refine lv_iload hx hb dX7_copy_88 (lv_at hl 5 rfl) ?_
                  refine lv_i2l hx hb dX7_copy_90 rfl ?_
                  refine lv_ladd hx hb dX7_copy_91 ?_
                  refine lv_aload_n hx hb dX7_copy_92 rfl (lv_at hl 0 rfl) ?_
                  refine g_X7_13 hB hz kdM_0 dX7_copy_93 ?_
                  refine lv_iload_n hx hb dX7_copy_96 rfl (lv_at hl 1 rfl) ?_
                  obtain ⟨hi97, hE⟩ := x_chk hE
                  refine x_iald (n := 8) hB hz kdM_2 hi97 dX7_copy_97 ?_
                  refine lv_i2l hx hb dX7_copy_98 rfl ?_
                  refine W.lcmp hx hb dX7_copy_99 ?_
                  refine lv_if_gt (tgt := 121) hx hb dX7_copy_100 (by decide) (fun c100 => ?_) (fun c100 => ?_)
                  · have hE := (if_pos c100).symm.trans hE
                    exact w_X7_copy_121 hB   _ _ _ _  hE hz (lv_sub hl [0] rfl)
                  · have hE := (if_neg c100).symm.trans hE
                    refine lv_iload hx hb dX7_copy_103 (lv_at hl 4 rfl) ?_
                    refine lv_i2l hx hb dX7_copy_105 rfl ?_
                    refine lv_iload hx hb dX7_copy_106 (lv_at hl 5 rfl) ?_
                    refine lv_i2l hx hb dX7_copy_108 rfl ?_
                    refine lv_ladd hx hb dX7_copy_109 ?_
                    refine lv_aload_n hx hb dX7_copy_110 rfl (lv_at hl 0 rfl) ?_
                    refine g_X7_13 hB hz kdM_0 dX7_copy_111 ?_
                    refine lv_iload_n hx hb dX7_copy_114 rfl (lv_at hl 3 rfl) ?_
                    obtain ⟨hi115, hE⟩ := x_chk hE
                    refine x_iald (n := 8) hB hz kdM_2 hi115 dX7_copy_115 ?_
                    refine lv_i2l hx hb dX7_copy_116 rfl ?_
                    refine W.lcmp hx hb dX7_copy_117 ?_
                    refine lv_if_le (tgt := 127) hx hb dX7_copy_118 (by decide) (fun c118 => ?_) (fun c118 => ?_)
                    · have hE := (if_pos c118).symm.trans hE
                      refine lv_iload_n hx hb dX7_copy_127 rfl (lv_at hl 2 rfl) ?_
                      refine lv_iload hx hb dX7_copy_128 (lv_at hl 4 rfl) ?_
                      refine lv_icmp_lt (tgt := 137) hx hb dX7_copy_130 (by decide) (fun c130 => ?_) (fun c130 => ?_)
                      · have hE := (if_pos c130).symm.trans hE
                        refine lv_iconst (v := (0 : Int32)) hx hb dX7_copy_137 (by decide) ?_
                        exact w_X7_copy_138 hB  _ _ _ _ _ _ _ _ _ _  hE hz (lv_sub hl [0, 1, 2, 3, 4, 5] rfl)
                      · have hE := (if_neg c130).symm.trans hE
                        refine lv_iconst (v := (1 : Int32)) hx hb dX7_copy_133 (by decide) ?_
                        refine lv_goto (tgt := 138) hx hb dX7_copy_134 (by decide) ?_
                        exact w_X7_copy_138 hB  _ _ _ _ _ _ _ _ _ _  hE hz (lv_sub hl [0, 1, 2, 3, 4, 5] rfl)
                    · have hE := (if_neg c118).symm.trans hE
                      exact w_X7_copy_121 hB   _ _ _ _  hE hz (lv_sub hl [0] rfl)
          · have hE := (if_neg c63).symm.trans hE
            refine lv_aload_n hx hb dX7_copy_66 rfl (lv_at hl 0 rfl) ?_
            refine lv_iconst (v := (5 : Int32)) hx hb dX7_copy_67 (by decide) ?_
            obtain ⟨q68, hq68, hE⟩ := x_bind hE
            refine i_X7_80 hB hz kdM_0 (c_X7_finding l g  hq68) ⟨(Nat.le_of_ble_eq_true rfl), (Nat.le_of_ble_eq_true rfl)⟩ hl.1 (Nat.le_of_ble_eq_true rfl) dX7_copy_68 (fun H locs hz => ?_)
            exact x_iret hB hz hE dX7_copy_71
        · have hE := (if_neg c42).symm.trans hE
          exact w_X7_copy_45 hB   _ _ _ _  hE hz (lv_sub hl [0] rfl)
    · have hE := (if_pos c16).symm.trans hE
      refine lv_ldc (v := (-1000001 : Int32)) hx hb hown (hT _ kw_826) dX7_copy_19 ?_
      exact x_iret hB hz hE dX7_copy_21
theorem c_X7_copy (l : Launch) (g : GP) {x1 : Int32} {x2 : Int32} {x3 : Int32} {x4 : Int32} {x5 : Int32} {V : Mem} {o : Int32 × Mem} (hE : f_X7_copy x1 x2 x3 x4 x5 V = some o) : CT l g LM yX7_copy cX7_copy 9 (some .int) rm_X7_copy [.ref (ad g 0), .int x1, .int x2, .int x3, .int x4, .int x5] V (some (.int o.1)) o.2 := by
  refine ct_of (by decide) (Nat.le_of_ble_eq_true rfl) ?_
  intro p e s m args below meth c ls hB hz hl
  exact w_X7_copy hB _ _ _ _ _ _ _ _ _  hE hz hl
def rm_X7_drop : Room := { frames := 2, cells := 0, slots := 0, locals := 45 }
set_option maxHeartbeats 4000000 in
set_option maxRecDepth 100000 in
theorem w_X7_drop {p : Program} {l : Launch} {e : Env} {s : State} {m : MethodId} {args : Array Value} {below : List Frame} {meth : Method} {c : Code} {g : GP} (hB : BX p s m args meth c g LM cX7_drop 2 RX7 (some .int)) {o : Int32 × Mem} : ∀ (x1 : Int32) (V : Mem) (H : Heap) (locs : List Loc) (ls : Array Slot), f_X7_drop x1 V = some o → OK g LM V s H locs → lv_has ls 2 [(0, .ref (ad g 0)), (1, .int x1)] → W p l e rm_X7_drop s m args below meth c H locs 0 0 (MQ below (QQ g LM (some (.int o.1)) o.2) args s 0 0 (Ar g LM)) (F0 m 0 ls []) := by
  obtain ⟨hx, hb, hml, hown, hT, hr, hlk, hK, hJ, hZ, hN⟩ := id hB
  intro x1 V H locs ls hE hz hl
  unfold f_X7_drop at hE
  refine lv_aload_n hx hb dX7_drop_0 rfl (lv_at hl 0 rfl) ?_
  refine lv_iconst (v := (0 : Int32)) hx hb dX7_drop_1 (by decide) ?_
  refine p_X7_59 hB hz kdM_0 dX7_drop_2 (fun H locs hz => ?_)
  refine lv_iload_n hx hb dX7_drop_5 rfl (lv_at hl 1 rfl) ?_
  obtain ⟨q6, hq6, hE⟩ := x_bind hE
  refine i_X7_73 hB hz (c_X7_isRow l g  hq6) ⟨(Nat.le_of_ble_eq_true rfl), (Nat.le_of_ble_eq_true rfl)⟩ hl.1 (Nat.le_of_ble_eq_true rfl) dX7_drop_6 (fun H locs hz => ?_)
  refine lv_if_ne (tgt := 15) hx hb dX7_drop_9 (by decide) (fun c9 => ?_) (fun c9 => ?_)
  · have hE := (if_neg c9).symm.trans hE
    refine lv_aload_n hx hb dX7_drop_15 rfl (lv_at hl 0 rfl) ?_
    refine lv_iconst (v := (0 : Int32)) hx hb dX7_drop_16 (by decide) ?_
    refine p_X7_63 hB hz kdM_0 dX7_drop_17 (fun H locs hz => ?_)
    refine lv_aload_n hx hb dX7_drop_20 rfl (lv_at hl 0 rfl) ?_
    refine g_X7_7 hB hz kdM_0 dX7_drop_21 ?_
    refine lv_iload_n hx hb dX7_drop_24 rfl (lv_at hl 1 rfl) ?_
    obtain ⟨hi25, hE⟩ := x_chk hE
    refine x_iald (n := 8) hB hz kdM_1 hi25 dX7_drop_25 ?_
    refine lv_if_ge (tgt := 35) hx hb dX7_drop_26 (by decide) (fun c26 => ?_) (fun c26 => ?_)
    · have hE := (if_pos c26).symm.trans hE
      refine lv_aload_n hx hb dX7_drop_35 rfl (lv_at hl 0 rfl) ?_
      refine g_X7_7 hB hz kdM_0 dX7_drop_36 ?_
      refine lv_iload_n hx hb dX7_drop_39 rfl (lv_at hl 1 rfl) ?_
      refine lv_iconst (v := (-1 : Int32)) hx hb dX7_drop_40 (by decide) ?_
      obtain ⟨hi41, hE⟩ := x_chk hE
      refine x_iast (n := 8) hB hz kdM_1 hi41 dX7_drop_41 (fun H locs hz => ?_)
      refine lv_aload_n hx hb dX7_drop_42 rfl (lv_at hl 0 rfl) ?_
      refine g_X7_13 hB hz kdM_0 dX7_drop_43 ?_
      refine lv_iload_n hx hb dX7_drop_46 rfl (lv_at hl 1 rfl) ?_
      obtain ⟨hi47, hE⟩ := x_chk hE
      refine x_iald (n := 8) hB hz kdM_2 hi47 dX7_drop_47 ?_
      exact x_iret hB hz hE dX7_drop_48
    · have hE := (if_neg c26).symm.trans hE
      refine lv_aload_n hx hb dX7_drop_29 rfl (lv_at hl 0 rfl) ?_
      refine lv_iconst (v := (1 : Int32)) hx hb dX7_drop_30 (by decide) ?_
      obtain ⟨q31, hq31, hE⟩ := x_bind hE
      refine i_X7_80 hB hz kdM_0 (c_X7_finding l g  hq31) ⟨(Nat.le_of_ble_eq_true rfl), (Nat.le_of_ble_eq_true rfl)⟩ hl.1 (Nat.le_of_ble_eq_true rfl) dX7_drop_31 (fun H locs hz => ?_)
      exact x_iret hB hz hE dX7_drop_34
  · have hE := (if_pos c9).symm.trans hE
    refine lv_ldc (v := (-1000001 : Int32)) hx hb hown (hT _ kw_826) dX7_drop_12 ?_
    exact x_iret hB hz hE dX7_drop_14
theorem c_X7_drop (l : Launch) (g : GP) {x1 : Int32} {V : Mem} {o : Int32 × Mem} (hE : f_X7_drop x1 V = some o) : CT l g LM yX7_drop cX7_drop 2 (some .int) rm_X7_drop [.ref (ad g 0), .int x1] V (some (.int o.1)) o.2 := by
  refine ct_of (by decide) (Nat.le_of_ble_eq_true rfl) ?_
  intro p e s m args below meth c ls hB hz hl
  exact w_X7_drop hB _ _ _ _ _  hE hz hl
def rm_X7_feed : Room := { frames := 1, cells := 0, slots := 0, locals := 25 }
set_option maxHeartbeats 4000000 in
set_option maxRecDepth 100000 in
theorem w_X7_feed {p : Program} {l : Launch} {e : Env} {s : State} {m : MethodId} {args : Array Value} {below : List Frame} {meth : Method} {c : Code} {g : GP} (hB : BX p s m args meth c g LM cX7_feed 2 RX7 (some .int)) {o : Int32 × Mem} : ∀ (x1 : Int32) (V : Mem) (H : Heap) (locs : List Loc) (ls : Array Slot), f_X7_feed x1 V = some o → OK g LM V s H locs → lv_has ls 2 [(0, .ref (ad g 0)), (1, .int x1)] → W p l e rm_X7_feed s m args below meth c H locs 0 0 (MQ below (QQ g LM (some (.int o.1)) o.2) args s 0 0 (Ar g LM)) (F0 m 0 ls []) := by
  obtain ⟨hx, hb, hml, hown, hT, hr, hlk, hK, hJ, hZ, hN⟩ := id hB
  intro x1 V H locs ls hE hz hl
  unfold f_X7_feed at hE
  refine lv_aload_n hx hb dX7_feed_0 rfl (lv_at hl 0 rfl) ?_
  refine lv_iconst (v := (0 : Int32)) hx hb dX7_feed_1 (by decide) ?_
  refine p_X7_59 hB hz kdM_0 dX7_feed_2 (fun H locs hz => ?_)
  refine lv_iload_n hx hb dX7_feed_5 rfl (lv_at hl 1 rfl) ?_
  refine lv_i2l hx hb dX7_feed_6 rfl ?_
  refine lv_lconst (v := (0 : Int64)) hx hb dX7_feed_7 (by decide) ?_
  refine lv_ldc2 (v := (255 : Int64)) hx hb hown (hT _ kw_848) dX7_feed_8 ?_
  obtain ⟨q11, hq11, hE⟩ := x_bind hE
  refine i_X7_69 hB hz (c_X7_in l g  hq11) ⟨(Nat.le_of_ble_eq_true rfl), (Nat.le_of_ble_eq_true rfl)⟩ hl.1 (Nat.le_of_ble_eq_true rfl) dX7_feed_11 (fun H locs hz => ?_)
  refine lv_if_ne (tgt := 20) hx hb dX7_feed_14 (by decide) (fun c14 => ?_) (fun c14 => ?_)
  · have hE := (if_neg c14).symm.trans hE
    refine lv_aload_n hx hb dX7_feed_20 rfl (lv_at hl 0 rfl) ?_
    refine g_X7_86 hB hz kdM_0 dX7_feed_21 ?_
    refine lv_sipush (v := (130 : Int32)) hx hb dX7_feed_24 (by decide) ?_
    refine lv_icmp_ne (tgt := 33) hx hb dX7_feed_27 (by decide) (fun c27 => ?_) (fun c27 => ?_)
    · have hE := (if_neg c27).symm.trans hE
      refine lv_aload_n hx hb dX7_feed_33 rfl (lv_at hl 0 rfl) ?_
      refine g_X7_31 hB hz kdM_0 dX7_feed_34 ?_
      refine lv_aload_n hx hb dX7_feed_37 rfl (lv_at hl 0 rfl) ?_
      refine g_X7_86 hB hz kdM_0 dX7_feed_38 ?_
      refine lv_iload_n hx hb dX7_feed_41 rfl (lv_at hl 1 rfl) ?_
      obtain ⟨hi42, hE⟩ := x_chk hE
      refine x_iast (n := 130) hB hz kdM_8 hi42 dX7_feed_42 (fun H locs hz => ?_)
      refine lv_aload_n hx hb dX7_feed_43 rfl (lv_at hl 0 rfl) ?_
      refine lv_dup hx hb dX7_feed_44 rfl ?_
      refine g_X7_86 hB hz kdM_0 dX7_feed_45 ?_
      refine lv_iconst (v := (1 : Int32)) hx hb dX7_feed_48 (by decide) ?_
      refine lv_iadd hx hb dX7_feed_49 ?_
      refine p_X7_86 hB hz kdM_0 dX7_feed_50 (fun H locs hz => ?_)
      refine lv_aload_n hx hb dX7_feed_53 rfl (lv_at hl 0 rfl) ?_
      refine g_X7_86 hB hz kdM_0 dX7_feed_54 ?_
      exact x_iret hB hz hE dX7_feed_57
    · have hE := (if_pos c27).symm.trans hE
      refine lv_ldc (v := (-1000003 : Int32)) hx hb hown (hT _ kw_849) dX7_feed_30 ?_
      exact x_iret hB hz hE dX7_feed_32
  · have hE := (if_pos c14).symm.trans hE
    refine lv_ldc (v := (-1000001 : Int32)) hx hb hown (hT _ kw_826) dX7_feed_17 ?_
    exact x_iret hB hz hE dX7_feed_19
theorem c_X7_feed (l : Launch) (g : GP) {x1 : Int32} {V : Mem} {o : Int32 × Mem} (hE : f_X7_feed x1 V = some o) : CT l g LM yX7_feed cX7_feed 2 (some .int) rm_X7_feed [.ref (ad g 0), .int x1] V (some (.int o.1)) o.2 := by
  refine ct_of (by decide) (Nat.le_of_ble_eq_true rfl) ?_
  intro p e s m args below meth c ls hB hz hl
  exact w_X7_feed hB _ _ _ _ _  hE hz hl
def rm_X7_bad : Room := { frames := 0, cells := 0, slots := 0, locals := 0 }
set_option maxHeartbeats 4000000 in
set_option maxRecDepth 100000 in
theorem w_X7_bad {p : Program} {l : Launch} {e : Env} {s : State} {m : MethodId} {args : Array Value} {below : List Frame} {meth : Method} {c : Code} {g : GP} (hB : BX p s m args meth c g LM cX7_bad 2 RX7 none) {o : Mem} : ∀ (x1 : Int32) (V : Mem) (H : Heap) (locs : List Loc) (ls : Array Slot), f_X7_bad x1 V = some o → OK g LM V s H locs → lv_has ls 2 [(0, .ref (ad g 0)), (1, .int x1)] → W p l e rm_X7_bad s m args below meth c H locs 0 0 (MQ below (QQ g LM none o) args s 0 0 (Ar g LM)) (F0 m 0 ls []) := by
  obtain ⟨hx, hb, hml, hown, hT, hr, hlk, hK, hJ, hZ, hN⟩ := id hB
  intro x1 V H locs ls hE hz hl
  unfold f_X7_bad at hE
  refine lv_aload_n hx hb dX7_bad_0 rfl (lv_at hl 0 rfl) ?_
  refine g_X7_90 hB hz kdM_0 dX7_bad_1 ?_
  refine lv_if_ne (tgt := 20) hx hb dX7_bad_4 (by decide) (fun c4 => ?_) (fun c4 => ?_)
  · have hE := (if_neg c4).symm.trans hE
    exact x_vret hB hz hE dX7_bad_20
  · have hE := (if_pos c4).symm.trans hE
    refine lv_aload_n hx hb dX7_bad_7 rfl (lv_at hl 0 rfl) ?_
    refine lv_iload_n hx hb dX7_bad_8 rfl (lv_at hl 1 rfl) ?_
    refine p_X7_90 hB hz kdM_0 dX7_bad_9 (fun H locs hz => ?_)
    refine lv_aload_n hx hb dX7_bad_12 rfl (lv_at hl 0 rfl) ?_
    refine lv_aload_n hx hb dX7_bad_13 rfl (lv_at hl 0 rfl) ?_
    refine g_X7_93 hB hz kdM_0 dX7_bad_14 ?_
    refine p_X7_96 hB hz kdM_0 dX7_bad_17 (fun H locs hz => ?_)
    exact x_vret hB hz hE dX7_bad_20
theorem c_X7_bad (l : Launch) (g : GP) {x1 : Int32} {V : Mem} {o : Mem} (hE : f_X7_bad x1 V = some o) : CT l g LM yX7_bad cX7_bad 2 none rm_X7_bad [.ref (ad g 0), .int x1] V none o := by
  refine ct_of (by decide) (Nat.le_of_ble_eq_true rfl) ?_
  intro p e s m args below meth c ls hB hz hl
  exact w_X7_bad hB _ _ _ _ _  hE hz hl
def rm_X7_nextToken : Room := { frames := 1, cells := 0, slots := 0, locals := 25 }
set_option maxHeartbeats 4000000 in
set_option maxRecDepth 100000 in
theorem w_X7_nextToken_274_c0 {p : Program} {l : Launch} {e : Env} {s : State} {m : MethodId} {args : Array Value} {below : List Frame} {meth : Method} {c : Code} {g : GP} (hB : BX p s m args meth c g LM cX7_nextToken 1 RX7 none) {o : Mem} : ∀ (s1 : Int32) (V : Mem) (H : Heap) (locs : List Loc) (ls : Array Slot), f_X7_nextToken_274_c0 s1 V = some o → OK g LM V s H locs → lv_has ls 1 [] → W p l e rm_X7_nextToken s m args below meth c H locs 0 0 (MQ below (QQ g LM none o) args s 0 0 (Ar g LM)) (F0 m 274 ls [.int s1, .ref (ad g 0)]) := by
  obtain ⟨hx, hb, hml, hown, hT, hr, hlk, hK, hJ, hZ, hN⟩ := id hB
  intro s1 V H locs ls hE hz hl
  unfold f_X7_nextToken_274_c0 at hE
  refine p_X7_114 hB hz kdM_0 dX7_nextToken_274 (fun H locs hz => ?_)
  exact x_vret hB hz hE dX7_nextToken_277

set_option maxHeartbeats 4000000 in
set_option maxRecDepth 100000 in
theorem w_X7_nextToken_255 {p : Program} {l : Launch} {e : Env} {s : State} {m : MethodId} {args : Array Value} {below : List Frame} {meth : Method} {c : Code} {g : GP} (hB : BX p s m args meth c g LM cX7_nextToken 1 RX7 none) {o : Mem} : ∀ (V : Mem) (H : Heap) (locs : List Loc) (ls : Array Slot), f_X7_nextToken_255 V = some o → OK g LM V s H locs → lv_has ls 1 [(0, .ref (ad g 0))] → W p l e rm_X7_nextToken s m args below meth c H locs 0 0 (MQ below (QQ g LM none o) args s 0 0 (Ar g LM)) (F0 m 255 ls []) := by
  obtain ⟨hx, hb, hml, hown, hT, hr, hlk, hK, hJ, hZ, hN⟩ := id hB
  intro V H locs ls hE hz hl
  unfold f_X7_nextToken_255 at hE
  refine lv_aload_n hx hb dX7_nextToken_255 rfl (lv_at hl 0 rfl) ?_
  refine lv_aload_n hx hb dX7_nextToken_256 rfl (lv_at hl 0 rfl) ?_
  refine g_X7_99 hB hz kdM_0 dX7_nextToken_257 ?_
  refine lv_aload_n hx hb dX7_nextToken_260 rfl (lv_at hl 0 rfl) ?_
  refine g_X7_93 hB hz kdM_0 dX7_nextToken_261 ?_
  refine lv_isub hx hb dX7_nextToken_264 ?_
  refine lv_iconst (v := (2 : Int32)) hx hb dX7_nextToken_265 (by decide) ?_
  refine lv_icmp_le (tgt := 273) hx hb dX7_nextToken_266 (by decide) (fun c266 => ?_) (fun c266 => ?_)
  · have hE := (if_pos c266).symm.trans hE
    refine lv_iconst (v := (3 : Int32)) hx hb dX7_nextToken_273 (by decide) ?_
    exact w_X7_nextToken_274_c0 hB  _ _ _ _ _  hE hz (lv_sub hl [] rfl)
  · have hE := (if_neg c266).symm.trans hE
    refine lv_iconst (v := (0 : Int32)) hx hb dX7_nextToken_269 (by decide) ?_
    refine lv_goto (tgt := 274) hx hb dX7_nextToken_270 (by decide) ?_
    exact w_X7_nextToken_274_c0 hB  _ _ _ _ _  hE hz (lv_sub hl [] rfl)

set_option maxHeartbeats 4000000 in
set_option maxRecDepth 100000 in
theorem w_X7_nextToken_239_c0 {p : Program} {l : Launch} {e : Env} {s : State} {m : MethodId} {args : Array Value} {below : List Frame} {meth : Method} {c : Code} {g : GP} (hB : BX p s m args meth c g LM cX7_nextToken 1 RX7 none) {o : Mem} {k165 : Mem → Option (Mem)} (hk165 : ∀ (V : Mem) (H : Heap) (locs : List Loc) (ls : Array Slot), k165 V = some o → OK g LM V s H locs → lv_has ls 1 [(0, .ref (ad g 0))] → W p l e rm_X7_nextToken s m args below meth c H locs 0 0 (MQ below (QQ g LM none o) args s 0 0 (Ar g LM)) (F0 m 165 ls [])) : ∀ (s1 : Int32) (V : Mem) (H : Heap) (locs : List Loc) (ls : Array Slot), f_X7_nextToken_239_c0 k165 s1 V = some o → OK g LM V s H locs → lv_has ls 1 [(0, .ref (ad g 0))] → W p l e rm_X7_nextToken s m args below meth c H locs 0 0 (MQ below (QQ g LM none o) args s 0 0 (Ar g LM)) (F0 m 239 ls [.int s1, .ref (ad g 0)]) := by
  obtain ⟨hx, hb, hml, hown, hT, hr, hlk, hK, hJ, hZ, hN⟩ := id hB
  intro s1 V H locs ls hE hz hl
  unfold f_X7_nextToken_239_c0 at hE
  refine p_X7_103 hB hz kdM_0 dX7_nextToken_239 (fun H locs hz => ?_)
  refine lv_aload_n hx hb dX7_nextToken_242 rfl (lv_at hl 0 rfl) ?_
  refine lv_dup hx hb dX7_nextToken_243 rfl ?_
  refine g_X7_99 hB hz kdM_0 dX7_nextToken_244 ?_
  refine lv_iconst (v := (1 : Int32)) hx hb dX7_nextToken_247 (by decide) ?_
  refine lv_iadd hx hb dX7_nextToken_248 ?_
  refine p_X7_99 hB hz kdM_0 dX7_nextToken_249 (fun H locs hz => ?_)
  refine lv_goto (tgt := 165) hx hb dX7_nextToken_252 (by decide) ?_
  exact hk165  _ _ _ _  hE hz (lv_sub hl [0] rfl)

set_option maxHeartbeats 4000000 in
set_option maxRecDepth 100000 in
theorem w_X7_nextToken_165 {p : Program} {l : Launch} {e : Env} {s : State} {m : MethodId} {args : Array Value} {below : List Frame} {meth : Method} {c : Code} {g : GP} (hB : BX p s m args meth c g LM cX7_nextToken 1 RX7 none) {o : Mem} : ∀ (n : Nat), ∀ (V : Mem) (H : Heap) (locs : List Loc) (ls : Array Slot), f_X7_nextToken_165 n V = some o → OK g LM V s H locs → lv_has ls 1 [(0, .ref (ad g 0))] → W p l e rm_X7_nextToken s m args below meth c H locs 0 0 (MQ below (QQ g LM none o) args s 0 0 (Ar g LM)) (F0 m 165 ls []) := by
  obtain ⟨hx, hb, hml, hown, hT, hr, hlk, hK, hJ, hZ, hN⟩ := id hB
  intro n
  induction n with
  | zero =>
    intro V H locs ls hE hz hl
    exact absurd (show (none : Option (Mem)) = some o from hE) (by simp)
  | succ n ih =>
    intro V H locs ls hE hz hl
    unfold f_X7_nextToken_165 at hE
    refine lv_aload_n hx hb dX7_nextToken_165 rfl (lv_at hl 0 rfl) ?_
    refine g_X7_99 hB hz kdM_0 dX7_nextToken_166 ?_
    refine lv_aload_n hx hb dX7_nextToken_169 rfl (lv_at hl 0 rfl) ?_
    refine g_X7_86 hB hz kdM_0 dX7_nextToken_170 ?_
    refine lv_icmp_ge (tgt := 255) hx hb dX7_nextToken_173 (by decide) (fun c173 => ?_) (fun c173 => ?_)
    · have hE := (if_pos c173).symm.trans hE
      exact w_X7_nextToken_255 hB   _ _ _ _  hE hz (lv_sub hl [0] rfl)
    · have hE := (if_neg c173).symm.trans hE
      refine lv_aload_n hx hb dX7_nextToken_176 rfl (lv_at hl 0 rfl) ?_
      refine g_X7_31 hB hz kdM_0 dX7_nextToken_177 ?_
      refine lv_aload_n hx hb dX7_nextToken_180 rfl (lv_at hl 0 rfl) ?_
      refine g_X7_99 hB hz kdM_0 dX7_nextToken_181 ?_
      obtain ⟨hi184, hE⟩ := x_chk hE
      refine x_iald (n := 130) hB hz kdM_8 hi184 dX7_nextToken_184 ?_
      refine lv_i2l hx hb dX7_nextToken_185 rfl ?_
      refine lv_ldc2 (v := (48 : Int64)) hx hb hown (hT _ kw_869) dX7_nextToken_186 ?_
      refine lv_ldc2 (v := (57 : Int64)) hx hb hown (hT _ kw_870) dX7_nextToken_189 ?_
      obtain ⟨q192, hq192, hE⟩ := x_bind hE
      refine i_X7_69 hB hz (c_X7_in l g  hq192) ⟨(Nat.le_of_ble_eq_true rfl), (Nat.le_of_ble_eq_true rfl)⟩ hl.1 (Nat.le_of_ble_eq_true rfl) dX7_nextToken_192 (fun H locs hz => ?_)
      refine lv_if_eq (tgt := 255) hx hb dX7_nextToken_195 (by decide) (fun c195 => ?_) (fun c195 => ?_)
      · have hE := (if_pos c195).symm.trans hE
        exact w_X7_nextToken_255 hB   _ _ _ _  hE hz (lv_sub hl [0] rfl)
      · have hE := (if_neg c195).symm.trans hE
        refine lv_aload_n hx hb dX7_nextToken_198 rfl (lv_at hl 0 rfl) ?_
        refine lv_aload_n hx hb dX7_nextToken_199 rfl (lv_at hl 0 rfl) ?_
        refine g_X7_99 hB hz kdM_0 dX7_nextToken_200 ?_
        refine lv_aload_n hx hb dX7_nextToken_203 rfl (lv_at hl 0 rfl) ?_
        refine g_X7_93 hB hz kdM_0 dX7_nextToken_204 ?_
        refine lv_isub hx hb dX7_nextToken_207 ?_
        refine lv_iconst (v := (2 : Int32)) hx hb dX7_nextToken_208 (by decide) ?_
        refine lv_icmp_ge (tgt := 235) hx hb dX7_nextToken_209 (by decide) (fun c209 => ?_) (fun c209 => ?_)
        · have hE := (if_pos c209).symm.trans hE
          refine lv_aload_n hx hb dX7_nextToken_235 rfl (lv_at hl 0 rfl) ?_
          refine g_X7_103 hB hz kdM_0 dX7_nextToken_236 ?_
          exact w_X7_nextToken_239_c0 hB ih _ _ _ _ _  hE hz (lv_sub hl [0] rfl)
        · have hE := (if_neg c209).symm.trans hE
          refine lv_bipush (v := (10 : Int32)) hx hb dX7_nextToken_212 (by decide) ?_
          refine lv_aload_n hx hb dX7_nextToken_214 rfl (lv_at hl 0 rfl) ?_
          refine g_X7_103 hB hz kdM_0 dX7_nextToken_215 ?_
          refine lv_imul hx hb dX7_nextToken_218 ?_
          refine lv_aload_n hx hb dX7_nextToken_219 rfl (lv_at hl 0 rfl) ?_
          refine g_X7_31 hB hz kdM_0 dX7_nextToken_220 ?_
          refine lv_aload_n hx hb dX7_nextToken_223 rfl (lv_at hl 0 rfl) ?_
          refine g_X7_99 hB hz kdM_0 dX7_nextToken_224 ?_
          obtain ⟨hi227, hE⟩ := x_chk hE
          refine x_iald (n := 130) hB hz kdM_8 hi227 dX7_nextToken_227 ?_
          refine lv_iadd hx hb dX7_nextToken_228 ?_
          refine lv_bipush (v := (48 : Int32)) hx hb dX7_nextToken_229 (by decide) ?_
          refine lv_isub hx hb dX7_nextToken_231 ?_
          refine lv_goto (tgt := 239) hx hb dX7_nextToken_232 (by decide) ?_
          exact w_X7_nextToken_239_c0 hB ih _ _ _ _ _  hE hz (lv_sub hl [0] rfl)

set_option maxHeartbeats 4000000 in
set_option maxRecDepth 100000 in
theorem w_X7_nextToken_142_c0 {p : Program} {l : Launch} {e : Env} {s : State} {m : MethodId} {args : Array Value} {below : List Frame} {meth : Method} {c : Code} {g : GP} (hB : BX p s m args meth c g LM cX7_nextToken 1 RX7 none) {o : Mem} : ∀ (s1 : Int32) (s2 : Int32) (V : Mem) (H : Heap) (locs : List Loc) (ls : Array Slot), f_X7_nextToken_142_c0 s1 s2 V = some o → OK g LM V s H locs → lv_has ls 1 [(0, .ref (ad g 0))] → W p l e rm_X7_nextToken s m args below meth c H locs 0 0 (MQ below (QQ g LM none o) args s 0 0 (Ar g LM)) (F0 m 142 ls [.int s2, .int s1, .ref (ad g 0)]) := by
  obtain ⟨hx, hb, hml, hown, hT, hr, hlk, hK, hJ, hZ, hN⟩ := id hB
  intro s1 s2 V H locs ls hE hz hl
  unfold f_X7_nextToken_142_c0 at hE
  refine lv_iadd hx hb dX7_nextToken_142 ?_
  refine p_X7_99 hB hz kdM_0 dX7_nextToken_143 (fun H locs hz => ?_)
  refine lv_aload_n hx hb dX7_nextToken_146 rfl (lv_at hl 0 rfl) ?_
  refine g_X7_114 hB hz kdM_0 dX7_nextToken_147 ?_
  refine lv_iconst (v := (3 : Int32)) hx hb dX7_nextToken_150 (by decide) ?_
  refine lv_icmp_ne (tgt := 277) hx hb dX7_nextToken_151 (by decide) (fun c151 => ?_) (fun c151 => ?_)
  · have hE := (if_neg c151).symm.trans hE
    exact x_vret hB hz hE dX7_nextToken_277
  · have hE := (if_pos c151).symm.trans hE
    refine lv_aload_n hx hb dX7_nextToken_154 rfl (lv_at hl 0 rfl) ?_
    refine lv_dup hx hb dX7_nextToken_155 rfl ?_
    refine g_X7_103 hB hz kdM_0 dX7_nextToken_156 ?_
    refine lv_bipush (v := (48 : Int32)) hx hb dX7_nextToken_159 (by decide) ?_
    refine lv_isub hx hb dX7_nextToken_161 ?_
    refine p_X7_103 hB hz kdM_0 dX7_nextToken_162 (fun H locs hz => ?_)
    exact w_X7_nextToken_165 hB  _  _ _ _ _  hE hz (lv_sub hl [0] rfl)

set_option maxHeartbeats 4000000 in
set_option maxRecDepth 100000 in
theorem w_X7_nextToken_118_c0 {p : Program} {l : Launch} {e : Env} {s : State} {m : MethodId} {args : Array Value} {below : List Frame} {meth : Method} {c : Code} {g : GP} (hB : BX p s m args meth c g LM cX7_nextToken 1 RX7 none) {o : Mem} : ∀ (s1 : Int32) (V : Mem) (H : Heap) (locs : List Loc) (ls : Array Slot), f_X7_nextToken_118_c0 s1 V = some o → OK g LM V s H locs → lv_has ls 1 [(0, .ref (ad g 0))] → W p l e rm_X7_nextToken s m args below meth c H locs 0 0 (MQ below (QQ g LM none o) args s 0 0 (Ar g LM)) (F0 m 118 ls [.int s1, .ref (ad g 0)]) := by
  obtain ⟨hx, hb, hml, hown, hT, hr, hlk, hK, hJ, hZ, hN⟩ := id hB
  intro s1 V H locs ls hE hz hl
  unfold f_X7_nextToken_118_c0 at hE
  refine p_X7_114 hB hz kdM_0 dX7_nextToken_118 (fun H locs hz => ?_)
  refine lv_aload_n hx hb dX7_nextToken_121 rfl (lv_at hl 0 rfl) ?_
  refine lv_dup hx hb dX7_nextToken_122 rfl ?_
  refine g_X7_99 hB hz kdM_0 dX7_nextToken_123 ?_
  refine lv_aload_n hx hb dX7_nextToken_126 rfl (lv_at hl 0 rfl) ?_
  refine g_X7_99 hB hz kdM_0 dX7_nextToken_127 ?_
  refine lv_aload_n hx hb dX7_nextToken_130 rfl (lv_at hl 0 rfl) ?_
  refine g_X7_86 hB hz kdM_0 dX7_nextToken_131 ?_
  refine lv_icmp_ge (tgt := 141) hx hb dX7_nextToken_134 (by decide) (fun c134 => ?_) (fun c134 => ?_)
  · have hE := (if_pos c134).symm.trans hE
    refine lv_iconst (v := (0 : Int32)) hx hb dX7_nextToken_141 (by decide) ?_
    exact w_X7_nextToken_142_c0 hB  _ _ _ _ _ _  hE hz (lv_sub hl [0] rfl)
  · have hE := (if_neg c134).symm.trans hE
    refine lv_iconst (v := (1 : Int32)) hx hb dX7_nextToken_137 (by decide) ?_
    refine lv_goto (tgt := 142) hx hb dX7_nextToken_138 (by decide) ?_
    exact w_X7_nextToken_142_c0 hB  _ _ _ _ _ _  hE hz (lv_sub hl [0] rfl)

set_option maxHeartbeats 4000000 in
set_option maxRecDepth 100000 in
theorem w_X7_nextToken_34_c0 {p : Program} {l : Launch} {e : Env} {s : State} {m : MethodId} {args : Array Value} {below : List Frame} {meth : Method} {c : Code} {g : GP} (hB : BX p s m args meth c g LM cX7_nextToken 1 RX7 none) {o : Mem} : ∀ (s1 : Int32) (V : Mem) (H : Heap) (locs : List Loc) (ls : Array Slot), f_X7_nextToken_34_c0 s1 V = some o → OK g LM V s H locs → lv_has ls 1 [(0, .ref (ad g 0))] → W p l e rm_X7_nextToken s m args below meth c H locs 0 0 (MQ below (QQ g LM none o) args s 0 0 (Ar g LM)) (F0 m 34 ls [.int s1, .ref (ad g 0)]) := by
  obtain ⟨hx, hb, hml, hown, hT, hr, hlk, hK, hJ, hZ, hN⟩ := id hB
  intro s1 V H locs ls hE hz hl
  unfold f_X7_nextToken_34_c0 at hE
  refine p_X7_103 hB hz kdM_0 dX7_nextToken_34 (fun H locs hz => ?_)
  refine lv_aload_n hx hb dX7_nextToken_37 rfl (lv_at hl 0 rfl) ?_
  refine lv_aload_n hx hb dX7_nextToken_38 rfl (lv_at hl 0 rfl) ?_
  refine g_X7_99 hB hz kdM_0 dX7_nextToken_39 ?_
  refine lv_aload_n hx hb dX7_nextToken_42 rfl (lv_at hl 0 rfl) ?_
  refine g_X7_86 hB hz kdM_0 dX7_nextToken_43 ?_
  refine lv_icmp_ne (tgt := 53) hx hb dX7_nextToken_46 (by decide) (fun c46 => ?_) (fun c46 => ?_)
  · have hE := (if_neg c46).symm.trans hE
    refine lv_aload_n hx hb dX7_nextToken_53 rfl (lv_at hl 0 rfl) ?_
    refine g_X7_103 hB hz kdM_0 dX7_nextToken_54 ?_
    refine lv_i2l hx hb dX7_nextToken_57 rfl ?_
    refine lv_ldc2 (v := (97 : Int64)) hx hb hown (hT _ kw_867) dX7_nextToken_58 ?_
    refine lv_ldc2 (v := (122 : Int64)) hx hb hown (hT _ kw_868) dX7_nextToken_61 ?_
    obtain ⟨q64, hq64, hE⟩ := x_bind hE
    refine i_X7_69 hB hz (c_X7_in l g  hq64) ⟨(Nat.le_of_ble_eq_true rfl), (Nat.le_of_ble_eq_true rfl)⟩ hl.1 (Nat.le_of_ble_eq_true rfl) dX7_nextToken_64 (fun H locs hz => ?_)
    refine lv_if_eq (tgt := 74) hx hb dX7_nextToken_67 (by decide) (fun c67 => ?_) (fun c67 => ?_)
    · have hE := (if_pos c67).symm.trans hE
      refine lv_aload_n hx hb dX7_nextToken_74 rfl (lv_at hl 0 rfl) ?_
      refine g_X7_103 hB hz kdM_0 dX7_nextToken_75 ?_
      refine lv_i2l hx hb dX7_nextToken_78 rfl ?_
      refine lv_ldc2 (v := (48 : Int64)) hx hb hown (hT _ kw_869) dX7_nextToken_79 ?_
      refine lv_ldc2 (v := (57 : Int64)) hx hb hown (hT _ kw_870) dX7_nextToken_82 ?_
      obtain ⟨q85, hq85, hE⟩ := x_bind hE
      refine i_X7_69 hB hz (c_X7_in l g  hq85) ⟨(Nat.le_of_ble_eq_true rfl), (Nat.le_of_ble_eq_true rfl)⟩ hl.1 (Nat.le_of_ble_eq_true rfl) dX7_nextToken_85 (fun H locs hz => ?_)
      refine lv_if_eq (tgt := 95) hx hb dX7_nextToken_88 (by decide) (fun c88 => ?_) (fun c88 => ?_)
      · have hE := (if_pos c88).symm.trans hE
        refine lv_aload_n hx hb dX7_nextToken_95 rfl (lv_at hl 0 rfl) ?_
        refine g_X7_103 hB hz kdM_0 dX7_nextToken_96 ?_
        refine lv_bipush (v := (44 : Int32)) hx hb dX7_nextToken_99 (by decide) ?_
        refine lv_icmp_eq (tgt := 113) hx hb dX7_nextToken_101 (by decide) (fun c101 => ?_) (fun c101 => ?_)
        · have hE := (if_pos c101).symm.trans hE
          refine lv_iconst (v := (4 : Int32)) hx hb dX7_nextToken_113 (by decide) ?_
          refine lv_goto (tgt := 118) hx hb dX7_nextToken_114 (by decide) ?_
          exact w_X7_nextToken_118_c0 hB  _ _ _ _ _  hE hz (lv_sub hl [0] rfl)
        · have hE := (if_neg c101).symm.trans hE
          refine lv_aload_n hx hb dX7_nextToken_104 rfl (lv_at hl 0 rfl) ?_
          refine g_X7_103 hB hz kdM_0 dX7_nextToken_105 ?_
          refine lv_bipush (v := (59 : Int32)) hx hb dX7_nextToken_108 (by decide) ?_
          refine lv_icmp_ne (tgt := 117) hx hb dX7_nextToken_110 (by decide) (fun c110 => ?_) (fun c110 => ?_)
          · have hE := (if_neg c110).symm.trans hE
            refine lv_iconst (v := (0 : Int32)) hx hb dX7_nextToken_117 (by decide) ?_
            exact w_X7_nextToken_118_c0 hB  _ _ _ _ _  hE hz (lv_sub hl [0] rfl)
          · have hE := (if_pos c110).symm.trans hE
            refine lv_iconst (v := (4 : Int32)) hx hb dX7_nextToken_113 (by decide) ?_
            refine lv_goto (tgt := 118) hx hb dX7_nextToken_114 (by decide) ?_
            exact w_X7_nextToken_118_c0 hB  _ _ _ _ _  hE hz (lv_sub hl [0] rfl)
      · have hE := (if_neg c88).symm.trans hE
        refine lv_iconst (v := (3 : Int32)) hx hb dX7_nextToken_91 (by decide) ?_
        refine lv_goto (tgt := 118) hx hb dX7_nextToken_92 (by decide) ?_
        exact w_X7_nextToken_118_c0 hB  _ _ _ _ _  hE hz (lv_sub hl [0] rfl)
    · have hE := (if_neg c67).symm.trans hE
      refine lv_iconst (v := (2 : Int32)) hx hb dX7_nextToken_70 (by decide) ?_
      refine lv_goto (tgt := 118) hx hb dX7_nextToken_71 (by decide) ?_
      exact w_X7_nextToken_118_c0 hB  _ _ _ _ _  hE hz (lv_sub hl [0] rfl)
  · have hE := (if_pos c46).symm.trans hE
    refine lv_iconst (v := (1 : Int32)) hx hb dX7_nextToken_49 (by decide) ?_
    refine lv_goto (tgt := 118) hx hb dX7_nextToken_50 (by decide) ?_
    exact w_X7_nextToken_118_c0 hB  _ _ _ _ _  hE hz (lv_sub hl [0] rfl)

set_option maxHeartbeats 4000000 in
set_option maxRecDepth 100000 in
theorem w_X7_nextToken {p : Program} {l : Launch} {e : Env} {s : State} {m : MethodId} {args : Array Value} {below : List Frame} {meth : Method} {c : Code} {g : GP} (hB : BX p s m args meth c g LM cX7_nextToken 1 RX7 none) {o : Mem} : ∀ (V : Mem) (H : Heap) (locs : List Loc) (ls : Array Slot), f_X7_nextToken V = some o → OK g LM V s H locs → lv_has ls 1 [(0, .ref (ad g 0))] → W p l e rm_X7_nextToken s m args below meth c H locs 0 0 (MQ below (QQ g LM none o) args s 0 0 (Ar g LM)) (F0 m 0 ls []) := by
  obtain ⟨hx, hb, hml, hown, hT, hr, hlk, hK, hJ, hZ, hN⟩ := id hB
  intro V H locs ls hE hz hl
  unfold f_X7_nextToken at hE
  refine lv_aload_n hx hb dX7_nextToken_0 rfl (lv_at hl 0 rfl) ?_
  refine lv_aload_n hx hb dX7_nextToken_1 rfl (lv_at hl 0 rfl) ?_
  refine g_X7_99 hB hz kdM_0 dX7_nextToken_2 ?_
  refine p_X7_93 hB hz kdM_0 dX7_nextToken_5 (fun H locs hz => ?_)
  refine lv_aload_n hx hb dX7_nextToken_8 rfl (lv_at hl 0 rfl) ?_
  refine lv_aload_n hx hb dX7_nextToken_9 rfl (lv_at hl 0 rfl) ?_
  refine g_X7_99 hB hz kdM_0 dX7_nextToken_10 ?_
  refine lv_aload_n hx hb dX7_nextToken_13 rfl (lv_at hl 0 rfl) ?_
  refine g_X7_86 hB hz kdM_0 dX7_nextToken_14 ?_
  refine lv_icmp_ge (tgt := 32) hx hb dX7_nextToken_17 (by decide) (fun c17 => ?_) (fun c17 => ?_)
  · have hE := (if_pos c17).symm.trans hE
    refine lv_ldc (v := (-1000000 : Int32)) hx hb hown (hT _ kw_866) dX7_nextToken_32 ?_
    exact w_X7_nextToken_34_c0 hB  _ _ _ _ _  hE hz (lv_sub hl [0] rfl)
  · have hE := (if_neg c17).symm.trans hE
    refine lv_aload_n hx hb dX7_nextToken_20 rfl (lv_at hl 0 rfl) ?_
    refine g_X7_31 hB hz kdM_0 dX7_nextToken_21 ?_
    refine lv_aload_n hx hb dX7_nextToken_24 rfl (lv_at hl 0 rfl) ?_
    refine g_X7_99 hB hz kdM_0 dX7_nextToken_25 ?_
    obtain ⟨hi28, hE⟩ := x_chk hE
    refine x_iald (n := 130) hB hz kdM_8 hi28 dX7_nextToken_28 ?_
    refine lv_goto (tgt := 34) hx hb dX7_nextToken_29 (by decide) ?_
    exact w_X7_nextToken_34_c0 hB  _ _ _ _ _  hE hz (lv_sub hl [0] rfl)
theorem c_X7_nextToken (l : Launch) (g : GP) {V : Mem} {o : Mem} (hE : f_X7_nextToken V = some o) : CT l g LM yX7_nextToken cX7_nextToken 1 none rm_X7_nextToken [.ref (ad g 0)] V none o := by
  refine ct_of (by decide) (Nat.le_of_ble_eq_true rfl) ?_
  intro p e s m args below meth c ls hB hz hl
  exact w_X7_nextToken hB  _ _ _ _  hE hz hl
def rm_X7_must : Room := { frames := 2, cells := 0, slots := 0, locals := 45 }
theorem i_X7_121 {p : Program} {l : Launch} {e : Env} {R : Room} {s : State} {m : MethodId} {args : Array Value} {below : List Frame} {meth : Method} {c : Code} {H : Heap} {locs : List Loc} {Q : State → Prop} {cc : ByteArray} {pc : Nat} {ls : Array Slot} {rest : List Value} {g : GP} {V : Mem} {nL : Nat} {ret : Option FieldType} (hB : BX p s m args meth c g LM cc nL RX7 ret) (hz : OK g LM V s H locs) {i : Nat} (hk : KD LM i 6) {V1 : Mem} (hM : CT l g LM yX7_nextToken cX7_nextToken 1 none rm_X7_nextToken [.ref (ad g i)] V none V1) (hR : rm_X7_nextToken.frames + 1 ≤ R.frames ∧ 8 + (1 + 11) + rm_X7_nextToken.locals ≤ R.locals) (hsz : ls.size = nL) (hrest : (rest.map fun v => v.category).sum ≤ 8) (hdg : decode cc pc = .ok (.invokevirtual 121, 3)) (kk : ∀ (H1 : Heap) (locs1 : List Loc), OK g LM V1 s H1 locs1 → W p l e R s m args below meth c H1 locs1 0 0 Q (F0 m (pc + 3) ls (rest))) : W p l e R s m args below meth c H locs 0 0 Q (F0 m pc ls (.ref (ad g i) :: rest)) :=
  x_cv (As := []) (n := 0) (T := TX7) (N := 30) hB hz hM hk rfl rfl rfl rfl kw_865 kw_68 kw_862 kw_864 kw_25 (by decide +kernel) rfl hR hsz hrest hdg kk
theorem i_X7_117 {p : Program} {l : Launch} {e : Env} {R : Room} {s : State} {m : MethodId} {args : Array Value} {below : List Frame} {meth : Method} {c : Code} {H : Heap} {locs : List Loc} {Q : State → Prop} {cc : ByteArray} {pc : Nat} {ls : Array Slot} {rest : List Value} {g : GP} {V : Mem} {nL : Nat} {ret : Option FieldType} (hB : BX p s m args meth c g LM cc nL RX7 ret) (hz : OK g LM V s H locs) {i : Nat} (hk : KD LM i 6) {a0 : Int32} {V1 : Mem} (hM : CT l g LM yX7_bad cX7_bad 2 none rm_X7_bad [.ref (ad g i), .int a0] V none V1) (hR : rm_X7_bad.frames + 1 ≤ R.frames ∧ 8 + (2 + 11) + rm_X7_bad.locals ≤ R.locals) (hsz : ls.size = nL) (hrest : (rest.map fun v => v.category).sum ≤ 8) (hdg : decode cc pc = .ok (.invokevirtual 117, 3)) (kk : ∀ (H1 : Heap) (locs1 : List Loc), OK g LM V1 s H1 locs1 → W p l e R s m args below meth c H1 locs1 0 0 Q (F0 m (pc + 3) ls (rest))) : W p l e R s m args below meth c H locs 0 0 Q (F0 m pc ls (.int a0 :: .ref (ad g i) :: rest)) :=
  x_cv (As := [.int a0]) (n := 1) (T := TX7) (N := 30) hB hz hM hk rfl rfl rfl rfl kw_882 kw_68 kw_879 kw_881 kw_28 (by decide +kernel) rfl hR hsz hrest hdg kk
set_option maxHeartbeats 4000000 in
set_option maxRecDepth 100000 in
theorem w_X7_must_9 {p : Program} {l : Launch} {e : Env} {s : State} {m : MethodId} {args : Array Value} {below : List Frame} {meth : Method} {c : Code} {g : GP} (hB : BX p s m args meth c g LM cX7_must 2 RX7 none) {o : Mem} : ∀ (V : Mem) (H : Heap) (locs : List Loc) (ls : Array Slot), f_X7_must_9 V = some o → OK g LM V s H locs → lv_has ls 2 [(0, .ref (ad g 0))] → W p l e rm_X7_must s m args below meth c H locs 0 0 (MQ below (QQ g LM none o) args s 0 0 (Ar g LM)) (F0 m 9 ls []) := by
  obtain ⟨hx, hb, hml, hown, hT, hr, hlk, hK, hJ, hZ, hN⟩ := id hB
  intro V H locs ls hE hz hl
  unfold f_X7_must_9 at hE
  refine lv_aload_n hx hb dX7_must_9 rfl (lv_at hl 0 rfl) ?_
  refine g_X7_90 hB hz kdM_0 dX7_must_10 ?_
  refine lv_if_ne (tgt := 20) hx hb dX7_must_13 (by decide) (fun c13 => ?_) (fun c13 => ?_)
  · have hE := (if_neg c13).symm.trans hE
    exact x_vret hB hz hE dX7_must_20
  · have hE := (if_pos c13).symm.trans hE
    refine lv_aload_n hx hb dX7_must_16 rfl (lv_at hl 0 rfl) ?_
    obtain ⟨q17, hq17, hE⟩ := x_bind hE
    refine i_X7_121 hB hz kdM_0 (c_X7_nextToken l g  hq17) ⟨(Nat.le_of_ble_eq_true rfl), (Nat.le_of_ble_eq_true rfl)⟩ hl.1 (Nat.le_of_ble_eq_true rfl) dX7_must_17 (fun H locs hz => ?_)
    exact x_vret hB hz hE dX7_must_20

set_option maxHeartbeats 4000000 in
set_option maxRecDepth 100000 in
theorem w_X7_must {p : Program} {l : Launch} {e : Env} {s : State} {m : MethodId} {args : Array Value} {below : List Frame} {meth : Method} {c : Code} {g : GP} (hB : BX p s m args meth c g LM cX7_must 2 RX7 none) {o : Mem} : ∀ (x1 : Int32) (V : Mem) (H : Heap) (locs : List Loc) (ls : Array Slot), f_X7_must x1 V = some o → OK g LM V s H locs → lv_has ls 2 [(0, .ref (ad g 0)), (1, .int x1)] → W p l e rm_X7_must s m args below meth c H locs 0 0 (MQ below (QQ g LM none o) args s 0 0 (Ar g LM)) (F0 m 0 ls []) := by
  obtain ⟨hx, hb, hml, hown, hT, hr, hlk, hK, hJ, hZ, hN⟩ := id hB
  intro x1 V H locs ls hE hz hl
  unfold f_X7_must at hE
  refine lv_iload_n hx hb dX7_must_0 rfl (lv_at hl 1 rfl) ?_
  refine lv_if_ne (tgt := 9) hx hb dX7_must_1 (by decide) (fun c1 => ?_) (fun c1 => ?_)
  · have hE := (if_neg c1).symm.trans hE
    exact w_X7_must_9 hB   _ _ _ _  hE hz (lv_sub hl [0] rfl)
  · have hE := (if_pos c1).symm.trans hE
    refine lv_aload_n hx hb dX7_must_4 rfl (lv_at hl 0 rfl) ?_
    refine lv_iconst (v := (1 : Int32)) hx hb dX7_must_5 (by decide) ?_
    obtain ⟨q6, hq6, hE⟩ := x_bind hE
    refine i_X7_117 hB hz kdM_0 (c_X7_bad l g  hq6) ⟨(Nat.le_of_ble_eq_true rfl), (Nat.le_of_ble_eq_true rfl)⟩ hl.1 (Nat.le_of_ble_eq_true rfl) dX7_must_6 (fun H locs hz => ?_)
    exact w_X7_must_9 hB   _ _ _ _  hE hz (lv_sub hl [0] rfl)
theorem c_X7_must (l : Launch) (g : GP) {x1 : Int32} {V : Mem} {o : Mem} (hE : f_X7_must x1 V = some o) : CT l g LM yX7_must cX7_must 2 none rm_X7_must [.ref (ad g 0), .int x1] V none o := by
  refine ct_of (by decide) (Nat.le_of_ble_eq_true rfl) ?_
  intro p e s m args below meth c ls hB hz hl
  exact w_X7_must hB _ _ _ _ _  hE hz hl
def rm_X7_isLetter : Room := { frames := 0, cells := 0, slots := 0, locals := 0 }
set_option maxHeartbeats 4000000 in
set_option maxRecDepth 100000 in
theorem w_X7_isLetter {p : Program} {l : Launch} {e : Env} {s : State} {m : MethodId} {args : Array Value} {below : List Frame} {meth : Method} {c : Code} {g : GP} (hB : BX p s m args meth c g LM cX7_isLetter 2 RX7 (some .boolean)) {o : Int32 × Mem} : ∀ (x1 : Int32) (V : Mem) (H : Heap) (locs : List Loc) (ls : Array Slot), f_X7_isLetter x1 V = some o → OK g LM V s H locs → lv_has ls 2 [(0, .ref (ad g 0)), (1, .int x1)] → W p l e rm_X7_isLetter s m args below meth c H locs 0 0 (MQ below (QQ g LM (some (.int o.1)) o.2) args s 0 0 (Ar g LM)) (F0 m 0 ls []) := by
  obtain ⟨hx, hb, hml, hown, hT, hr, hlk, hK, hJ, hZ, hN⟩ := id hB
  intro x1 V H locs ls hE hz hl
  unfold f_X7_isLetter at hE
  refine lv_aload_n hx hb dX7_isLetter_0 rfl (lv_at hl 0 rfl) ?_
  refine g_X7_90 hB hz kdM_0 dX7_isLetter_1 ?_
  refine lv_if_ne (tgt := 27) hx hb dX7_isLetter_4 (by decide) (fun c4 => ?_) (fun c4 => ?_)
  · have hE := (if_neg c4).symm.trans hE
    refine lv_iconst (v := (0 : Int32)) hx hb dX7_isLetter_27 (by decide) ?_
    exact x_zret hB hz hE (by decide) dX7_isLetter_28
  · have hE := (if_pos c4).symm.trans hE
    refine lv_aload_n hx hb dX7_isLetter_7 rfl (lv_at hl 0 rfl) ?_
    refine g_X7_114 hB hz kdM_0 dX7_isLetter_8 ?_
    refine lv_iconst (v := (2 : Int32)) hx hb dX7_isLetter_11 (by decide) ?_
    refine lv_icmp_ne (tgt := 27) hx hb dX7_isLetter_12 (by decide) (fun c12 => ?_) (fun c12 => ?_)
    · have hE := (if_neg c12).symm.trans hE
      refine lv_iconst (v := (0 : Int32)) hx hb dX7_isLetter_27 (by decide) ?_
      exact x_zret hB hz hE (by decide) dX7_isLetter_28
    · have hE := (if_pos c12).symm.trans hE
      refine lv_aload_n hx hb dX7_isLetter_15 rfl (lv_at hl 0 rfl) ?_
      refine g_X7_103 hB hz kdM_0 dX7_isLetter_16 ?_
      refine lv_iload_n hx hb dX7_isLetter_19 rfl (lv_at hl 1 rfl) ?_
      refine lv_icmp_ne (tgt := 27) hx hb dX7_isLetter_20 (by decide) (fun c20 => ?_) (fun c20 => ?_)
      · have hE := (if_neg c20).symm.trans hE
        refine lv_iconst (v := (0 : Int32)) hx hb dX7_isLetter_27 (by decide) ?_
        exact x_zret hB hz hE (by decide) dX7_isLetter_28
      · have hE := (if_pos c20).symm.trans hE
        refine lv_iconst (v := (1 : Int32)) hx hb dX7_isLetter_23 (by decide) ?_
        refine lv_goto (tgt := 28) hx hb dX7_isLetter_24 (by decide) ?_
        exact x_zret hB hz hE (by decide) dX7_isLetter_28
theorem c_X7_isLetter (l : Launch) (g : GP) {x1 : Int32} {V : Mem} {o : Int32 × Mem} (hE : f_X7_isLetter x1 V = some o) : CT l g LM yX7_isLetter cX7_isLetter 2 (some .boolean) rm_X7_isLetter [.ref (ad g 0), .int x1] V (some (.int o.1)) o.2 := by
  refine ct_of (by decide) (Nat.le_of_ble_eq_true rfl) ?_
  intro p e s m args below meth c ls hB hz hl
  exact w_X7_isLetter hB _ _ _ _ _  hE hz hl
def rm_X7_number : Room := { frames := 3, cells := 0, slots := 0, locals := 66 }
theorem i_X7_124 {p : Program} {l : Launch} {e : Env} {R : Room} {s : State} {m : MethodId} {args : Array Value} {below : List Frame} {meth : Method} {c : Code} {H : Heap} {locs : List Loc} {Q : State → Prop} {cc : ByteArray} {pc : Nat} {ls : Array Slot} {rest : List Value} {g : GP} {V : Mem} {nL : Nat} {ret : Option FieldType} (hB : BX p s m args meth c g LM cc nL RX7 ret) (hz : OK g LM V s H locs) {i : Nat} (hk : KD LM i 6) {a0 : Int32} {V1 : Mem} (hM : CT l g LM yX7_must cX7_must 2 none rm_X7_must [.ref (ad g i), .int a0] V none V1) (hR : rm_X7_must.frames + 1 ≤ R.frames ∧ 8 + (2 + 11) + rm_X7_must.locals ≤ R.locals) (hsz : ls.size = nL) (hrest : (rest.map fun v => v.category).sum ≤ 8) (hdg : decode cc pc = .ok (.invokevirtual 124, 3)) (kk : ∀ (H1 : Heap) (locs1 : List Loc), OK g LM V1 s H1 locs1 → W p l e R s m args below meth c H1 locs1 0 0 Q (F0 m (pc + 3) ls (rest))) : W p l e R s m args below meth c H locs 0 0 Q (F0 m pc ls (.int a0 :: .ref (ad g i) :: rest)) :=
  x_cv (As := [.int a0]) (n := 1) (T := TX7) (N := 30) hB hz hM hk rfl rfl rfl rfl kw_878 kw_68 kw_875 kw_877 kw_27 (by decide +kernel) rfl hR hsz hrest hdg kk
set_option maxHeartbeats 4000000 in
set_option maxRecDepth 100000 in
theorem w_X7_number_62 {p : Program} {l : Launch} {e : Env} {s : State} {m : MethodId} {args : Array Value} {below : List Frame} {meth : Method} {c : Code} {g : GP} (hB : BX p s m args meth c g LM cX7_number 4 RX7 (some .int)) {o : Int32 × Mem} : ∀ (s0 : Int32) (V : Mem) (H : Heap) (locs : List Loc) (ls : Array Slot), f_X7_number_62 s0 V = some o → OK g LM V s H locs → lv_has ls 4 [(0, .ref (ad g 0))] → W p l e rm_X7_number s m args below meth c H locs 0 0 (MQ below (QQ g LM (some (.int o.1)) o.2) args s 0 0 (Ar g LM)) (F0 m 62 ls [.int s0]) := by
  obtain ⟨hx, hb, hml, hown, hT, hr, hlk, hK, hJ, hZ, hN⟩ := id hB
  intro s0 V H locs ls hE hz hl
  unfold f_X7_number_62 at hE
  refine lv_istore_n (lv' := [(3, .int s0), (0, .ref (ad g 0))]) hx hb dX7_number_62 rfl hl (by decide) rfl (fun ls hl => ?_)
  refine lv_aload_n hx hb dX7_number_63 rfl (lv_at hl 1 rfl) ?_
  refine lv_iconst (v := (1 : Int32)) hx hb dX7_number_64 (by decide) ?_
  obtain ⟨q65, hq65, hE⟩ := x_bind hE
  refine i_X7_124 hB hz kdM_0 (c_X7_must l g  hq65) ⟨(Nat.le_of_ble_eq_true rfl), (Nat.le_of_ble_eq_true rfl)⟩ hl.1 (Nat.le_of_ble_eq_true rfl) dX7_number_65 (fun H locs hz => ?_)
  refine lv_iload_n hx hb dX7_number_68 rfl (lv_at hl 0 rfl) ?_
  exact x_iret hB hz hE dX7_number_69

set_option maxHeartbeats 4000000 in
set_option maxRecDepth 100000 in
theorem w_X7_number_47 {p : Program} {l : Launch} {e : Env} {s : State} {m : MethodId} {args : Array Value} {below : List Frame} {meth : Method} {c : Code} {g : GP} (hB : BX p s m args meth c g LM cX7_number 4 RX7 (some .int)) {o : Int32 × Mem} : ∀ (x1 : Int32) (V : Mem) (H : Heap) (locs : List Loc) (ls : Array Slot), f_X7_number_47 x1 V = some o → OK g LM V s H locs → lv_has ls 4 [(0, .ref (ad g 0)), (1, .int x1)] → W p l e rm_X7_number s m args below meth c H locs 0 0 (MQ below (QQ g LM (some (.int o.1)) o.2) args s 0 0 (Ar g LM)) (F0 m 47 ls []) := by
  obtain ⟨hx, hb, hml, hown, hT, hr, hlk, hK, hJ, hZ, hN⟩ := id hB
  intro x1 V H locs ls hE hz hl
  unfold f_X7_number_47 at hE
  refine lv_aload_n hx hb dX7_number_47 rfl (lv_at hl 0 rfl) ?_
  refine g_X7_90 hB hz kdM_0 dX7_number_48 ?_
  refine lv_if_ne (tgt := 61) hx hb dX7_number_51 (by decide) (fun c51 => ?_) (fun c51 => ?_)
  · have hE := (if_neg c51).symm.trans hE
    refine lv_iload_n hx hb dX7_number_61 rfl (lv_at hl 1 rfl) ?_
    exact w_X7_number_62 hB  _ _ _ _ _  hE hz (lv_sub hl [0] rfl)
  · have hE := (if_pos c51).symm.trans hE
    refine lv_aload_n hx hb dX7_number_54 rfl (lv_at hl 0 rfl) ?_
    refine g_X7_103 hB hz kdM_0 dX7_number_55 ?_
    refine lv_goto (tgt := 62) hx hb dX7_number_58 (by decide) ?_
    exact w_X7_number_62 hB  _ _ _ _ _  hE hz (lv_sub hl [0] rfl)

set_option maxHeartbeats 4000000 in
set_option maxRecDepth 100000 in
theorem w_X7_number_20 {p : Program} {l : Launch} {e : Env} {s : State} {m : MethodId} {args : Array Value} {below : List Frame} {meth : Method} {c : Code} {g : GP} (hB : BX p s m args meth c g LM cX7_number 4 RX7 (some .int)) {o : Int32 × Mem} : ∀ (x1 : Int32) (x2 : Int32) (V : Mem) (H : Heap) (locs : List Loc) (ls : Array Slot), f_X7_number_20 x1 x2 V = some o → OK g LM V s H locs → lv_has ls 4 [(0, .ref (ad g 0)), (1, .int x1), (2, .int x2)] → W p l e rm_X7_number s m args below meth c H locs 0 0 (MQ below (QQ g LM (some (.int o.1)) o.2) args s 0 0 (Ar g LM)) (F0 m 20 ls []) := by
  obtain ⟨hx, hb, hml, hown, hT, hr, hlk, hK, hJ, hZ, hN⟩ := id hB
  intro x1 x2 V H locs ls hE hz hl
  unfold f_X7_number_20 at hE
  refine lv_aload_n hx hb dX7_number_20 rfl (lv_at hl 0 rfl) ?_
  refine g_X7_90 hB hz kdM_0 dX7_number_21 ?_
  refine lv_if_ne (tgt := 47) hx hb dX7_number_24 (by decide) (fun c24 => ?_) (fun c24 => ?_)
  · have hE := (if_neg c24).symm.trans hE
    exact w_X7_number_47 hB  _ _ _ _ _  hE hz (lv_sub hl [0, 1] rfl)
  · have hE := (if_pos c24).symm.trans hE
    refine lv_aload_n hx hb dX7_number_27 rfl (lv_at hl 0 rfl) ?_
    refine g_X7_103 hB hz kdM_0 dX7_number_28 ?_
    refine lv_i2l hx hb dX7_number_31 rfl ?_
    refine lv_iload_n hx hb dX7_number_32 rfl (lv_at hl 1 rfl) ?_
    refine lv_i2l hx hb dX7_number_33 rfl ?_
    refine lv_iload_n hx hb dX7_number_34 rfl (lv_at hl 2 rfl) ?_
    refine lv_i2l hx hb dX7_number_35 rfl ?_
    obtain ⟨q36, hq36, hE⟩ := x_bind hE
    refine i_X7_69 hB hz (c_X7_in l g  hq36) ⟨(Nat.le_of_ble_eq_true rfl), (Nat.le_of_ble_eq_true rfl)⟩ hl.1 (Nat.le_of_ble_eq_true rfl) dX7_number_36 (fun H locs hz => ?_)
    refine lv_if_ne (tgt := 47) hx hb dX7_number_39 (by decide) (fun c39 => ?_) (fun c39 => ?_)
    · have hE := (if_neg c39).symm.trans hE
      exact w_X7_number_47 hB  _ _ _ _ _  hE hz (lv_sub hl [0, 1] rfl)
    · have hE := (if_pos c39).symm.trans hE
      refine lv_aload_n hx hb dX7_number_42 rfl (lv_at hl 0 rfl) ?_
      refine lv_iconst (v := (2 : Int32)) hx hb dX7_number_43 (by decide) ?_
      obtain ⟨q44, hq44, hE⟩ := x_bind hE
      refine i_X7_117 hB hz kdM_0 (c_X7_bad l g  hq44) ⟨(Nat.le_of_ble_eq_true rfl), (Nat.le_of_ble_eq_true rfl)⟩ hl.1 (Nat.le_of_ble_eq_true rfl) dX7_number_44 (fun H locs hz => ?_)
      exact w_X7_number_47 hB  _ _ _ _ _  hE hz (lv_sub hl [0, 1] rfl)

set_option maxHeartbeats 4000000 in
set_option maxRecDepth 100000 in
theorem w_X7_number {p : Program} {l : Launch} {e : Env} {s : State} {m : MethodId} {args : Array Value} {below : List Frame} {meth : Method} {c : Code} {g : GP} (hB : BX p s m args meth c g LM cX7_number 4 RX7 (some .int)) {o : Int32 × Mem} : ∀ (x1 : Int32) (x2 : Int32) (V : Mem) (H : Heap) (locs : List Loc) (ls : Array Slot), f_X7_number x1 x2 V = some o → OK g LM V s H locs → lv_has ls 4 [(0, .ref (ad g 0)), (1, .int x1), (2, .int x2)] → W p l e rm_X7_number s m args below meth c H locs 0 0 (MQ below (QQ g LM (some (.int o.1)) o.2) args s 0 0 (Ar g LM)) (F0 m 0 ls []) := by
  obtain ⟨hx, hb, hml, hown, hT, hr, hlk, hK, hJ, hZ, hN⟩ := id hB
  intro x1 x2 V H locs ls hE hz hl
  unfold f_X7_number at hE
  refine lv_aload_n hx hb dX7_number_0 rfl (lv_at hl 0 rfl) ?_
  refine g_X7_90 hB hz kdM_0 dX7_number_1 ?_
  refine lv_if_ne (tgt := 20) hx hb dX7_number_4 (by decide) (fun c4 => ?_) (fun c4 => ?_)
  · have hE := (if_neg c4).symm.trans hE
    exact w_X7_number_20 hB  _ _ _ _ _ _  hE hz (lv_sub hl [0, 1, 2] rfl)
  · have hE := (if_pos c4).symm.trans hE
    refine lv_aload_n hx hb dX7_number_7 rfl (lv_at hl 0 rfl) ?_
    refine g_X7_114 hB hz kdM_0 dX7_number_8 ?_
    refine lv_iconst (v := (3 : Int32)) hx hb dX7_number_11 (by decide) ?_
    refine lv_icmp_eq (tgt := 20) hx hb dX7_number_12 (by decide) (fun c12 => ?_) (fun c12 => ?_)
    · have hE := (if_pos c12).symm.trans hE
      exact w_X7_number_20 hB  _ _ _ _ _ _  hE hz (lv_sub hl [0, 1, 2] rfl)
    · have hE := (if_neg c12).symm.trans hE
      refine lv_aload_n hx hb dX7_number_15 rfl (lv_at hl 0 rfl) ?_
      refine lv_iconst (v := (1 : Int32)) hx hb dX7_number_16 (by decide) ?_
      obtain ⟨q17, hq17, hE⟩ := x_bind hE
      refine i_X7_117 hB hz kdM_0 (c_X7_bad l g  hq17) ⟨(Nat.le_of_ble_eq_true rfl), (Nat.le_of_ble_eq_true rfl)⟩ hl.1 (Nat.le_of_ble_eq_true rfl) dX7_number_17 (fun H locs hz => ?_)
      exact w_X7_number_20 hB  _ _ _ _ _ _  hE hz (lv_sub hl [0, 1, 2] rfl)
theorem c_X7_number (l : Launch) (g : GP) {x1 : Int32} {x2 : Int32} {V : Mem} {o : Int32 × Mem} (hE : f_X7_number x1 x2 V = some o) : CT l g LM yX7_number cX7_number 4 (some .int) rm_X7_number [.ref (ad g 0), .int x1, .int x2] V (some (.int o.1)) o.2 := by
  refine ct_of (by decide) (Nat.le_of_ble_eq_true rfl) ?_
  intro p e s m args below meth c ls hB hz hl
  exact w_X7_number hB _ _ _ _ _ _  hE hz hl
def rm_X7_mustSign : Room := { frames := 3, cells := 0, slots := 0, locals := 66 }
set_option maxHeartbeats 4000000 in
set_option maxRecDepth 100000 in
theorem w_X7_mustSign_22_c0 {p : Program} {l : Launch} {e : Env} {s : State} {m : MethodId} {args : Array Value} {below : List Frame} {meth : Method} {c : Code} {g : GP} (hB : BX p s m args meth c g LM cX7_mustSign 2 RX7 none) {o : Mem} : ∀ (s1 : Int32) (V : Mem) (H : Heap) (locs : List Loc) (ls : Array Slot), f_X7_mustSign_22_c0 s1 V = some o → OK g LM V s H locs → lv_has ls 2 [] → W p l e rm_X7_mustSign s m args below meth c H locs 0 0 (MQ below (QQ g LM none o) args s 0 0 (Ar g LM)) (F0 m 22 ls [.int s1, .ref (ad g 0)]) := by
  obtain ⟨hx, hb, hml, hown, hT, hr, hlk, hK, hJ, hZ, hN⟩ := id hB
  intro s1 V H locs ls hE hz hl
  unfold f_X7_mustSign_22_c0 at hE
  obtain ⟨q22, hq22, hE⟩ := x_bind hE
  refine i_X7_124 hB hz kdM_0 (c_X7_must l g  hq22) ⟨(Nat.le_of_ble_eq_true rfl), (Nat.le_of_ble_eq_true rfl)⟩ hl.1 (Nat.le_of_ble_eq_true rfl) dX7_mustSign_22 (fun H locs hz => ?_)
  exact x_vret hB hz hE dX7_mustSign_25

set_option maxHeartbeats 4000000 in
set_option maxRecDepth 100000 in
theorem w_X7_mustSign {p : Program} {l : Launch} {e : Env} {s : State} {m : MethodId} {args : Array Value} {below : List Frame} {meth : Method} {c : Code} {g : GP} (hB : BX p s m args meth c g LM cX7_mustSign 2 RX7 none) {o : Mem} : ∀ (x1 : Int32) (V : Mem) (H : Heap) (locs : List Loc) (ls : Array Slot), f_X7_mustSign x1 V = some o → OK g LM V s H locs → lv_has ls 2 [(0, .ref (ad g 0)), (1, .int x1)] → W p l e rm_X7_mustSign s m args below meth c H locs 0 0 (MQ below (QQ g LM none o) args s 0 0 (Ar g LM)) (F0 m 0 ls []) := by
  obtain ⟨hx, hb, hml, hown, hT, hr, hlk, hK, hJ, hZ, hN⟩ := id hB
  intro x1 V H locs ls hE hz hl
  unfold f_X7_mustSign at hE
  refine lv_aload_n hx hb dX7_mustSign_0 rfl (lv_at hl 0 rfl) ?_
  refine lv_aload_n hx hb dX7_mustSign_1 rfl (lv_at hl 0 rfl) ?_
  refine g_X7_114 hB hz kdM_0 dX7_mustSign_2 ?_
  refine lv_iconst (v := (4 : Int32)) hx hb dX7_mustSign_5 (by decide) ?_
  refine lv_icmp_ne (tgt := 21) hx hb dX7_mustSign_6 (by decide) (fun c6 => ?_) (fun c6 => ?_)
  · have hE := (if_neg c6).symm.trans hE
    refine lv_iconst (v := (0 : Int32)) hx hb dX7_mustSign_21 (by decide) ?_
    exact w_X7_mustSign_22_c0 hB  _ _ _ _ _  hE hz (lv_sub hl [] rfl)
  · have hE := (if_pos c6).symm.trans hE
    refine lv_aload_n hx hb dX7_mustSign_9 rfl (lv_at hl 0 rfl) ?_
    refine g_X7_103 hB hz kdM_0 dX7_mustSign_10 ?_
    refine lv_iload_n hx hb dX7_mustSign_13 rfl (lv_at hl 1 rfl) ?_
    refine lv_icmp_ne (tgt := 21) hx hb dX7_mustSign_14 (by decide) (fun c14 => ?_) (fun c14 => ?_)
    · have hE := (if_neg c14).symm.trans hE
      refine lv_iconst (v := (0 : Int32)) hx hb dX7_mustSign_21 (by decide) ?_
      exact w_X7_mustSign_22_c0 hB  _ _ _ _ _  hE hz (lv_sub hl [] rfl)
    · have hE := (if_pos c14).symm.trans hE
      refine lv_iconst (v := (1 : Int32)) hx hb dX7_mustSign_17 (by decide) ?_
      refine lv_goto (tgt := 22) hx hb dX7_mustSign_18 (by decide) ?_
      exact w_X7_mustSign_22_c0 hB  _ _ _ _ _  hE hz (lv_sub hl [] rfl)
theorem c_X7_mustSign (l : Launch) (g : GP) {x1 : Int32} {V : Mem} {o : Mem} (hE : f_X7_mustSign x1 V = some o) : CT l g LM yX7_mustSign cX7_mustSign 2 none rm_X7_mustSign [.ref (ad g 0), .int x1] V none o := by
  refine ct_of (by decide) (Nat.le_of_ble_eq_true rfl) ?_
  intro p e s m args below meth c ls hB hz hl
  exact w_X7_mustSign hB _ _ _ _ _  hE hz hl
def rm_X7_begin : Room := { frames := 2, cells := 0, slots := 0, locals := 45 }
set_option maxHeartbeats 4000000 in
set_option maxRecDepth 100000 in
theorem w_X7_begin {p : Program} {l : Launch} {e : Env} {s : State} {m : MethodId} {args : Array Value} {below : List Frame} {meth : Method} {c : Code} {g : GP} (hB : BX p s m args meth c g LM cX7_begin 1 RX7 none) {o : Mem} : ∀ (V : Mem) (H : Heap) (locs : List Loc) (ls : Array Slot), f_X7_begin V = some o → OK g LM V s H locs → lv_has ls 1 [(0, .ref (ad g 0))] → W p l e rm_X7_begin s m args below meth c H locs 0 0 (MQ below (QQ g LM none o) args s 0 0 (Ar g LM)) (F0 m 0 ls []) := by
  obtain ⟨hx, hb, hml, hown, hT, hr, hlk, hK, hJ, hZ, hN⟩ := id hB
  intro V H locs ls hE hz hl
  unfold f_X7_begin at hE
  refine lv_aload_n hx hb dX7_begin_0 rfl (lv_at hl 0 rfl) ?_
  refine lv_iconst (v := (0 : Int32)) hx hb dX7_begin_1 (by decide) ?_
  refine p_X7_99 hB hz kdM_0 dX7_begin_2 (fun H locs hz => ?_)
  refine lv_aload_n hx hb dX7_begin_5 rfl (lv_at hl 0 rfl) ?_
  refine lv_iconst (v := (0 : Int32)) hx hb dX7_begin_6 (by decide) ?_
  refine p_X7_90 hB hz kdM_0 dX7_begin_7 (fun H locs hz => ?_)
  refine lv_aload_n hx hb dX7_begin_10 rfl (lv_at hl 0 rfl) ?_
  obtain ⟨q11, hq11, hE⟩ := x_bind hE
  refine i_X7_121 hB hz kdM_0 (c_X7_nextToken l g  hq11) ⟨(Nat.le_of_ble_eq_true rfl), (Nat.le_of_ble_eq_true rfl)⟩ hl.1 (Nat.le_of_ble_eq_true rfl) dX7_begin_11 (fun H locs hz => ?_)
  exact x_vret hB hz hE dX7_begin_14
theorem c_X7_begin (l : Launch) (g : GP) {V : Mem} {o : Mem} (hE : f_X7_begin V = some o) : CT l g LM yX7_begin cX7_begin 1 none rm_X7_begin [.ref (ad g 0)] V none o := by
  refine ct_of (by decide) (Nat.le_of_ble_eq_true rfl) ?_
  intro p e s m args below meth c ls hB hz hl
  exact w_X7_begin hB  _ _ _ _  hE hz hl

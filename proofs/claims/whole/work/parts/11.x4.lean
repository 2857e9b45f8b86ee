def rm_X4_add : Room := { frames := 0, cells := 0, slots := 0, locals := 0 }
set_option maxHeartbeats 4000000 in
set_option maxRecDepth 100000 in
theorem w_X4_add {p : Program} {l : Launch} {e : Env} {s : State} {m : MethodId} {args : Array Value} {below : List Frame} {meth : Method} {c : Code} {g : GP} (hB : BX p s m args meth c g LX cX4_add 2 RX4 none) {z : Nat} (k_z : KD LX z 3) {o : Mem} : ∀ (x1 : Int32) (V : Mem) (H : Heap) (locs : List Loc) (ls : Array Slot), f_X4_add z x1 V = some o → OK g LX V s H locs → lv_has ls 2 [(0, .ref (ad g z)), (1, .int x1)] → W p l e rm_X4_add s m args below meth c H locs 0 0 (MQ below (QQ g LX none o) args s 0 0 (Ar g LX)) (F0 m 0 ls []) := by
  obtain ⟨hx, hb, hml, hown, hT, hr, hlk, hK, hJ, hZ, hN⟩ := id hB
  intro x1 V H locs ls hE hz hl
  unfold f_X4_add at hE
  refine lv_aload_n hx hb dX4_add_0 rfl (lv_at hl 0 rfl) ?_
  refine g_X4_15 hB hz k_z dX4_add_1 ?_
  refine lv_aload_n hx hb dX4_add_4 rfl (lv_at hl 0 rfl) ?_
  refine g_X4_9 hB hz k_z dX4_add_5 ?_
  refine x_clen hB hz (kd_sg k_z) dX4_add_8 ?_
  refine lv_icmp_ge (tgt := 33) hx hb dX4_add_9 (by decide) (fun c9 => ?_) (fun c9 => ?_)
  · have hE := (if_pos c9).symm.trans hE
    exact x_vret hB hz hE dX4_add_33
  · have hE := (if_neg c9).symm.trans hE
    refine lv_aload_n hx hb dX4_add_12 rfl (lv_at hl 0 rfl) ?_
    refine g_X4_9 hB hz k_z dX4_add_13 ?_
    refine lv_aload_n hx hb dX4_add_16 rfl (lv_at hl 0 rfl) ?_
    refine g_X4_15 hB hz k_z dX4_add_17 ?_
    refine lv_iload_n hx hb dX4_add_20 rfl (lv_at hl 1 rfl) ?_
    refine lv_i2c hx hb dX4_add_21 rfl ?_
    obtain ⟨hi22, hE⟩ := x_chk hE
    refine x_cast hB hz (kd_sg k_z) hi22 dX4_add_22 (fun H locs hz => ?_)
    refine lv_aload_n hx hb dX4_add_23 rfl (lv_at hl 0 rfl) ?_
    refine lv_dup hx hb dX4_add_24 rfl ?_
    refine g_X4_15 hB hz k_z dX4_add_25 ?_
    refine lv_iconst (v := (1 : Int32)) hx hb dX4_add_28 (by decide) ?_
    refine lv_iadd hx hb dX4_add_29 ?_
    refine p_X4_15 hB hz k_z dX4_add_30 (fun H locs hz => ?_)
    exact x_vret hB hz hE dX4_add_33
theorem c_X4_add (l : Launch) (g : GP) {z : Nat} (k_z : KD LX z 3) {x1 : Int32} {V : Mem} {o : Mem} (hE : f_X4_add z x1 V = some o) : CT l g LX yX4_add cX4_add 2 none rm_X4_add [.ref (ad g z), .int x1] V none o := by
  refine ct_of (by decide) (Nat.le_of_ble_eq_true rfl) ?_
  intro p e s m args below meth c ls hB hz hl
  exact w_X4_add hB k_z _ _ _ _ _  hE hz hl
def rm_X4_addFigures : Room := { frames := 1, cells := 0, slots := 0, locals := 21 }
theorem i_X4_30 {p : Program} {l : Launch} {e : Env} {R : Room} {s : State} {m : MethodId} {args : Array Value} {below : List Frame} {meth : Method} {c : Code} {H : Heap} {locs : List Loc} {Q : State → Prop} {cc : ByteArray} {pc : Nat} {ls : Array Slot} {rest : List Value} {g : GP} {V : Mem} {nL : Nat} {ret : Option FieldType} (hB : BX p s m args meth c g LX cc nL RX4 ret) (hz : OK g LX V s H locs) {i : Nat} (hk : KD LX i 3) {a0 : Int32} {V1 : Mem} (hM : CT l g LX yX4_add cX4_add 2 none rm_X4_add [.ref (ad g i), .int a0] V none V1) (hR : rm_X4_add.frames + 1 ≤ R.frames ∧ 8 + (2 + 11) + rm_X4_add.locals ≤ R.locals) (hsz : ls.size = nL) (hrest : (rest.map fun v => v.category).sum ≤ 8) (hdg : decode cc pc = .ok (.invokevirtual 30, 3)) (kk : ∀ (H1 : Heap) (locs1 : List Loc), OK g LX V1 s H1 locs1 → W p l e R s m args below meth c H1 locs1 0 0 Q (F0 m (pc + 3) ls (rest))) : W p l e R s m args below meth c H locs 0 0 Q (F0 m pc ls (.int a0 :: .ref (ad g i) :: rest)) :=
  x_cv (As := [.int a0]) (n := 1) (T := TX4) (N := 2) hB hz hM hk rfl rfl rfl rfl kw_495 kw_66 kw_504 kw_493 kw_494 (by decide +kernel) rfl hR hsz hrest hdg kk
set_option maxHeartbeats 4000000 in
set_option maxRecDepth 100000 in
theorem w_X4_addFigures_31 {p : Program} {l : Launch} {e : Env} {s : State} {m : MethodId} {args : Array Value} {below : List Frame} {meth : Method} {c : Code} {g : GP} (hB : BX p s m args meth c g LX cX4_addFigures 3 RX4 none) {z : Nat} (k_z : KD LX z 3) {o : Mem} {k4 : Int32 → Int32 → Mem → Option (Mem)} (hk4 : ∀ (x1 : Int32) (x2 : Int32) (V : Mem) (H : Heap) (locs : List Loc) (ls : Array Slot), k4 x1 x2 V = some o → OK g LX V s H locs → lv_has ls 3 [(0, .ref (ad g z)), (1, .int x1), (2, .int x2)] → W p l e rm_X4_addFigures s m args below meth c H locs 0 0 (MQ below (QQ g LX none o) args s 0 0 (Ar g LX)) (F0 m 4 ls [])) : ∀ (x1 : Int32) (x2 : Int32) (V : Mem) (H : Heap) (locs : List Loc) (ls : Array Slot), f_X4_addFigures_31 z k4 x1 x2 V = some o → OK g LX V s H locs → lv_has ls 3 [(0, .ref (ad g z)), (1, .int x1), (2, .int x2)] → W p l e rm_X4_addFigures s m args below meth c H locs 0 0 (MQ below (QQ g LX none o) args s 0 0 (Ar g LX)) (F0 m 31 ls []) := by
  obtain ⟨hx, hb, hml, hown, hT, hr, hlk, hK, hJ, hZ, hN⟩ := id hB
  intro x1 x2 V H locs ls hE hz hl
  unfold f_X4_addFigures_31 at hE
  refine lv_iload_n hx hb dX4_addFigures_31 rfl (lv_at hl 2 rfl) ?_
  refine lv_bipush (v := (10 : Int32)) hx hb dX4_addFigures_32 (by decide) ?_
  refine lv_idiv hx hb dX4_addFigures_34 (by decide) ?_
  refine lv_istore_n (lv' := [(2, .int (x2 / (10 : Int32))), (0, .ref (ad g z)), (1, .int x1)]) hx hb dX4_addFigures_35 rfl hl (by decide) rfl (fun ls hl => ?_)
  refine lv_goto (tgt := 4) hx hb dX4_addFigures_36 (by decide) ?_
  exact hk4 _ _ _ _ _ _  hE hz (lv_sub hl [1, 2, 0] rfl)

set_option maxHeartbeats 4000000 in
set_option maxRecDepth 100000 in
theorem w_X4_addFigures_18 {p : Program} {l : Launch} {e : Env} {s : State} {m : MethodId} {args : Array Value} {below : List Frame} {meth : Method} {c : Code} {g : GP} (hB : BX p s m args meth c g LX cX4_addFigures 3 RX4 none) {z : Nat} (k_z : KD LX z 3) {o : Mem} {k4 : Int32 → Int32 → Mem → Option (Mem)} (hk4 : ∀ (x1 : Int32) (x2 : Int32) (V : Mem) (H : Heap) (locs : List Loc) (ls : Array Slot), k4 x1 x2 V = some o → OK g LX V s H locs → lv_has ls 3 [(0, .ref (ad g z)), (1, .int x1), (2, .int x2)] → W p l e rm_X4_addFigures s m args below meth c H locs 0 0 (MQ below (QQ g LX none o) args s 0 0 (Ar g LX)) (F0 m 4 ls [])) : ∀ (x1 : Int32) (x2 : Int32) (V : Mem) (H : Heap) (locs : List Loc) (ls : Array Slot), f_X4_addFigures_18 z k4 x1 x2 V = some o → OK g LX V s H locs → lv_has ls 3 [(0, .ref (ad g z)), (1, .int x1), (2, .int x2)] → W p l e rm_X4_addFigures s m args below meth c H locs 0 0 (MQ below (QQ g LX none o) args s 0 0 (Ar g LX)) (F0 m 18 ls []) := by
  obtain ⟨hx, hb, hml, hown, hT, hr, hlk, hK, hJ, hZ, hN⟩ := id hB
  intro x1 x2 V H locs ls hE hz hl
  unfold f_X4_addFigures_18 at hE
  refine lv_aload_n hx hb dX4_addFigures_18 rfl (lv_at hl 0 rfl) ?_
  refine lv_bipush (v := (48 : Int32)) hx hb dX4_addFigures_19 (by decide) ?_
  refine lv_iload_n hx hb dX4_addFigures_21 rfl (lv_at hl 1 rfl) ?_
  refine lv_iload_n hx hb dX4_addFigures_22 rfl (lv_at hl 2 rfl) ?_
  obtain ⟨hn23, hE⟩ := x_ne0 hE
  refine lv_idiv hx hb dX4_addFigures_23 hn23 ?_
  refine lv_bipush (v := (10 : Int32)) hx hb dX4_addFigures_24 (by decide) ?_
  refine lv_irem hx hb dX4_addFigures_26 (by decide) ?_
  refine lv_iadd hx hb dX4_addFigures_27 ?_
  obtain ⟨q28, hq28, hE⟩ := x_bind hE
  refine i_X4_30 hB hz k_z (c_X4_add l g k_z hq28) ⟨(Nat.le_of_ble_eq_true rfl), (Nat.le_of_ble_eq_true rfl)⟩ hl.1 (Nat.le_of_ble_eq_true rfl) dX4_addFigures_28 (fun H locs hz => ?_)
  exact w_X4_addFigures_31 hB k_z hk4 _ _ _ _ _ _  hE hz (lv_sub hl [0, 1, 2] rfl)

set_option maxHeartbeats 4000000 in
set_option maxRecDepth 100000 in
theorem w_X4_addFigures_4 {p : Program} {l : Launch} {e : Env} {s : State} {m : MethodId} {args : Array Value} {below : List Frame} {meth : Method} {c : Code} {g : GP} (hB : BX p s m args meth c g LX cX4_addFigures 3 RX4 none) {z : Nat} (k_z : KD LX z 3) {o : Mem} : ∀ (n : Nat), ∀ (x1 : Int32) (x2 : Int32) (V : Mem) (H : Heap) (locs : List Loc) (ls : Array Slot), f_X4_addFigures_4 z n x1 x2 V = some o → OK g LX V s H locs → lv_has ls 3 [(0, .ref (ad g z)), (1, .int x1), (2, .int x2)] → W p l e rm_X4_addFigures s m args below meth c H locs 0 0 (MQ below (QQ g LX none o) args s 0 0 (Ar g LX)) (F0 m 4 ls []) := by
  obtain ⟨hx, hb, hml, hown, hT, hr, hlk, hK, hJ, hZ, hN⟩ := id hB
  intro n
  induction n with
  | zero =>
    intro x1 x2 V H locs ls hE hz hl
    exact absurd (show (none : Option (Mem)) = some o from hE) (by simp)
  | succ n ih =>
    intro x1 x2 V H locs ls hE hz hl
    unfold f_X4_addFigures_4 at hE
    refine lv_iload_n hx hb dX4_addFigures_4 rfl (lv_at hl 2 rfl) ?_
    refine lv_if_le (tgt := 39) hx hb dX4_addFigures_5 (by decide) (fun c5 => ?_) (fun c5 => ?_)
    · have hE := (if_pos c5).symm.trans hE
      exact x_vret hB hz hE dX4_addFigures_39
    · have hE := (if_neg c5).symm.trans hE
      refine lv_iload_n hx hb dX4_addFigures_8 rfl (lv_at hl 1 rfl) ?_
      refine lv_iload_n hx hb dX4_addFigures_9 rfl (lv_at hl 2 rfl) ?_
      refine lv_icmp_ge (tgt := 18) hx hb dX4_addFigures_10 (by decide) (fun c10 => ?_) (fun c10 => ?_)
      · have hE := (if_pos c10).symm.trans hE
        exact w_X4_addFigures_18 hB k_z ih _ _ _ _ _ _  hE hz (lv_sub hl [0, 1, 2] rfl)
      · have hE := (if_neg c10).symm.trans hE
        refine lv_iload_n hx hb dX4_addFigures_13 rfl (lv_at hl 2 rfl) ?_
        refine lv_iconst (v := (1 : Int32)) hx hb dX4_addFigures_14 (by decide) ?_
        refine lv_icmp_ne (tgt := 31) hx hb dX4_addFigures_15 (by decide) (fun c15 => ?_) (fun c15 => ?_)
        · have hE := (if_neg c15).symm.trans hE
          exact w_X4_addFigures_31 hB k_z ih _ _ _ _ _ _  hE hz (lv_sub hl [0, 1, 2] rfl)
        · have hE := (if_pos c15).symm.trans hE
          exact w_X4_addFigures_18 hB k_z ih _ _ _ _ _ _  hE hz (lv_sub hl [0, 1, 2] rfl)

set_option maxHeartbeats 4000000 in
set_option maxRecDepth 100000 in
theorem w_X4_addFigures {p : Program} {l : Launch} {e : Env} {s : State} {m : MethodId} {args : Array Value} {below : List Frame} {meth : Method} {c : Code} {g : GP} (hB : BX p s m args meth c g LX cX4_addFigures 3 RX4 none) {z : Nat} (k_z : KD LX z 3) {o : Mem} : ∀ (x1 : Int32) (V : Mem) (H : Heap) (locs : List Loc) (ls : Array Slot), f_X4_addFigures z x1 V = some o → OK g LX V s H locs → lv_has ls 3 [(0, .ref (ad g z)), (1, .int x1)] → W p l e rm_X4_addFigures s m args below meth c H locs 0 0 (MQ below (QQ g LX none o) args s 0 0 (Ar g LX)) (F0 m 0 ls []) := by
  obtain ⟨hx, hb, hml, hown, hT, hr, hlk, hK, hJ, hZ, hN⟩ := id hB
  intro x1 V H locs ls hE hz hl
  unfold f_X4_addFigures at hE
  refine lv_sipush (v := (1000 : Int32)) hx hb dX4_addFigures_0 (by decide) ?_
  refine lv_istore_n (lv' := [(2, .int (1000 : Int32)), (0, .ref (ad g z)), (1, .int x1)]) hx hb dX4_addFigures_3 rfl hl (by decide) rfl (fun ls hl => ?_)
  exact w_X4_addFigures_4 hB k_z  _ _ _ _ _ _ _  hE hz (lv_sub hl [1, 2, 0] rfl)
theorem c_X4_addFigures (l : Launch) (g : GP) {z : Nat} (k_z : KD LX z 3) {x1 : Int32} {V : Mem} {o : Mem} (hE : f_X4_addFigures z x1 V = some o) : CT l g LX yX4_addFigures cX4_addFigures 3 none rm_X4_addFigures [.ref (ad g z), .int x1] V none o := by
  refine ct_of (by decide) (Nat.le_of_ble_eq_true rfl) ?_
  intro p e s m args below meth c ls hB hz hl
  exact w_X4_addFigures hB k_z _ _ _ _ _  hE hz hl
def rm_X4_addRoman : Room := { frames := 1, cells := 0, slots := 0, locals := 21 }
set_option maxHeartbeats 4000000 in
set_option maxRecDepth 100000 in
theorem w_X4_addRoman_47 {p : Program} {l : Launch} {e : Env} {s : State} {m : MethodId} {args : Array Value} {below : List Frame} {meth : Method} {c : Code} {g : GP} (hB : BX p s m args meth c g LX cX4_addRoman 4 RX4 none) {z : Nat} (k_z : KD LX z 3) {o : Mem} {k12 : Int32 → Int32 → Mem → Option (Mem)} (hk12 : ∀ (x2 : Int32) (x3 : Int32) (V : Mem) (H : Heap) (locs : List Loc) (ls : Array Slot), k12 x2 x3 V = some o → OK g LX V s H locs → lv_has ls 4 [(0, .ref (ad g z)), (2, .int x2), (3, .int x3)] → W p l e rm_X4_addRoman s m args below meth c H locs 0 0 (MQ below (QQ g LX none o) args s 0 0 (Ar g LX)) (F0 m 12 ls [])) : ∀ (x2 : Int32) (x3 : Int32) (V : Mem) (H : Heap) (locs : List Loc) (ls : Array Slot), f_X4_addRoman_47 z k12 x2 x3 V = some o → OK g LX V s H locs → lv_has ls 4 [(0, .ref (ad g z)), (2, .int x2), (3, .int x3)] → W p l e rm_X4_addRoman s m args below meth c H locs 0 0 (MQ below (QQ g LX none o) args s 0 0 (Ar g LX)) (F0 m 47 ls []) := by
  obtain ⟨hx, hb, hml, hown, hT, hr, hlk, hK, hJ, hZ, hN⟩ := id hB
  intro x2 x3 V H locs ls hE hz hl
  unfold f_X4_addRoman_47 at hE
  refine lv_iload_n hx hb dX4_addRoman_47 rfl (lv_at hl 1 rfl) ?_
  refine x_gstN (k := 4) (by decide) hB hz (by decide) (by decide) dX4_addRoman_48 ?_
  refine lv_iload_n hx hb dX4_addRoman_51 rfl (lv_at hl 2 rfl) ?_
  obtain ⟨hi52, hE⟩ := x_chk hE
  refine x_sti (k := 4) (by decide) rfl hB hz hi52 dX4_addRoman_52 ?_
  refine lv_isub hx hb dX4_addRoman_53 ?_
  refine lv_istore_n (lv' := [(2, .int (x2 - (tba 4 (x3).toNatClampNeg))), (0, .ref (ad g z)), (3, .int x3)]) hx hb dX4_addRoman_54 rfl hl (by decide) rfl (fun ls hl => ?_)
  refine lv_goto (tgt := 12) hx hb dX4_addRoman_55 (by decide) ?_
  exact hk12 _ _ _ _ _ _  hE hz (lv_sub hl [1, 0, 2] rfl)

set_option maxHeartbeats 4000000 in
set_option maxRecDepth 100000 in
theorem w_X4_addRoman_12 {p : Program} {l : Launch} {e : Env} {s : State} {m : MethodId} {args : Array Value} {below : List Frame} {meth : Method} {c : Code} {g : GP} (hB : BX p s m args meth c g LX cX4_addRoman 4 RX4 none) {z : Nat} (k_z : KD LX z 3) {o : Mem} {k4 : Int32 → Int32 → Mem → Option (Mem)} (hk4 : ∀ (x2 : Int32) (x3 : Int32) (V : Mem) (H : Heap) (locs : List Loc) (ls : Array Slot), k4 x2 x3 V = some o → OK g LX V s H locs → lv_has ls 4 [(0, .ref (ad g z)), (2, .int x2), (3, .int x3)] → W p l e rm_X4_addRoman s m args below meth c H locs 0 0 (MQ below (QQ g LX none o) args s 0 0 (Ar g LX)) (F0 m 4 ls [])) : ∀ (n : Nat), ∀ (x2 : Int32) (x3 : Int32) (V : Mem) (H : Heap) (locs : List Loc) (ls : Array Slot), f_X4_addRoman_12 z k4 n x2 x3 V = some o → OK g LX V s H locs → lv_has ls 4 [(0, .ref (ad g z)), (2, .int x2), (3, .int x3)] → W p l e rm_X4_addRoman s m args below meth c H locs 0 0 (MQ below (QQ g LX none o) args s 0 0 (Ar g LX)) (F0 m 12 ls []) := by
  obtain ⟨hx, hb, hml, hown, hT, hr, hlk, hK, hJ, hZ, hN⟩ := id hB
  intro n
  induction n with
  | zero =>
    intro x2 x3 V H locs ls hE hz hl
    exact absurd (show (none : Option (Mem)) = some o from hE) (by simp)
  | succ n ih =>
    intro x2 x3 V H locs ls hE hz hl
    unfold f_X4_addRoman_12 at hE
    refine lv_iload_n hx hb dX4_addRoman_12 rfl (lv_at hl 1 rfl) ?_
    refine x_gstN (k := 4) (by decide) hB hz (by decide) (by decide) dX4_addRoman_13 ?_
    refine lv_iload_n hx hb dX4_addRoman_16 rfl (lv_at hl 2 rfl) ?_
    obtain ⟨hi17, hE⟩ := x_chk hE
    refine x_sti (k := 4) (by decide) rfl hB hz hi17 dX4_addRoman_17 ?_
    refine lv_icmp_lt (tgt := 58) hx hb dX4_addRoman_18 (by decide) (fun c18 => ?_) (fun c18 => ?_)
    · have hE := (if_pos c18).symm.trans hE
      refine lv_iinc (v := (x3 + 1)) (lv' := [(3, .int (x3 + 1)), (0, .ref (ad g z)), (2, .int x2)]) hx hb dX4_addRoman_58 hl (k := 2) rfl rfl (by decide) rfl (fun ls hl => ?_)
      refine lv_goto (tgt := 4) hx hb dX4_addRoman_61 (by decide) ?_
      exact hk4 _ _ _ _ _ _  hE hz (lv_sub hl [1, 2, 0] rfl)
    · have hE := (if_neg c18).symm.trans hE
      refine lv_aload_n hx hb dX4_addRoman_21 rfl (lv_at hl 0 rfl) ?_
      refine x_gstN (k := 5) (by decide) hB hz (by decide) (by decide) dX4_addRoman_22 ?_
      refine lv_iload_n hx hb dX4_addRoman_25 rfl (lv_at hl 2 rfl) ?_
      obtain ⟨hi26, hE⟩ := x_chk hE
      refine x_stc (k := 5) (by decide) rfl hB hz hi26 dX4_addRoman_26 ?_
      obtain ⟨q27, hq27, hE⟩ := x_bind hE
      refine i_X4_30 hB hz k_z (c_X4_add l g k_z hq27) ⟨(Nat.le_of_ble_eq_true rfl), (Nat.le_of_ble_eq_true rfl)⟩ hl.1 (Nat.le_of_ble_eq_true rfl) dX4_addRoman_27 (fun H locs hz => ?_)
      refine x_gstN (k := 6) (by decide) hB hz (by decide) (by decide) dX4_addRoman_30 ?_
      refine lv_iload_n hx hb dX4_addRoman_33 rfl (lv_at hl 2 rfl) ?_
      obtain ⟨hi34, hE⟩ := x_chk hE
      refine x_stc (k := 6) (by decide) rfl hB hz hi34 dX4_addRoman_34 ?_
      refine lv_if_eq (tgt := 47) hx hb dX4_addRoman_35 (by decide) (fun c35 => ?_) (fun c35 => ?_)
      · have hE := (if_pos c35).symm.trans hE
        exact w_X4_addRoman_47 hB k_z ih _ _ _ _ _ _  hE hz (lv_sub hl [0, 1, 2] rfl)
      · have hE := (if_neg c35).symm.trans hE
        refine lv_aload_n hx hb dX4_addRoman_38 rfl (lv_at hl 0 rfl) ?_
        refine x_gstN (k := 6) (by decide) hB hz (by decide) (by decide) dX4_addRoman_39 ?_
        refine lv_iload_n hx hb dX4_addRoman_42 rfl (lv_at hl 2 rfl) ?_
        obtain ⟨hi43, hE⟩ := x_chk hE
        refine x_stc (k := 6) (by decide) rfl hB hz hi43 dX4_addRoman_43 ?_
        obtain ⟨q44, hq44, hE⟩ := x_bind hE
        refine i_X4_30 hB hz k_z (c_X4_add l g k_z hq44) ⟨(Nat.le_of_ble_eq_true rfl), (Nat.le_of_ble_eq_true rfl)⟩ hl.1 (Nat.le_of_ble_eq_true rfl) dX4_addRoman_44 (fun H locs hz => ?_)
        exact w_X4_addRoman_47 hB k_z ih _ _ _ _ _ _  hE hz (lv_sub hl [0, 1, 2] rfl)

set_option maxHeartbeats 4000000 in
set_option maxRecDepth 100000 in
theorem w_X4_addRoman_4 {p : Program} {l : Launch} {e : Env} {s : State} {m : MethodId} {args : Array Value} {below : List Frame} {meth : Method} {c : Code} {g : GP} (hB : BX p s m args meth c g LX cX4_addRoman 4 RX4 none) {z : Nat} (k_z : KD LX z 3) {o : Mem} : ∀ (n : Nat), ∀ (x2 : Int32) (x3 : Int32) (V : Mem) (H : Heap) (locs : List Loc) (ls : Array Slot), f_X4_addRoman_4 z n x2 x3 V = some o → OK g LX V s H locs → lv_has ls 4 [(0, .ref (ad g z)), (2, .int x2), (3, .int x3)] → W p l e rm_X4_addRoman s m args below meth c H locs 0 0 (MQ below (QQ g LX none o) args s 0 0 (Ar g LX)) (F0 m 4 ls []) := by
  obtain ⟨hx, hb, hml, hown, hT, hr, hlk, hK, hJ, hZ, hN⟩ := id hB
  intro n
  induction n with
  | zero =>
    intro x2 x3 V H locs ls hE hz hl
    exact absurd (show (none : Option (Mem)) = some o from hE) (by simp)
  | succ n ih =>
    intro x2 x3 V H locs ls hE hz hl
    unfold f_X4_addRoman_4 at hE
    refine lv_iload_n hx hb dX4_addRoman_4 rfl (lv_at hl 2 rfl) ?_
    refine x_gstN (k := 4) (by decide) hB hz (by decide) (by decide) dX4_addRoman_5 ?_
    refine x_slen (k := 4) (v := (7 : Int32)) (by decide) (by decide) hB hz dX4_addRoman_8 ?_
    refine lv_icmp_ge (tgt := 64) hx hb dX4_addRoman_9 (by decide) (fun c9 => ?_) (fun c9 => ?_)
    · have hE := (if_pos c9).symm.trans hE
      exact x_vret hB hz hE dX4_addRoman_64
    · have hE := (if_neg c9).symm.trans hE
      exact w_X4_addRoman_12 hB k_z ih _ _ _ _ _ _ _  hE hz (lv_sub hl [0, 1, 2] rfl)

set_option maxHeartbeats 4000000 in
set_option maxRecDepth 100000 in
theorem w_X4_addRoman {p : Program} {l : Launch} {e : Env} {s : State} {m : MethodId} {args : Array Value} {below : List Frame} {meth : Method} {c : Code} {g : GP} (hB : BX p s m args meth c g LX cX4_addRoman 4 RX4 none) {z : Nat} (k_z : KD LX z 3) {o : Mem} : ∀ (x1 : Int32) (V : Mem) (H : Heap) (locs : List Loc) (ls : Array Slot), f_X4_addRoman z x1 V = some o → OK g LX V s H locs → lv_has ls 4 [(0, .ref (ad g z)), (1, .int x1)] → W p l e rm_X4_addRoman s m args below meth c H locs 0 0 (MQ below (QQ g LX none o) args s 0 0 (Ar g LX)) (F0 m 0 ls []) := by
  obtain ⟨hx, hb, hml, hown, hT, hr, hlk, hK, hJ, hZ, hN⟩ := id hB
  intro x1 V H locs ls hE hz hl
  unfold f_X4_addRoman at hE
  refine lv_iload_n hx hb dX4_addRoman_0 rfl (lv_at hl 1 rfl) ?_
  refine lv_istore_n (lv' := [(2, .int x1), (0, .ref (ad g z)), (1, .int x1)]) hx hb dX4_addRoman_1 rfl hl (by decide) rfl (fun ls hl => ?_)
  refine lv_iconst (v := (0 : Int32)) hx hb dX4_addRoman_2 (by decide) ?_
  refine lv_istore_n (lv' := [(3, .int (0 : Int32)), (2, .int x1), (0, .ref (ad g z)), (1, .int x1)]) hx hb dX4_addRoman_3 rfl hl (by decide) rfl (fun ls hl => ?_)
  exact w_X4_addRoman_4 hB k_z  _ _ _ _ _ _ _  hE hz (lv_sub hl [2, 1, 0] rfl)
theorem c_X4_addRoman (l : Launch) (g : GP) {z : Nat} (k_z : KD LX z 3) {x1 : Int32} {V : Mem} {o : Mem} (hE : f_X4_addRoman z x1 V = some o) : CT l g LX yX4_addRoman cX4_addRoman 4 none rm_X4_addRoman [.ref (ad g z), .int x1] V none o := by
  refine ct_of (by decide) (Nat.le_of_ble_eq_true rfl) ?_
  intro p e s m args below meth c ls hB hz hl
  exact w_X4_addRoman hB k_z _ _ _ _ _  hE hz hl
def rm_X4_addLetters : Room := { frames := 1, cells := 0, slots := 0, locals := 21 }
set_option maxHeartbeats 4000000 in
set_option maxRecDepth 100000 in
theorem w_X4_addLetters_20 {p : Program} {l : Launch} {e : Env} {s : State} {m : MethodId} {args : Array Value} {below : List Frame} {meth : Method} {c : Code} {g : GP} (hB : BX p s m args meth c g LX cX4_addLetters 3 RX4 none) {z : Nat} (k_z : KD LX z 3) {o : Mem} : ∀ (x1 : Int32) (x2 : Int32) (V : Mem) (H : Heap) (locs : List Loc) (ls : Array Slot), f_X4_addLetters_20 z x1 x2 V = some o → OK g LX V s H locs → lv_has ls 3 [(0, .ref (ad g z)), (1, .int x1), (2, .int x2)] → W p l e rm_X4_addLetters s m args below meth c H locs 0 0 (MQ below (QQ g LX none o) args s 0 0 (Ar g LX)) (F0 m 20 ls []) := by
  obtain ⟨hx, hb, hml, hown, hT, hr, hlk, hK, hJ, hZ, hN⟩ := id hB
  intro x1 x2 V H locs ls hE hz hl
  unfold f_X4_addLetters_20 at hE
  refine lv_aload_n hx hb dX4_addLetters_20 rfl (lv_at hl 0 rfl) ?_
  refine lv_iload_n hx hb dX4_addLetters_21 rfl (lv_at hl 2 rfl) ?_
  refine lv_iload_n hx hb dX4_addLetters_22 rfl (lv_at hl 1 rfl) ?_
  refine lv_iconst (v := (1 : Int32)) hx hb dX4_addLetters_23 (by decide) ?_
  refine lv_isub hx hb dX4_addLetters_24 ?_
  refine lv_bipush (v := (26 : Int32)) hx hb dX4_addLetters_25 (by decide) ?_
  refine lv_irem hx hb dX4_addLetters_27 (by decide) ?_
  refine lv_iadd hx hb dX4_addLetters_28 ?_
  obtain ⟨q29, hq29, hE⟩ := x_bind hE
  refine i_X4_30 hB hz k_z (c_X4_add l g k_z hq29) ⟨(Nat.le_of_ble_eq_true rfl), (Nat.le_of_ble_eq_true rfl)⟩ hl.1 (Nat.le_of_ble_eq_true rfl) dX4_addLetters_29 (fun H locs hz => ?_)
  exact x_vret hB hz hE dX4_addLetters_32

set_option maxHeartbeats 4000000 in
set_option maxRecDepth 100000 in
theorem w_X4_addLetters {p : Program} {l : Launch} {e : Env} {s : State} {m : MethodId} {args : Array Value} {below : List Frame} {meth : Method} {c : Code} {g : GP} (hB : BX p s m args meth c g LX cX4_addLetters 3 RX4 none) {z : Nat} (k_z : KD LX z 3) {o : Mem} : ∀ (x1 : Int32) (x2 : Int32) (V : Mem) (H : Heap) (locs : List Loc) (ls : Array Slot), f_X4_addLetters z x1 x2 V = some o → OK g LX V s H locs → lv_has ls 3 [(0, .ref (ad g z)), (1, .int x1), (2, .int x2)] → W p l e rm_X4_addLetters s m args below meth c H locs 0 0 (MQ below (QQ g LX none o) args s 0 0 (Ar g LX)) (F0 m 0 ls []) := by
  obtain ⟨hx, hb, hml, hown, hT, hr, hlk, hK, hJ, hZ, hN⟩ := id hB
  intro x1 x2 V H locs ls hE hz hl
  unfold f_X4_addLetters at hE
  refine lv_iload_n hx hb dX4_addLetters_0 rfl (lv_at hl 1 rfl) ?_
  refine lv_bipush (v := (26 : Int32)) hx hb dX4_addLetters_1 (by decide) ?_
  refine lv_icmp_le (tgt := 20) hx hb dX4_addLetters_3 (by decide) (fun c3 => ?_) (fun c3 => ?_)
  · have hE := (if_pos c3).symm.trans hE
    exact w_X4_addLetters_20 hB k_z  _ _ _ _ _ _  hE hz (lv_sub hl [0, 1, 2] rfl)
  · have hE := (if_neg c3).symm.trans hE
    refine lv_aload_n hx hb dX4_addLetters_6 rfl (lv_at hl 0 rfl) ?_
    refine lv_iload_n hx hb dX4_addLetters_7 rfl (lv_at hl 2 rfl) ?_
    refine lv_iload_n hx hb dX4_addLetters_8 rfl (lv_at hl 1 rfl) ?_
    refine lv_iconst (v := (1 : Int32)) hx hb dX4_addLetters_9 (by decide) ?_
    refine lv_isub hx hb dX4_addLetters_10 ?_
    refine lv_bipush (v := (26 : Int32)) hx hb dX4_addLetters_11 (by decide) ?_
    refine lv_idiv hx hb dX4_addLetters_13 (by decide) ?_
    refine lv_iadd hx hb dX4_addLetters_14 ?_
    refine lv_iconst (v := (1 : Int32)) hx hb dX4_addLetters_15 (by decide) ?_
    refine lv_isub hx hb dX4_addLetters_16 ?_
    obtain ⟨q17, hq17, hE⟩ := x_bind hE
    refine i_X4_30 hB hz k_z (c_X4_add l g k_z hq17) ⟨(Nat.le_of_ble_eq_true rfl), (Nat.le_of_ble_eq_true rfl)⟩ hl.1 (Nat.le_of_ble_eq_true rfl) dX4_addLetters_17 (fun H locs hz => ?_)
    exact w_X4_addLetters_20 hB k_z  _ _ _ _ _ _  hE hz (lv_sub hl [0, 1, 2] rfl)
theorem c_X4_addLetters (l : Launch) (g : GP) {z : Nat} (k_z : KD LX z 3) {x1 : Int32} {x2 : Int32} {V : Mem} {o : Mem} (hE : f_X4_addLetters z x1 x2 V = some o) : CT l g LX yX4_addLetters cX4_addLetters 3 none rm_X4_addLetters [.ref (ad g z), .int x1, .int x2] V none o := by
  refine ct_of (by decide) (Nat.le_of_ble_eq_true rfl) ?_
  intro p e s m args below meth c ls hB hz hl
  exact w_X4_addLetters hB k_z _ _ _ _ _ _  hE hz hl
def rm_X4_addNumerals : Room := { frames := 2, cells := 0, slots := 0, locals := 44 }
theorem i_X4_19 {p : Program} {l : Launch} {e : Env} {R : Room} {s : State} {m : MethodId} {args : Array Value} {below : List Frame} {meth : Method} {c : Code} {H : Heap} {locs : List Loc} {Q : State → Prop} {cc : ByteArray} {pc : Nat} {ls : Array Slot} {rest : List Value} {g : GP} {V : Mem} {nL : Nat} {ret : Option FieldType} (hB : BX p s m args meth c g LX cc nL RX4 ret) (hz : OK g LX V s H locs) {i : Nat} (hk : KD LX i 3) {a0 : Int32} {V1 : Mem} (hM : CT l g LX yX4_addFigures cX4_addFigures 3 none rm_X4_addFigures [.ref (ad g i), .int a0] V none V1) (hR : rm_X4_addFigures.frames + 1 ≤ R.frames ∧ 8 + (3 + 11) + rm_X4_addFigures.locals ≤ R.locals) (hsz : ls.size = nL) (hrest : (rest.map fun v => v.category).sum ≤ 8) (hdg : decode cc pc = .ok (.invokevirtual 19, 3)) (kk : ∀ (H1 : Heap) (locs1 : List Loc), OK g LX V1 s H1 locs1 → W p l e R s m args below meth c H1 locs1 0 0 Q (F0 m (pc + 3) ls (rest))) : W p l e R s m args below meth c H locs 0 0 Q (F0 m pc ls (.int a0 :: .ref (ad g i) :: rest)) :=
  x_cv (As := [.int a0]) (n := 1) (T := TX4) (N := 2) hB hz hM hk rfl rfl rfl rfl kw_503 kw_66 kw_500 kw_502 kw_11 (by decide +kernel) rfl hR hsz hrest hdg kk
theorem i_X4_26 {p : Program} {l : Launch} {e : Env} {R : Room} {s : State} {m : MethodId} {args : Array Value} {below : List Frame} {meth : Method} {c : Code} {H : Heap} {locs : List Loc} {Q : State → Prop} {cc : ByteArray} {pc : Nat} {ls : Array Slot} {rest : List Value} {g : GP} {V : Mem} {nL : Nat} {ret : Option FieldType} (hB : BX p s m args meth c g LX cc nL RX4 ret) (hz : OK g LX V s H locs) {i : Nat} (hk : KD LX i 3) {a0 : Int32} {a1 : Int32} {V1 : Mem} (hM : CT l g LX yX4_addLetters cX4_addLetters 3 none rm_X4_addLetters [.ref (ad g i), .int a0, .int a1] V none V1) (hR : rm_X4_addLetters.frames + 1 ≤ R.frames ∧ 8 + (3 + 11) + rm_X4_addLetters.locals ≤ R.locals) (hsz : ls.size = nL) (hrest : (rest.map fun v => v.category).sum ≤ 8) (hdg : decode cc pc = .ok (.invokevirtual 26, 3)) (kk : ∀ (H1 : Heap) (locs1 : List Loc), OK g LX V1 s H1 locs1 → W p l e R s m args below meth c H1 locs1 0 0 Q (F0 m (pc + 3) ls (rest))) : W p l e R s m args below meth c H locs 0 0 Q (F0 m pc ls (.int a1 :: .int a0 :: .ref (ad g i) :: rest)) :=
  x_cv (As := [.int a0, .int a1]) (n := 2) (T := TX4) (N := 2) hB hz hM hk rfl rfl rfl rfl kw_518 kw_66 kw_515 kw_517 kw_13 (by decide +kernel) rfl hR hsz hrest hdg kk
theorem i_X4_23 {p : Program} {l : Launch} {e : Env} {R : Room} {s : State} {m : MethodId} {args : Array Value} {below : List Frame} {meth : Method} {c : Code} {H : Heap} {locs : List Loc} {Q : State → Prop} {cc : ByteArray} {pc : Nat} {ls : Array Slot} {rest : List Value} {g : GP} {V : Mem} {nL : Nat} {ret : Option FieldType} (hB : BX p s m args meth c g LX cc nL RX4 ret) (hz : OK g LX V s H locs) {i : Nat} (hk : KD LX i 3) {a0 : Int32} {V1 : Mem} (hM : CT l g LX yX4_addRoman cX4_addRoman 4 none rm_X4_addRoman [.ref (ad g i), .int a0] V none V1) (hR : rm_X4_addRoman.frames + 1 ≤ R.frames ∧ 8 + (4 + 11) + rm_X4_addRoman.locals ≤ R.locals) (hsz : ls.size = nL) (hrest : (rest.map fun v => v.category).sum ≤ 8) (hdg : decode cc pc = .ok (.invokevirtual 23, 3)) (kk : ∀ (H1 : Heap) (locs1 : List Loc), OK g LX V1 s H1 locs1 → W p l e R s m args below meth c H1 locs1 0 0 Q (F0 m (pc + 3) ls (rest))) : W p l e R s m args below meth c H locs 0 0 Q (F0 m pc ls (.int a0 :: .ref (ad g i) :: rest)) :=
  x_cv (As := [.int a0]) (n := 1) (T := TX4) (N := 2) hB hz hM hk rfl rfl rfl rfl kw_508 kw_66 kw_505 kw_507 kw_12 (by decide +kernel) rfl hR hsz hrest hdg kk
set_option maxHeartbeats 4000000 in
set_option maxRecDepth 100000 in
theorem w_X4_addNumerals_8 {p : Program} {l : Launch} {e : Env} {s : State} {m : MethodId} {args : Array Value} {below : List Frame} {meth : Method} {c : Code} {g : GP} (hB : BX p s m args meth c g LX cX4_addNumerals 3 RX4 none) {z : Nat} (k_z : KD LX z 3) {o : Mem} : ∀ (x1 : Int32) (V : Mem) (H : Heap) (locs : List Loc) (ls : Array Slot), f_X4_addNumerals_8 z x1 V = some o → OK g LX V s H locs → lv_has ls 3 [(0, .ref (ad g z)), (1, .int x1)] → W p l e rm_X4_addNumerals s m args below meth c H locs 0 0 (MQ below (QQ g LX none o) args s 0 0 (Ar g LX)) (F0 m 8 ls []) := by
  obtain ⟨hx, hb, hml, hown, hT, hr, hlk, hK, hJ, hZ, hN⟩ := id hB
  intro x1 V H locs ls hE hz hl
  unfold f_X4_addNumerals_8 at hE
  refine lv_aload_n hx hb dX4_addNumerals_8 rfl (lv_at hl 0 rfl) ?_
  refine lv_iload_n hx hb dX4_addNumerals_9 rfl (lv_at hl 1 rfl) ?_
  obtain ⟨q10, hq10, hE⟩ := x_bind hE
  refine i_X4_19 hB hz k_z (c_X4_addFigures l g k_z hq10) ⟨(Nat.le_of_ble_eq_true rfl), (Nat.le_of_ble_eq_true rfl)⟩ hl.1 (Nat.le_of_ble_eq_true rfl) dX4_addNumerals_10 (fun H locs hz => ?_)
  refine lv_goto (tgt := 46) hx hb dX4_addNumerals_13 (by decide) ?_
  exact x_vret hB hz hE dX4_addNumerals_46

set_option maxHeartbeats 4000000 in
set_option maxRecDepth 100000 in
theorem w_X4_addNumerals_43_cz {p : Program} {l : Launch} {e : Env} {s : State} {m : MethodId} {args : Array Value} {below : List Frame} {meth : Method} {c : Code} {g : GP} (hB : BX p s m args meth c g LX cX4_addNumerals 3 RX4 none) {z : Nat} (k_z : KD LX z 3) {o : Mem} : ∀ (s1 : Int32) (s2 : Int32) (V : Mem) (H : Heap) (locs : List Loc) (ls : Array Slot), f_X4_addNumerals_43_cz z s1 s2 V = some o → OK g LX V s H locs → lv_has ls 3 [] → W p l e rm_X4_addNumerals s m args below meth c H locs 0 0 (MQ below (QQ g LX none o) args s 0 0 (Ar g LX)) (F0 m 43 ls [.int s2, .int s1, .ref (ad g z)]) := by
  obtain ⟨hx, hb, hml, hown, hT, hr, hlk, hK, hJ, hZ, hN⟩ := id hB
  intro s1 s2 V H locs ls hE hz hl
  unfold f_X4_addNumerals_43_cz at hE
  obtain ⟨q43, hq43, hE⟩ := x_bind hE
  refine i_X4_26 hB hz k_z (c_X4_addLetters l g k_z hq43) ⟨(Nat.le_of_ble_eq_true rfl), (Nat.le_of_ble_eq_true rfl)⟩ hl.1 (Nat.le_of_ble_eq_true rfl) dX4_addNumerals_43 (fun H locs hz => ?_)
  exact x_vret hB hz hE dX4_addNumerals_46

set_option maxHeartbeats 4000000 in
set_option maxRecDepth 100000 in
theorem w_X4_addNumerals {p : Program} {l : Launch} {e : Env} {s : State} {m : MethodId} {args : Array Value} {below : List Frame} {meth : Method} {c : Code} {g : GP} (hB : BX p s m args meth c g LX cX4_addNumerals 3 RX4 none) {z : Nat} (k_z : KD LX z 3) {o : Mem} : ∀ (x1 : Int32) (x2 : Int32) (V : Mem) (H : Heap) (locs : List Loc) (ls : Array Slot), f_X4_addNumerals z x1 x2 V = some o → OK g LX V s H locs → lv_has ls 3 [(0, .ref (ad g z)), (1, .int x1), (2, .int x2)] → W p l e rm_X4_addNumerals s m args below meth c H locs 0 0 (MQ below (QQ g LX none o) args s 0 0 (Ar g LX)) (F0 m 0 ls []) := by
  obtain ⟨hx, hb, hml, hown, hT, hr, hlk, hK, hJ, hZ, hN⟩ := id hB
  intro x1 x2 V H locs ls hE hz hl
  unfold f_X4_addNumerals at hE
  refine lv_iload_n hx hb dX4_addNumerals_0 rfl (lv_at hl 1 rfl) ?_
  refine lv_if_eq (tgt := 8) hx hb dX4_addNumerals_1 (by decide) (fun c1 => ?_) (fun c1 => ?_)
  · have hE := (if_pos c1).symm.trans hE
    exact w_X4_addNumerals_8 hB k_z  _ _ _ _ _  hE hz (lv_sub hl [0, 1] rfl)
  · have hE := (if_neg c1).symm.trans hE
    refine lv_iload_n hx hb dX4_addNumerals_4 rfl (lv_at hl 2 rfl) ?_
    refine lv_if_ne (tgt := 16) hx hb dX4_addNumerals_5 (by decide) (fun c5 => ?_) (fun c5 => ?_)
    · have hE := (if_neg c5).symm.trans hE
      refine lv_iload_n hx hb dX4_addNumerals_16 rfl (lv_at hl 2 rfl) ?_
      refine lv_iconst (v := (2 : Int32)) hx hb dX4_addNumerals_17 (by decide) ?_
      refine lv_icmp_ne (tgt := 29) hx hb dX4_addNumerals_18 (by decide) (fun c18 => ?_) (fun c18 => ?_)
      · have hE := (if_neg c18).symm.trans hE
        refine lv_aload_n hx hb dX4_addNumerals_29 rfl (lv_at hl 0 rfl) ?_
        refine lv_iload_n hx hb dX4_addNumerals_30 rfl (lv_at hl 1 rfl) ?_
        refine lv_iload_n hx hb dX4_addNumerals_31 rfl (lv_at hl 2 rfl) ?_
        refine lv_iconst (v := (1 : Int32)) hx hb dX4_addNumerals_32 (by decide) ?_
        refine lv_icmp_ne (tgt := 41) hx hb dX4_addNumerals_33 (by decide) (fun c33 => ?_) (fun c33 => ?_)
        · have hE := (if_neg c33).symm.trans hE
          refine lv_bipush (v := (65 : Int32)) hx hb dX4_addNumerals_41 (by decide) ?_
          exact w_X4_addNumerals_43_cz hB k_z  _ _ _ _ _ _  hE hz (lv_sub hl [] rfl)
        · have hE := (if_pos c33).symm.trans hE
          refine lv_bipush (v := (97 : Int32)) hx hb dX4_addNumerals_36 (by decide) ?_
          refine lv_goto (tgt := 43) hx hb dX4_addNumerals_38 (by decide) ?_
          exact w_X4_addNumerals_43_cz hB k_z  _ _ _ _ _ _  hE hz (lv_sub hl [] rfl)
      · have hE := (if_pos c18).symm.trans hE
        refine lv_aload_n hx hb dX4_addNumerals_21 rfl (lv_at hl 0 rfl) ?_
        refine lv_iload_n hx hb dX4_addNumerals_22 rfl (lv_at hl 1 rfl) ?_
        obtain ⟨q23, hq23, hE⟩ := x_bind hE
        refine i_X4_23 hB hz k_z (c_X4_addRoman l g k_z hq23) ⟨(Nat.le_of_ble_eq_true rfl), (Nat.le_of_ble_eq_true rfl)⟩ hl.1 (Nat.le_of_ble_eq_true rfl) dX4_addNumerals_23 (fun H locs hz => ?_)
        refine lv_goto (tgt := 46) hx hb dX4_addNumerals_26 (by decide) ?_
        exact x_vret hB hz hE dX4_addNumerals_46
    · have hE := (if_pos c5).symm.trans hE
      exact w_X4_addNumerals_8 hB k_z  _ _ _ _ _  hE hz (lv_sub hl [0, 1] rfl)
theorem c_X4_addNumerals (l : Launch) (g : GP) {z : Nat} (k_z : KD LX z 3) {x1 : Int32} {x2 : Int32} {V : Mem} {o : Mem} (hE : f_X4_addNumerals z x1 x2 V = some o) : CT l g LX yX4_addNumerals cX4_addNumerals 3 none rm_X4_addNumerals [.ref (ad g z), .int x1, .int x2] V none o := by
  refine ct_of (by decide) (Nat.le_of_ble_eq_true rfl) ?_
  intro p e s m args below meth c ls hB hz hl
  exact w_X4_addNumerals hB k_z _ _ _ _ _ _  hE hz hl
def rm_X4_areItems : Room := { frames := 0, cells := 0, slots := 0, locals := 0 }
set_option maxHeartbeats 4000000 in
set_option maxRecDepth 100000 in
theorem w_X4_areItems_13 {p : Program} {l : Launch} {e : Env} {s : State} {m : MethodId} {args : Array Value} {below : List Frame} {meth : Method} {c : Code} {g : GP} (hB : BX p s m args meth c g LX cX4_areItems 5 RX4 (some .boolean)) {z : Nat} (k_z : KD LX z 3) {o : Int32 × Mem} : ∀ (n : Nat), ∀ (r1 : Nat) (x2 : Int32) (x3 : Int32) (x4 : Int32) (V : Mem) (H : Heap) (locs : List Loc) (ls : Array Slot), KD LX r1 1 → f_X4_areItems_13 z n r1 x2 x3 x4 V = some o → OK g LX V s H locs → lv_has ls 5 [(0, .ref (ad g z)), (1, .ref (ad g r1)), (2, .int x2), (3, .int x3), (4, .int x4)] → W p l e rm_X4_areItems s m args below meth c H locs 0 0 (MQ below (QQ g LX (some (.int o.1)) o.2) args s 0 0 (Ar g LX)) (F0 m 13 ls []) := by
  obtain ⟨hx, hb, hml, hown, hT, hr, hlk, hK, hJ, hZ, hN⟩ := id hB
  intro n
  induction n with
  | zero =>
    intro r1 x2 x3 x4 V H locs ls k_r1 hE hz hl
    exact absurd (show (none : Option (Int32 × Mem)) = some o from hE) (by simp)
  | succ n ih =>
    intro r1 x2 x3 x4 V H locs ls k_r1 hE hz hl
    unfold f_X4_areItems_13 at hE
    refine lv_iload hx hb dX4_areItems_13 (lv_at hl 4 rfl) ?_
    refine lv_iload_n hx hb dX4_areItems_15 rfl (lv_at hl 3 rfl) ?_
    refine lv_icmp_ge (tgt := 46) hx hb dX4_areItems_16 (by decide) (fun c16 => ?_) (fun c16 => ?_)
    · have hE := (if_pos c16).symm.trans hE
      refine lv_iconst (v := (1 : Int32)) hx hb dX4_areItems_46 (by decide) ?_
      exact x_zret hB hz hE (by decide) dX4_areItems_47
    · have hE := (if_neg c16).symm.trans hE
      refine lv_aload_n hx hb dX4_areItems_19 rfl (lv_at hl 1 rfl) ?_
      refine g_X4_43 hB hz k_r1 dX4_areItems_20 ?_
      refine lv_iload_n hx hb dX4_areItems_23 rfl (lv_at hl 2 rfl) ?_
      refine lv_iload hx hb dX4_areItems_24 (lv_at hl 4 rfl) ?_
      refine lv_iadd hx hb dX4_areItems_26 ?_
      obtain ⟨hi27, hE⟩ := x_chk hE
      refine x_iald (n := 40) hB hz (kd_row k_r1) hi27 dX4_areItems_27 ?_
      refine lv_aload_n hx hb dX4_areItems_28 rfl (lv_at hl 0 rfl) ?_
      refine g_X4_9 hB hz k_z dX4_areItems_29 ?_
      refine lv_iload hx hb dX4_areItems_32 (lv_at hl 4 rfl) ?_
      obtain ⟨hi34, hE⟩ := x_chk hE
      refine x_cald hB hz (kd_sg k_z) hi34 dX4_areItems_34 ?_
      refine lv_icmp_eq (tgt := 40) hx hb dX4_areItems_35 (by decide) (fun c35 => ?_) (fun c35 => ?_)
      · have hE := (if_pos c35).symm.trans hE
        refine lv_iinc (v := (x4 + 1)) (lv' := [(4, .int (x4 + 1)), (0, .ref (ad g z)), (1, .ref (ad g r1)), (2, .int x2), (3, .int x3)]) hx hb dX4_areItems_40 hl (k := 4) rfl rfl (by decide) rfl (fun ls hl => ?_)
        refine lv_goto (tgt := 13) hx hb dX4_areItems_43 (by decide) ?_
        exact ih _ _ _ _ _ _ _ _ k_r1 hE hz (lv_sub hl [1, 2, 3, 4, 0] rfl)
      · have hE := (if_neg c35).symm.trans hE
        refine lv_iconst (v := (0 : Int32)) hx hb dX4_areItems_38 (by decide) ?_
        exact x_zret hB hz hE (by decide) dX4_areItems_39

set_option maxHeartbeats 4000000 in
set_option maxRecDepth 100000 in
theorem w_X4_areItems {p : Program} {l : Launch} {e : Env} {s : State} {m : MethodId} {args : Array Value} {below : List Frame} {meth : Method} {c : Code} {g : GP} (hB : BX p s m args meth c g LX cX4_areItems 5 RX4 (some .boolean)) {z : Nat} (k_z : KD LX z 3) {o : Int32 × Mem} : ∀ (r1 : Nat) (x2 : Int32) (x3 : Int32) (V : Mem) (H : Heap) (locs : List Loc) (ls : Array Slot), KD LX r1 1 → f_X4_areItems z r1 x2 x3 V = some o → OK g LX V s H locs → lv_has ls 5 [(0, .ref (ad g z)), (1, .ref (ad g r1)), (2, .int x2), (3, .int x3)] → W p l e rm_X4_areItems s m args below meth c H locs 0 0 (MQ below (QQ g LX (some (.int o.1)) o.2) args s 0 0 (Ar g LX)) (F0 m 0 ls []) := by
  obtain ⟨hx, hb, hml, hown, hT, hr, hlk, hK, hJ, hZ, hN⟩ := id hB
  intro r1 x2 x3 V H locs ls k_r1 hE hz hl
  unfold f_X4_areItems at hE
  refine lv_iload_n hx hb dX4_areItems_0 rfl (lv_at hl 3 rfl) ?_
  refine lv_aload_n hx hb dX4_areItems_1 rfl (lv_at hl 0 rfl) ?_
  refine g_X4_15 hB hz k_z dX4_areItems_2 ?_
  refine lv_icmp_eq (tgt := 10) hx hb dX4_areItems_5 (by decide) (fun c5 => ?_) (fun c5 => ?_)
  · have hE := (if_pos c5).symm.trans hE
    refine lv_iconst (v := (0 : Int32)) hx hb dX4_areItems_10 (by decide) ?_
    refine lv_istore (lv' := [(4, .int (0 : Int32)), (0, .ref (ad g z)), (1, .ref (ad g r1)), (2, .int x2), (3, .int x3)]) hx hb dX4_areItems_11 hl (by decide) rfl (fun ls hl => ?_)
    exact w_X4_areItems_13 hB k_z  _ _ _ _ _ _ _ _ _ k_r1 hE hz (lv_sub hl [1, 2, 3, 4, 0] rfl)
  · have hE := (if_neg c5).symm.trans hE
    refine lv_iconst (v := (0 : Int32)) hx hb dX4_areItems_8 (by decide) ?_
    exact x_zret hB hz hE (by decide) dX4_areItems_9
theorem c_X4_areItems (l : Launch) (g : GP) {z : Nat} (k_z : KD LX z 3) {r1 : Nat} (k_r1 : KD LX r1 1) {x2 : Int32} {x3 : Int32} {V : Mem} {o : Int32 × Mem} (hE : f_X4_areItems z r1 x2 x3 V = some o) : CT l g LX yX4_areItems cX4_areItems 5 (some .boolean) rm_X4_areItems [.ref (ad g z), .ref (ad g r1), .int x2, .int x3] V (some (.int o.1)) o.2 := by
  refine ct_of (by decide) (Nat.le_of_ble_eq_true rfl) ?_
  intro p e s m args below meth c ls hB hz hl
  exact w_X4_areItems hB k_z _ _ _ _ _ _ _ k_r1 hE hz hl
def rm_X4_order : Room := { frames := 1, cells := 0, slots := 0, locals := 100 }
set_option maxHeartbeats 4000000 in
set_option maxRecDepth 100000 in
theorem w_X4_order_14 {p : Program} {l : Launch} {e : Env} {s : State} {m : MethodId} {args : Array Value} {below : List Frame} {meth : Method} {c : Code} {g : GP} (hB : BX p s m args meth c g LX cX4_order 4 RX4 (some .int)) {z : Nat} (k_z : KD LX z 3) {o : Int32 × Mem} : ∀ (n : Nat), ∀ (r1 : Nat) (x2 : Int32) (x3 : Int32) (V : Mem) (H : Heap) (locs : List Loc) (ls : Array Slot), KD LX r1 3 → f_X4_order_14 z n r1 x2 x3 V = some o → OK g LX V s H locs → lv_has ls 4 [(0, .ref (ad g z)), (1, .ref (ad g r1)), (2, .int x2), (3, .int x3)] → W p l e rm_X4_order s m args below meth c H locs 0 0 (MQ below (QQ g LX (some (.int o.1)) o.2) args s 0 0 (Ar g LX)) (F0 m 14 ls []) := by
  obtain ⟨hx, hb, hml, hown, hT, hr, hlk, hK, hJ, hZ, hN⟩ := id hB
  intro n
  induction n with
  | zero =>
    intro r1 x2 x3 V H locs ls k_r1 hE hz hl
    exact absurd (show (none : Option (Int32 × Mem)) = some o from hE) (by simp)
  | succ n ih =>
    intro r1 x2 x3 V H locs ls k_r1 hE hz hl
    unfold f_X4_order_14 at hE
    refine lv_iload_n hx hb dX4_order_14 rfl (lv_at hl 3 rfl) ?_
    refine lv_iload_n hx hb dX4_order_15 rfl (lv_at hl 2 rfl) ?_
    refine lv_icmp_ge (tgt := 54) hx hb dX4_order_16 (by decide) (fun c16 => ?_) (fun c16 => ?_)
    · have hE := (if_pos c16).symm.trans hE
      refine lv_aload_n hx hb dX4_order_54 rfl (lv_at hl 0 rfl) ?_
      refine g_X4_15 hB hz k_z dX4_order_55 ?_
      refine lv_aload_n hx hb dX4_order_58 rfl (lv_at hl 1 rfl) ?_
      refine g_X4_15 hB hz k_r1 dX4_order_59 ?_
      refine lv_isub hx hb dX4_order_62 ?_
      exact x_iret hB hz hE dX4_order_63
    · have hE := (if_neg c16).symm.trans hE
      refine lv_aload_n hx hb dX4_order_19 rfl (lv_at hl 0 rfl) ?_
      refine g_X4_9 hB hz k_z dX4_order_20 ?_
      refine lv_iload_n hx hb dX4_order_23 rfl (lv_at hl 3 rfl) ?_
      obtain ⟨hi24, hE⟩ := x_chk hE
      refine x_cald hB hz (kd_sg k_z) hi24 dX4_order_24 ?_
      refine lv_aload_n hx hb dX4_order_25 rfl (lv_at hl 1 rfl) ?_
      refine g_X4_9 hB hz k_r1 dX4_order_26 ?_
      refine lv_iload_n hx hb dX4_order_29 rfl (lv_at hl 3 rfl) ?_
      obtain ⟨hi30, hE⟩ := x_chk hE
      refine x_cald hB hz (kd_sg k_r1) hi30 dX4_order_30 ?_
      refine lv_icmp_eq (tgt := 48) hx hb dX4_order_31 (by decide) (fun c31 => ?_) (fun c31 => ?_)
      · have hE := (if_pos c31).symm.trans hE
        refine lv_iinc (v := (x3 + 1)) (lv' := [(3, .int (x3 + 1)), (0, .ref (ad g z)), (1, .ref (ad g r1)), (2, .int x2)]) hx hb dX4_order_48 hl (k := 3) rfl rfl (by decide) rfl (fun ls hl => ?_)
        refine lv_goto (tgt := 14) hx hb dX4_order_51 (by decide) ?_
        exact ih _ _ _ _ _ _ _ k_r1 hE hz (lv_sub hl [1, 2, 3, 0] rfl)
      · have hE := (if_neg c31).symm.trans hE
        refine lv_aload_n hx hb dX4_order_34 rfl (lv_at hl 0 rfl) ?_
        refine g_X4_9 hB hz k_z dX4_order_35 ?_
        refine lv_iload_n hx hb dX4_order_38 rfl (lv_at hl 3 rfl) ?_
        obtain ⟨hi39, hE⟩ := x_chk hE
        refine x_cald hB hz (kd_sg k_z) hi39 dX4_order_39 ?_
        refine lv_aload_n hx hb dX4_order_40 rfl (lv_at hl 1 rfl) ?_
        refine g_X4_9 hB hz k_r1 dX4_order_41 ?_
        refine lv_iload_n hx hb dX4_order_44 rfl (lv_at hl 3 rfl) ?_
        obtain ⟨hi45, hE⟩ := x_chk hE
        refine x_cald hB hz (kd_sg k_r1) hi45 dX4_order_45 ?_
        refine lv_isub hx hb dX4_order_46 ?_
        exact x_iret hB hz hE dX4_order_47

set_option maxHeartbeats 4000000 in
set_option maxRecDepth 100000 in
theorem w_X4_order {p : Program} {l : Launch} {e : Env} {s : State} {m : MethodId} {args : Array Value} {below : List Frame} {meth : Method} {c : Code} {g : GP} (hB : BX p s m args meth c g LX cX4_order 4 RX4 (some .int)) {z : Nat} (k_z : KD LX z 3) {o : Int32 × Mem} : ∀ (r1 : Nat) (V : Mem) (H : Heap) (locs : List Loc) (ls : Array Slot), KD LX r1 3 → f_X4_order z r1 V = some o → OK g LX V s H locs → lv_has ls 4 [(0, .ref (ad g z)), (1, .ref (ad g r1))] → W p l e rm_X4_order s m args below meth c H locs 0 0 (MQ below (QQ g LX (some (.int o.1)) o.2) args s 0 0 (Ar g LX)) (F0 m 0 ls []) := by
  obtain ⟨hx, hb, hml, hown, hT, hr, hlk, hK, hJ, hZ, hN⟩ := id hB
  intro r1 V H locs ls k_r1 hE hz hl
  unfold f_X4_order at hE
  refine lv_aload_n hx hb dX4_order_0 rfl (lv_at hl 0 rfl) ?_
  refine g_X4_15 hB hz k_z dX4_order_1 ?_
  refine lv_aload_n hx hb dX4_order_4 rfl (lv_at hl 1 rfl) ?_
  refine g_X4_15 hB hz k_r1 dX4_order_5 ?_
  refine va_mmin hx hb (hml.trans hl.1.symm) hown (hT _ kw_562) (hT _ kw_382) (hT _ kw_71) (hT _ kw_383) (Nat.le_of_ble_eq_true rfl) (Nat.le_of_ble_eq_true rfl) (Nat.le_of_ble_eq_true rfl) (Nat.le_of_ble_eq_true rfl) dX4_order_8 ?_
  refine lv_istore_n (lv' := [(2, .int (if (V r1 1) < (V z 1) then (V r1 1) else (V z 1))), (0, .ref (ad g z)), (1, .ref (ad g r1))]) hx hb dX4_order_11 rfl hl (by decide) rfl (fun ls hl => ?_)
  refine lv_iconst (v := (0 : Int32)) hx hb dX4_order_12 (by decide) ?_
  refine lv_istore_n (lv' := [(3, .int (0 : Int32)), (2, .int (if (V r1 1) < (V z 1) then (V r1 1) else (V z 1))), (0, .ref (ad g z)), (1, .ref (ad g r1))]) hx hb dX4_order_13 rfl hl (by decide) rfl (fun ls hl => ?_)
  exact w_X4_order_14 hB k_z  _ _ _ _ _ _ _ _ k_r1 hE hz (lv_sub hl [2, 3, 1, 0] rfl)
theorem c_X4_order (l : Launch) (g : GP) {z : Nat} (k_z : KD LX z 3) {r1 : Nat} (k_r1 : KD LX r1 3) {V : Mem} {o : Int32 × Mem} (hE : f_X4_order z r1 V = some o) : CT l g LX yX4_order cX4_order 4 (some .int) rm_X4_order [.ref (ad g z), .ref (ad g r1)] V (some (.int o.1)) o.2 := by
  refine ct_of (by decide) (Nat.le_of_ble_eq_true rfl) ?_
  intro p e s m args below meth c ls hB hz hl
  exact w_X4_order hB k_z _ _ _ _ _ k_r1 hE hz hl

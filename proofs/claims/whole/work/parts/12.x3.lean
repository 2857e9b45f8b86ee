def rm_X3_isNone : Room := { frames := 0, cells := 0, slots := 0, locals := 0 }
set_option maxHeartbeats 4000000 in
set_option maxRecDepth 100000 in
theorem w_X3_isNone {p : Program} {l : Launch} {e : Env} {s : State} {m : MethodId} {args : Array Value} {below : List Frame} {meth : Method} {c : Code} {g : GP} (hB : BX p s m args meth c g LX cX3_isNone 1 RX3 (some .boolean)) {z : Nat} (k_z : KD LX z 2) {o : Int32 × Mem} : ∀ (V : Mem) (H : Heap) (locs : List Loc) (ls : Array Slot), f_X3_isNone z V = some o → OK g LX V s H locs → lv_has ls 1 [(0, .ref (ad g z))] → W p l e rm_X3_isNone s m args below meth c H locs 0 0 (MQ below (QQ g LX (some (.int o.1)) o.2) args s 0 0 (Ar g LX)) (F0 m 0 ls []) := by
  obtain ⟨hx, hb, hml, hown, hT, hr, hlk, hK, hJ, hZ, hN⟩ := id hB
  intro V H locs ls hE hz hl
  unfold f_X3_isNone at hE
  refine lv_aload_n hx hb dX3_isNone_0 rfl (lv_at hl 0 rfl) ?_
  refine g_X3_24 hB hz k_z dX3_isNone_1 ?_
  refine lv_if_ne (tgt := 11) hx hb dX3_isNone_4 (by decide) (fun c4 => ?_) (fun c4 => ?_)
  · have hE := (if_neg c4).symm.trans hE
    refine lv_iconst (v := (0 : Int32)) hx hb dX3_isNone_11 (by decide) ?_
    exact x_zret hB hz hE (by decide) dX3_isNone_12
  · have hE := (if_pos c4).symm.trans hE
    refine lv_iconst (v := (1 : Int32)) hx hb dX3_isNone_7 (by decide) ?_
    refine lv_goto (tgt := 12) hx hb dX3_isNone_8 (by decide) ?_
    exact x_zret hB hz hE (by decide) dX3_isNone_12
theorem c_X3_isNone (l : Launch) (g : GP) {z : Nat} (k_z : KD LX z 2) {V : Mem} {o : Int32 × Mem} (hE : f_X3_isNone z V = some o) : CT l g LX yX3_isNone cX3_isNone 1 (some .boolean) rm_X3_isNone [.ref (ad g z)] V (some (.int o.1)) o.2 := by
  refine ct_of (by decide) (Nat.le_of_ble_eq_true rfl) ?_
  intro p e s m args below meth c ls hB hz hl
  exact w_X3_isNone hB k_z  _ _ _ _  hE hz hl
def rm_X3_has : Room := { frames := 0, cells := 0, slots := 0, locals := 0 }
set_option maxHeartbeats 4000000 in
set_option maxRecDepth 100000 in
theorem w_X3_has {p : Program} {l : Launch} {e : Env} {s : State} {m : MethodId} {args : Array Value} {below : List Frame} {meth : Method} {c : Code} {g : GP} (hB : BX p s m args meth c g LX cX3_has 2 RX3 (some .boolean)) {z : Nat} (k_z : KD LX z 2) {o : Int32 × Mem} : ∀ (x1 : Int32) (V : Mem) (H : Heap) (locs : List Loc) (ls : Array Slot), f_X3_has z x1 V = some o → OK g LX V s H locs → lv_has ls 2 [(0, .ref (ad g z)), (1, .int x1)] → W p l e rm_X3_has s m args below meth c H locs 0 0 (MQ below (QQ g LX (some (.int o.1)) o.2) args s 0 0 (Ar g LX)) (F0 m 0 ls []) := by
  obtain ⟨hx, hb, hml, hown, hT, hr, hlk, hK, hJ, hZ, hN⟩ := id hB
  intro x1 V H locs ls hE hz hl
  unfold f_X3_has at hE
  refine lv_iload_n hx hb dX3_has_0 rfl (lv_at hl 1 rfl) ?_
  refine lv_if_lt (tgt := 16) hx hb dX3_has_1 (by decide) (fun c1 => ?_) (fun c1 => ?_)
  · have hE := (if_pos c1).symm.trans hE
    refine lv_iconst (v := (0 : Int32)) hx hb dX3_has_16 (by decide) ?_
    exact x_zret hB hz hE (by decide) dX3_has_17
  · have hE := (if_neg c1).symm.trans hE
    refine lv_iload_n hx hb dX3_has_4 rfl (lv_at hl 1 rfl) ?_
    refine lv_aload_n hx hb dX3_has_5 rfl (lv_at hl 0 rfl) ?_
    refine g_X3_24 hB hz k_z dX3_has_6 ?_
    refine lv_icmp_ge (tgt := 16) hx hb dX3_has_9 (by decide) (fun c9 => ?_) (fun c9 => ?_)
    · have hE := (if_pos c9).symm.trans hE
      refine lv_iconst (v := (0 : Int32)) hx hb dX3_has_16 (by decide) ?_
      exact x_zret hB hz hE (by decide) dX3_has_17
    · have hE := (if_neg c9).symm.trans hE
      refine lv_iconst (v := (1 : Int32)) hx hb dX3_has_12 (by decide) ?_
      refine lv_goto (tgt := 17) hx hb dX3_has_13 (by decide) ?_
      exact x_zret hB hz hE (by decide) dX3_has_17
theorem c_X3_has (l : Launch) (g : GP) {z : Nat} (k_z : KD LX z 2) {x1 : Int32} {V : Mem} {o : Int32 × Mem} (hE : f_X3_has z x1 V = some o) : CT l g LX yX3_has cX3_has 2 (some .boolean) rm_X3_has [.ref (ad g z), .int x1] V (some (.int o.1)) o.2 := by
  refine ct_of (by decide) (Nat.le_of_ble_eq_true rfl) ?_
  intro p e s m args below meth c ls hB hz hl
  exact w_X3_has hB k_z _ _ _ _ _  hE hz hl
def rm_X3_isLabelled : Room := { frames := 0, cells := 0, slots := 0, locals := 0 }
set_option maxHeartbeats 4000000 in
set_option maxRecDepth 100000 in
theorem w_X3_isLabelled {p : Program} {l : Launch} {e : Env} {s : State} {m : MethodId} {args : Array Value} {below : List Frame} {meth : Method} {c : Code} {g : GP} (hB : BX p s m args meth c g LX cX3_isLabelled 2 RX3 (some .boolean)) {z : Nat} (k_z : KD LX z 2) {o : Int32 × Mem} : ∀ (x1 : Int32) (V : Mem) (H : Heap) (locs : List Loc) (ls : Array Slot), f_X3_isLabelled z x1 V = some o → OK g LX V s H locs → lv_has ls 2 [(0, .ref (ad g z)), (1, .int x1)] → W p l e rm_X3_isLabelled s m args below meth c H locs 0 0 (MQ below (QQ g LX (some (.int o.1)) o.2) args s 0 0 (Ar g LX)) (F0 m 0 ls []) := by
  obtain ⟨hx, hb, hml, hown, hT, hr, hlk, hK, hJ, hZ, hN⟩ := id hB
  intro x1 V H locs ls hE hz hl
  unfold f_X3_isLabelled at hE
  refine lv_aload_n hx hb dX3_isLabelled_0 rfl (lv_at hl 0 rfl) ?_
  refine g_X3_15 hB hz k_z dX3_isLabelled_1 ?_
  refine lv_iload_n hx hb dX3_isLabelled_4 rfl (lv_at hl 1 rfl) ?_
  obtain ⟨hi5, hE⟩ := x_chk hE
  refine x_iald (n := 24) hB hz (kd_sh k_z).2.1 hi5 dX3_isLabelled_5 ?_
  refine lv_iconst (v := (4 : Int32)) hx hb dX3_isLabelled_6 (by decide) ?_
  refine lv_icmp_eq (tgt := 24) hx hb dX3_isLabelled_7 (by decide) (fun c7 => ?_) (fun c7 => ?_)
  · have hE := (if_pos c7).symm.trans hE
    refine lv_iconst (v := (0 : Int32)) hx hb dX3_isLabelled_24 (by decide) ?_
    exact x_zret hB hz hE (by decide) dX3_isLabelled_25
  · have hE := (if_neg c7).symm.trans hE
    refine lv_aload_n hx hb dX3_isLabelled_10 rfl (lv_at hl 0 rfl) ?_
    refine g_X3_15 hB hz k_z dX3_isLabelled_11 ?_
    refine lv_iload_n hx hb dX3_isLabelled_14 rfl (lv_at hl 1 rfl) ?_
    obtain ⟨hi15, hE⟩ := x_chk hE
    refine x_iald (n := 24) hB hz (kd_sh k_z).2.1 hi15 dX3_isLabelled_15 ?_
    refine lv_iconst (v := (5 : Int32)) hx hb dX3_isLabelled_16 (by decide) ?_
    refine lv_icmp_eq (tgt := 24) hx hb dX3_isLabelled_17 (by decide) (fun c17 => ?_) (fun c17 => ?_)
    · have hE := (if_pos c17).symm.trans hE
      refine lv_iconst (v := (0 : Int32)) hx hb dX3_isLabelled_24 (by decide) ?_
      exact x_zret hB hz hE (by decide) dX3_isLabelled_25
    · have hE := (if_neg c17).symm.trans hE
      refine lv_iconst (v := (1 : Int32)) hx hb dX3_isLabelled_20 (by decide) ?_
      refine lv_goto (tgt := 25) hx hb dX3_isLabelled_21 (by decide) ?_
      exact x_zret hB hz hE (by decide) dX3_isLabelled_25
theorem c_X3_isLabelled (l : Launch) (g : GP) {z : Nat} (k_z : KD LX z 2) {x1 : Int32} {V : Mem} {o : Int32 × Mem} (hE : f_X3_isLabelled z x1 V = some o) : CT l g LX yX3_isLabelled cX3_isLabelled 2 (some .boolean) rm_X3_isLabelled [.ref (ad g z), .int x1] V (some (.int o.1)) o.2 := by
  refine ct_of (by decide) (Nat.le_of_ble_eq_true rfl) ?_
  intro p e s m args below meth c ls hB hz hl
  exact w_X3_isLabelled hB k_z _ _ _ _ _  hE hz hl
def rm_X3_howManyOf : Room := { frames := 0, cells := 0, slots := 0, locals := 0 }
set_option maxHeartbeats 4000000 in
set_option maxRecDepth 100000 in
theorem w_X3_howManyOf_25 {p : Program} {l : Launch} {e : Env} {s : State} {m : MethodId} {args : Array Value} {below : List Frame} {meth : Method} {c : Code} {g : GP} (hB : BX p s m args meth c g LX cX3_howManyOf 4 RX3 (some .int)) {z : Nat} (k_z : KD LX z 2) {o : Int32 × Mem} {k4 : Int32 → Int32 → Int32 → Mem → Option (Int32 × Mem)} (hk4 : ∀ (x1 : Int32) (x2 : Int32) (x3 : Int32) (V : Mem) (H : Heap) (locs : List Loc) (ls : Array Slot), k4 x1 x2 x3 V = some o → OK g LX V s H locs → lv_has ls 4 [(0, .ref (ad g z)), (1, .int x1), (2, .int x2), (3, .int x3)] → W p l e rm_X3_howManyOf s m args below meth c H locs 0 0 (MQ below (QQ g LX (some (.int o.1)) o.2) args s 0 0 (Ar g LX)) (F0 m 4 ls [])) : ∀ (x1 : Int32) (x2 : Int32) (x3 : Int32) (V : Mem) (H : Heap) (locs : List Loc) (ls : Array Slot), f_X3_howManyOf_25 z k4 x1 x2 x3 V = some o → OK g LX V s H locs → lv_has ls 4 [(0, .ref (ad g z)), (1, .int x1), (2, .int x2), (3, .int x3)] → W p l e rm_X3_howManyOf s m args below meth c H locs 0 0 (MQ below (QQ g LX (some (.int o.1)) o.2) args s 0 0 (Ar g LX)) (F0 m 25 ls []) := by
  obtain ⟨hx, hb, hml, hown, hT, hr, hlk, hK, hJ, hZ, hN⟩ := id hB
  intro x1 x2 x3 V H locs ls hE hz hl
  unfold f_X3_howManyOf_25 at hE
  refine lv_iinc (v := (x3 + 1)) (lv' := [(3, .int (x3 + 1)), (0, .ref (ad g z)), (1, .int x1), (2, .int x2)]) hx hb dX3_howManyOf_25 hl (k := 3) rfl rfl (by decide) rfl (fun ls hl => ?_)
  refine lv_goto (tgt := 4) hx hb dX3_howManyOf_28 (by decide) ?_
  exact hk4 _ _ _ _ _ _ _  hE hz (lv_sub hl [1, 2, 3, 0] rfl)

set_option maxHeartbeats 4000000 in
set_option maxRecDepth 100000 in
theorem w_X3_howManyOf_4 {p : Program} {l : Launch} {e : Env} {s : State} {m : MethodId} {args : Array Value} {below : List Frame} {meth : Method} {c : Code} {g : GP} (hB : BX p s m args meth c g LX cX3_howManyOf 4 RX3 (some .int)) {z : Nat} (k_z : KD LX z 2) {o : Int32 × Mem} : ∀ (n : Nat), ∀ (x1 : Int32) (x2 : Int32) (x3 : Int32) (V : Mem) (H : Heap) (locs : List Loc) (ls : Array Slot), f_X3_howManyOf_4 z n x1 x2 x3 V = some o → OK g LX V s H locs → lv_has ls 4 [(0, .ref (ad g z)), (1, .int x1), (2, .int x2), (3, .int x3)] → W p l e rm_X3_howManyOf s m args below meth c H locs 0 0 (MQ below (QQ g LX (some (.int o.1)) o.2) args s 0 0 (Ar g LX)) (F0 m 4 ls []) := by
  obtain ⟨hx, hb, hml, hown, hT, hr, hlk, hK, hJ, hZ, hN⟩ := id hB
  intro n
  induction n with
  | zero =>
    intro x1 x2 x3 V H locs ls hE hz hl
    exact absurd (show (none : Option (Int32 × Mem)) = some o from hE) (by simp)
  | succ n ih =>
    intro x1 x2 x3 V H locs ls hE hz hl
    unfold f_X3_howManyOf_4 at hE
    refine lv_iload_n hx hb dX3_howManyOf_4 rfl (lv_at hl 3 rfl) ?_
    refine lv_aload_n hx hb dX3_howManyOf_5 rfl (lv_at hl 0 rfl) ?_
    refine g_X3_24 hB hz k_z dX3_howManyOf_6 ?_
    refine lv_icmp_ge (tgt := 31) hx hb dX3_howManyOf_9 (by decide) (fun c9 => ?_) (fun c9 => ?_)
    · have hE := (if_pos c9).symm.trans hE
      refine lv_iload_n hx hb dX3_howManyOf_31 rfl (lv_at hl 2 rfl) ?_
      exact x_iret hB hz hE dX3_howManyOf_32
    · have hE := (if_neg c9).symm.trans hE
      refine lv_aload_n hx hb dX3_howManyOf_12 rfl (lv_at hl 0 rfl) ?_
      refine g_X3_15 hB hz k_z dX3_howManyOf_13 ?_
      refine lv_iload_n hx hb dX3_howManyOf_16 rfl (lv_at hl 3 rfl) ?_
      obtain ⟨hi17, hE⟩ := x_chk hE
      refine x_iald (n := 24) hB hz (kd_sh k_z).2.1 hi17 dX3_howManyOf_17 ?_
      refine lv_iload_n hx hb dX3_howManyOf_18 rfl (lv_at hl 1 rfl) ?_
      refine lv_icmp_ne (tgt := 25) hx hb dX3_howManyOf_19 (by decide) (fun c19 => ?_) (fun c19 => ?_)
      · have hE := (if_neg c19).symm.trans hE
        exact w_X3_howManyOf_25 hB k_z ih _ _ _ _ _ _ _  hE hz (lv_sub hl [0, 1, 2, 3] rfl)
      · have hE := (if_pos c19).symm.trans hE
        refine lv_iinc (v := (x2 + 1)) (lv' := [(2, .int (x2 + 1)), (0, .ref (ad g z)), (1, .int x1), (3, .int x3)]) hx hb dX3_howManyOf_22 hl (k := 2) rfl rfl (by decide) rfl (fun ls hl => ?_)
        exact w_X3_howManyOf_25 hB k_z ih _ _ _ _ _ _ _  hE hz (lv_sub hl [1, 2, 0, 3] rfl)

set_option maxHeartbeats 4000000 in
set_option maxRecDepth 100000 in
theorem w_X3_howManyOf {p : Program} {l : Launch} {e : Env} {s : State} {m : MethodId} {args : Array Value} {below : List Frame} {meth : Method} {c : Code} {g : GP} (hB : BX p s m args meth c g LX cX3_howManyOf 4 RX3 (some .int)) {z : Nat} (k_z : KD LX z 2) {o : Int32 × Mem} : ∀ (x1 : Int32) (V : Mem) (H : Heap) (locs : List Loc) (ls : Array Slot), f_X3_howManyOf z x1 V = some o → OK g LX V s H locs → lv_has ls 4 [(0, .ref (ad g z)), (1, .int x1)] → W p l e rm_X3_howManyOf s m args below meth c H locs 0 0 (MQ below (QQ g LX (some (.int o.1)) o.2) args s 0 0 (Ar g LX)) (F0 m 0 ls []) := by
  obtain ⟨hx, hb, hml, hown, hT, hr, hlk, hK, hJ, hZ, hN⟩ := id hB
  intro x1 V H locs ls hE hz hl
  unfold f_X3_howManyOf at hE
  refine lv_iconst (v := (0 : Int32)) hx hb dX3_howManyOf_0 (by decide) ?_
  refine lv_istore_n (lv' := [(2, .int (0 : Int32)), (0, .ref (ad g z)), (1, .int x1)]) hx hb dX3_howManyOf_1 rfl hl (by decide) rfl (fun ls hl => ?_)
  refine lv_iconst (v := (0 : Int32)) hx hb dX3_howManyOf_2 (by decide) ?_
  refine lv_istore_n (lv' := [(3, .int (0 : Int32)), (2, .int (0 : Int32)), (0, .ref (ad g z)), (1, .int x1)]) hx hb dX3_howManyOf_3 rfl hl (by decide) rfl (fun ls hl => ?_)
  exact w_X3_howManyOf_4 hB k_z  _ _ _ _ _ _ _ _  hE hz (lv_sub hl [2, 3, 1, 0] rfl)
theorem c_X3_howManyOf (l : Launch) (g : GP) {z : Nat} (k_z : KD LX z 2) {x1 : Int32} {V : Mem} {o : Int32 × Mem} (hE : f_X3_howManyOf z x1 V = some o) : CT l g LX yX3_howManyOf cX3_howManyOf 4 (some .int) rm_X3_howManyOf [.ref (ad g z), .int x1] V (some (.int o.1)) o.2 := by
  refine ct_of (by decide) (Nat.le_of_ble_eq_true rfl) ?_
  intro p e s m args below meth c ls hB hz hl
  exact w_X3_howManyOf hB k_z _ _ _ _ _  hE hz hl
def rm_X3_become : Room := { frames := 1, cells := 0, slots := 0, locals := 100 }
set_option maxHeartbeats 4000000 in
set_option maxRecDepth 100000 in
theorem w_X3_become {p : Program} {l : Launch} {e : Env} {s : State} {m : MethodId} {args : Array Value} {below : List Frame} {meth : Method} {c : Code} {g : GP} (hB : BX p s m args meth c g LX cX3_become 2 RX3 none) {z : Nat} (k_z : KD LX z 2) {o : Mem} : ∀ (r1 : Nat) (V : Mem) (H : Heap) (locs : List Loc) (ls : Array Slot), KD LX r1 2 → f_X3_become z r1 V = some o → OK g LX V s H locs → lv_has ls 2 [(0, .ref (ad g z)), (1, .ref (ad g r1))] → W p l e rm_X3_become s m args below meth c H locs 0 0 (MQ below (QQ g LX none o) args s 0 0 (Ar g LX)) (F0 m 0 ls []) := by
  obtain ⟨hx, hb, hml, hown, hT, hr, hlk, hK, hJ, hZ, hN⟩ := id hB
  intro r1 V H locs ls k_r1 hE hz hl
  unfold f_X3_become at hE
  refine lv_aload_n hx hb dX3_become_0 rfl (lv_at hl 1 rfl) ?_
  refine g_X3_9 hB hz k_r1 dX3_become_1 ?_
  refine lv_iconst (v := (0 : Int32)) hx hb dX3_become_4 (by decide) ?_
  refine lv_aload_n hx hb dX3_become_5 rfl (lv_at hl 0 rfl) ?_
  refine g_X3_9 hB hz k_z dX3_become_6 ?_
  refine lv_iconst (v := (0 : Int32)) hx hb dX3_become_9 (by decide) ?_
  refine lv_iconst (v := (3 : Int32)) hx hb dX3_become_10 (by decide) ?_
  obtain ⟨hi11, hE⟩ := x_chk hE
  refine x_copy (n0 := 3) (n1 := 3) hB hz (kd_sh k_r1).1 (kd_sh k_z).1 hi11 hl.1 kw_372 kw_309 kw_308 kw_70 (Nat.le_of_ble_eq_true rfl) (Nat.le_of_ble_eq_true rfl) dX3_become_11 (fun H locs hz => ?_)
  refine lv_aload_n hx hb dX3_become_14 rfl (lv_at hl 1 rfl) ?_
  refine g_X3_15 hB hz k_r1 dX3_become_15 ?_
  refine lv_iconst (v := (0 : Int32)) hx hb dX3_become_18 (by decide) ?_
  refine lv_aload_n hx hb dX3_become_19 rfl (lv_at hl 0 rfl) ?_
  refine g_X3_15 hB hz k_z dX3_become_20 ?_
  refine lv_iconst (v := (0 : Int32)) hx hb dX3_become_23 (by decide) ?_
  refine lv_aload_n hx hb dX3_become_24 rfl (lv_at hl 1 rfl) ?_
  refine g_X3_24 hB hz k_r1 dX3_become_25 ?_
  obtain ⟨hi28, hE⟩ := x_chk hE
  refine x_copy (n0 := 24) (n1 := 24) hB hz (kd_sh k_r1).2.1 (kd_sh k_z).2.1 hi28 hl.1 kw_372 kw_309 kw_308 kw_70 (Nat.le_of_ble_eq_true rfl) (Nat.le_of_ble_eq_true rfl) dX3_become_28 (fun H locs hz => ?_)
  refine lv_aload_n hx hb dX3_become_31 rfl (lv_at hl 1 rfl) ?_
  refine g_X3_18 hB hz k_r1 dX3_become_32 ?_
  refine lv_iconst (v := (0 : Int32)) hx hb dX3_become_35 (by decide) ?_
  refine lv_aload_n hx hb dX3_become_36 rfl (lv_at hl 0 rfl) ?_
  refine g_X3_18 hB hz k_z dX3_become_37 ?_
  refine lv_iconst (v := (0 : Int32)) hx hb dX3_become_40 (by decide) ?_
  refine lv_aload_n hx hb dX3_become_41 rfl (lv_at hl 1 rfl) ?_
  refine g_X3_24 hB hz k_r1 dX3_become_42 ?_
  obtain ⟨hi45, hE⟩ := x_chk hE
  refine x_copy (n0 := 24) (n1 := 24) hB hz (kd_sh k_r1).2.2.1 (kd_sh k_z).2.2.1 hi45 hl.1 kw_372 kw_309 kw_308 kw_70 (Nat.le_of_ble_eq_true rfl) (Nat.le_of_ble_eq_true rfl) dX3_become_45 (fun H locs hz => ?_)
  refine lv_aload_n hx hb dX3_become_48 rfl (lv_at hl 1 rfl) ?_
  refine g_X3_21 hB hz k_r1 dX3_become_49 ?_
  refine lv_iconst (v := (0 : Int32)) hx hb dX3_become_52 (by decide) ?_
  refine lv_aload_n hx hb dX3_become_53 rfl (lv_at hl 0 rfl) ?_
  refine g_X3_21 hB hz k_z dX3_become_54 ?_
  refine lv_iconst (v := (0 : Int32)) hx hb dX3_become_57 (by decide) ?_
  refine lv_aload_n hx hb dX3_become_58 rfl (lv_at hl 1 rfl) ?_
  refine g_X3_24 hB hz k_r1 dX3_become_59 ?_
  obtain ⟨hi62, hE⟩ := x_chk hE
  refine x_copy (n0 := 24) (n1 := 24) hB hz (kd_sh k_r1).2.2.2.1 (kd_sh k_z).2.2.2.1 hi62 hl.1 kw_372 kw_309 kw_308 kw_70 (Nat.le_of_ble_eq_true rfl) (Nat.le_of_ble_eq_true rfl) dX3_become_62 (fun H locs hz => ?_)
  refine lv_aload_n hx hb dX3_become_65 rfl (lv_at hl 0 rfl) ?_
  refine lv_aload_n hx hb dX3_become_66 rfl (lv_at hl 1 rfl) ?_
  refine g_X3_24 hB hz k_r1 dX3_become_67 ?_
  refine p_X3_24 hB hz k_z dX3_become_70 (fun H locs hz => ?_)
  refine lv_aload_n hx hb dX3_become_73 rfl (lv_at hl 0 rfl) ?_
  refine lv_iconst (v := (0 : Int32)) hx hb dX3_become_74 (by decide) ?_
  refine p_X3_33 hB hz k_z dX3_become_75 (fun H locs hz => ?_)
  exact x_vret hB hz hE dX3_become_78
theorem c_X3_become (l : Launch) (g : GP) {z : Nat} (k_z : KD LX z 2) {r1 : Nat} (k_r1 : KD LX r1 2) {V : Mem} {o : Mem} (hE : f_X3_become z r1 V = some o) : CT l g LX yX3_become cX3_become 2 none rm_X3_become [.ref (ad g z), .ref (ad g r1)] V none o := by
  refine ct_of (by decide) (Nat.le_of_ble_eq_true rfl) ?_
  intro p e s m args below meth c ls hB hz hl
  exact w_X3_become hB k_z _ _ _ _ _ k_r1 hE hz hl
def rm_X3_clear : Room := { frames := 0, cells := 0, slots := 0, locals := 0 }
set_option maxHeartbeats 4000000 in
set_option maxRecDepth 100000 in
theorem w_X3_clear {p : Program} {l : Launch} {e : Env} {s : State} {m : MethodId} {args : Array Value} {below : List Frame} {meth : Method} {c : Code} {g : GP} (hB : BX p s m args meth c g LX cX3_clear 1 RX3 none) {z : Nat} (k_z : KD LX z 2) {o : Mem} : ∀ (V : Mem) (H : Heap) (locs : List Loc) (ls : Array Slot), f_X3_clear z V = some o → OK g LX V s H locs → lv_has ls 1 [(0, .ref (ad g z))] → W p l e rm_X3_clear s m args below meth c H locs 0 0 (MQ below (QQ g LX none o) args s 0 0 (Ar g LX)) (F0 m 0 ls []) := by
  obtain ⟨hx, hb, hml, hown, hT, hr, hlk, hK, hJ, hZ, hN⟩ := id hB
  intro V H locs ls hE hz hl
  unfold f_X3_clear at hE
  refine lv_aload_n hx hb dX3_clear_0 rfl (lv_at hl 0 rfl) ?_
  refine lv_iconst (v := (0 : Int32)) hx hb dX3_clear_1 (by decide) ?_
  refine p_X3_24 hB hz k_z dX3_clear_2 (fun H locs hz => ?_)
  refine lv_aload_n hx hb dX3_clear_5 rfl (lv_at hl 0 rfl) ?_
  refine lv_iconst (v := (0 : Int32)) hx hb dX3_clear_6 (by decide) ?_
  refine p_X3_33 hB hz k_z dX3_clear_7 (fun H locs hz => ?_)
  exact x_vret hB hz hE dX3_clear_10
theorem c_X3_clear (l : Launch) (g : GP) {z : Nat} (k_z : KD LX z 2) {V : Mem} {o : Mem} (hE : f_X3_clear z V = some o) : CT l g LX yX3_clear cX3_clear 1 none rm_X3_clear [.ref (ad g z)] V none o := by
  refine ct_of (by decide) (Nat.le_of_ble_eq_true rfl) ?_
  intro p e s m args below meth c ls hB hz hl
  exact w_X3_clear hB k_z  _ _ _ _  hE hz hl
def rm_X3_slide : Room := { frames := 1, cells := 0, slots := 0, locals := 100 }
set_option maxHeartbeats 4000000 in
set_option maxRecDepth 100000 in
theorem w_X3_slide {p : Program} {l : Launch} {e : Env} {s : State} {m : MethodId} {args : Array Value} {below : List Frame} {meth : Method} {c : Code} {g : GP} (hB : BX p s m args meth c g LX cX3_slide 4 RX3 none) {z : Nat} (k_z : KD LX z 2) {o : Mem} : ∀ (x1 : Int32) (x2 : Int32) (x3 : Int32) (V : Mem) (H : Heap) (locs : List Loc) (ls : Array Slot), f_X3_slide z x1 x2 x3 V = some o → OK g LX V s H locs → lv_has ls 4 [(0, .ref (ad g z)), (1, .int x1), (2, .int x2), (3, .int x3)] → W p l e rm_X3_slide s m args below meth c H locs 0 0 (MQ below (QQ g LX none o) args s 0 0 (Ar g LX)) (F0 m 0 ls []) := by
  obtain ⟨hx, hb, hml, hown, hT, hr, hlk, hK, hJ, hZ, hN⟩ := id hB
  intro x1 x2 x3 V H locs ls hE hz hl
  unfold f_X3_slide at hE
  refine lv_aload_n hx hb dX3_slide_0 rfl (lv_at hl 0 rfl) ?_
  refine g_X3_15 hB hz k_z dX3_slide_1 ?_
  refine lv_iload_n hx hb dX3_slide_4 rfl (lv_at hl 1 rfl) ?_
  refine lv_aload_n hx hb dX3_slide_5 rfl (lv_at hl 0 rfl) ?_
  refine g_X3_15 hB hz k_z dX3_slide_6 ?_
  refine lv_iload_n hx hb dX3_slide_9 rfl (lv_at hl 2 rfl) ?_
  refine lv_iload_n hx hb dX3_slide_10 rfl (lv_at hl 3 rfl) ?_
  obtain ⟨hi11, hE⟩ := x_chk hE
  refine x_copy (n0 := 24) (n1 := 24) hB hz (kd_sh k_z).2.1 (kd_sh k_z).2.1 hi11 hl.1 kw_372 kw_309 kw_308 kw_70 (Nat.le_of_ble_eq_true rfl) (Nat.le_of_ble_eq_true rfl) dX3_slide_11 (fun H locs hz => ?_)
  refine lv_aload_n hx hb dX3_slide_14 rfl (lv_at hl 0 rfl) ?_
  refine g_X3_18 hB hz k_z dX3_slide_15 ?_
  refine lv_iload_n hx hb dX3_slide_18 rfl (lv_at hl 1 rfl) ?_
  refine lv_aload_n hx hb dX3_slide_19 rfl (lv_at hl 0 rfl) ?_
  refine g_X3_18 hB hz k_z dX3_slide_20 ?_
  refine lv_iload_n hx hb dX3_slide_23 rfl (lv_at hl 2 rfl) ?_
  refine lv_iload_n hx hb dX3_slide_24 rfl (lv_at hl 3 rfl) ?_
  obtain ⟨hi25, hE⟩ := x_chk hE
  refine x_copy (n0 := 24) (n1 := 24) hB hz (kd_sh k_z).2.2.1 (kd_sh k_z).2.2.1 hi25 hl.1 kw_372 kw_309 kw_308 kw_70 (Nat.le_of_ble_eq_true rfl) (Nat.le_of_ble_eq_true rfl) dX3_slide_25 (fun H locs hz => ?_)
  refine lv_aload_n hx hb dX3_slide_28 rfl (lv_at hl 0 rfl) ?_
  refine g_X3_21 hB hz k_z dX3_slide_29 ?_
  refine lv_iload_n hx hb dX3_slide_32 rfl (lv_at hl 1 rfl) ?_
  refine lv_aload_n hx hb dX3_slide_33 rfl (lv_at hl 0 rfl) ?_
  refine g_X3_21 hB hz k_z dX3_slide_34 ?_
  refine lv_iload_n hx hb dX3_slide_37 rfl (lv_at hl 2 rfl) ?_
  refine lv_iload_n hx hb dX3_slide_38 rfl (lv_at hl 3 rfl) ?_
  obtain ⟨hi39, hE⟩ := x_chk hE
  refine x_copy (n0 := 24) (n1 := 24) hB hz (kd_sh k_z).2.2.2.1 (kd_sh k_z).2.2.2.1 hi39 hl.1 kw_372 kw_309 kw_308 kw_70 (Nat.le_of_ble_eq_true rfl) (Nat.le_of_ble_eq_true rfl) dX3_slide_39 (fun H locs hz => ?_)
  exact x_vret hB hz hE dX3_slide_42
theorem c_X3_slide (l : Launch) (g : GP) {z : Nat} (k_z : KD LX z 2) {x1 : Int32} {x2 : Int32} {x3 : Int32} {V : Mem} {o : Mem} (hE : f_X3_slide z x1 x2 x3 V = some o) : CT l g LX yX3_slide cX3_slide 4 none rm_X3_slide [.ref (ad g z), .int x1, .int x2, .int x3] V none o := by
  refine ct_of (by decide) (Nat.le_of_ble_eq_true rfl) ?_
  intro p e s m args below meth c ls hB hz hl
  exact w_X3_slide hB k_z _ _ _ _ _ _ _  hE hz hl
def rm_X3_alter : Room := { frames := 1, cells := 0, slots := 0, locals := 100 }
theorem i_X3_50 {p : Program} {l : Launch} {e : Env} {R : Room} {s : State} {m : MethodId} {args : Array Value} {below : List Frame} {meth : Method} {c : Code} {H : Heap} {locs : List Loc} {Q : State → Prop} {cc : ByteArray} {pc : Nat} {ls : Array Slot} {rest : List Value} {g : GP} {V : Mem} {nL : Nat} {ret : Option FieldType} (hB : BX p s m args meth c g LX cc nL RX3 ret) (hz : OK g LX V s H locs) {i : Nat} (hk : KD LX i 2) {a0 : Int32} {r : Int32} {V1 : Mem} (hM : CT l g LX yX3_has cX3_has 2 (some .boolean) rm_X3_has [.ref (ad g i), .int a0] V (some (.int r)) V1) (hR : rm_X3_has.frames + 1 ≤ R.frames ∧ 8 + (2 + 11) + rm_X3_has.locals ≤ R.locals) (hsz : ls.size = nL) (hrest : (rest.map fun v => v.category).sum ≤ 8) (hdg : decode cc pc = .ok (.invokevirtual 50, 3)) (kk : ∀ (H1 : Heap) (locs1 : List Loc), OK g LX V1 s H1 locs1 → W p l e R s m args below meth c H1 locs1 0 0 Q (F0 m (pc + 3) ls (.int r :: rest))) : W p l e R s m args below meth c H locs 0 0 Q (F0 m pc ls (.int a0 :: .ref (ad g i) :: rest)) :=
  x_cv (As := [.int a0]) (n := 1) (T := TX3) (N := 7) hB hz hM hk rfl rfl rfl rfl kw_380 kw_64 kw_377 kw_378 kw_379 (by decide +kernel) rfl hR hsz hrest hdg kk
set_option maxHeartbeats 4000000 in
set_option maxRecDepth 100000 in
theorem w_X3_alter {p : Program} {l : Launch} {e : Env} {s : State} {m : MethodId} {args : Array Value} {below : List Frame} {meth : Method} {c : Code} {g : GP} (hB : BX p s m args meth c g LX cX3_alter 5 RX3 none) {z : Nat} (k_z : KD LX z 2) {o : Mem} : ∀ (x1 : Int32) (x2 : Int32) (x3 : Int32) (x4 : Int32) (V : Mem) (H : Heap) (locs : List Loc) (ls : Array Slot), f_X3_alter z x1 x2 x3 x4 V = some o → OK g LX V s H locs → lv_has ls 5 [(0, .ref (ad g z)), (1, .int x1), (2, .int x2), (3, .int x3), (4, .int x4)] → W p l e rm_X3_alter s m args below meth c H locs 0 0 (MQ below (QQ g LX none o) args s 0 0 (Ar g LX)) (F0 m 0 ls []) := by
  obtain ⟨hx, hb, hml, hown, hT, hr, hlk, hK, hJ, hZ, hN⟩ := id hB
  intro x1 x2 x3 x4 V H locs ls hE hz hl
  unfold f_X3_alter at hE
  refine lv_aload_n hx hb dX3_alter_0 rfl (lv_at hl 0 rfl) ?_
  refine lv_iload_n hx hb dX3_alter_1 rfl (lv_at hl 1 rfl) ?_
  obtain ⟨q2, hq2, hE⟩ := x_bind hE
  refine i_X3_50 hB hz k_z (c_X3_has l g k_z hq2) ⟨(Nat.le_of_ble_eq_true rfl), (Nat.le_of_ble_eq_true rfl)⟩ hl.1 (Nat.le_of_ble_eq_true rfl) dX3_alter_2 (fun H locs hz => ?_)
  refine lv_if_ne (tgt := 9) hx hb dX3_alter_5 (by decide) (fun c5 => ?_) (fun c5 => ?_)
  · have hE := (if_neg c5).symm.trans hE
    refine lv_aload_n hx hb dX3_alter_9 rfl (lv_at hl 0 rfl) ?_
    refine g_X3_15 hB hz k_z dX3_alter_10 ?_
    refine lv_iload_n hx hb dX3_alter_13 rfl (lv_at hl 1 rfl) ?_
    refine lv_iload_n hx hb dX3_alter_14 rfl (lv_at hl 2 rfl) ?_
    obtain ⟨hi15, hE⟩ := x_chk hE
    refine x_iast (n := 24) hB hz (kd_sh k_z).2.1 hi15 dX3_alter_15 (fun H locs hz => ?_)
    refine lv_aload_n hx hb dX3_alter_16 rfl (lv_at hl 0 rfl) ?_
    refine g_X3_18 hB hz k_z dX3_alter_17 ?_
    refine lv_iload_n hx hb dX3_alter_20 rfl (lv_at hl 1 rfl) ?_
    refine lv_iload_n hx hb dX3_alter_21 rfl (lv_at hl 3 rfl) ?_
    obtain ⟨hi22, hE⟩ := x_chk hE
    refine x_iast (n := 24) hB hz (kd_sh k_z).2.2.1 hi22 dX3_alter_22 (fun H locs hz => ?_)
    refine lv_aload_n hx hb dX3_alter_23 rfl (lv_at hl 0 rfl) ?_
    refine g_X3_21 hB hz k_z dX3_alter_24 ?_
    refine lv_iload_n hx hb dX3_alter_27 rfl (lv_at hl 1 rfl) ?_
    refine lv_iload hx hb dX3_alter_28 (lv_at hl 4 rfl) ?_
    obtain ⟨hi30, hE⟩ := x_chk hE
    refine x_iast (n := 24) hB hz (kd_sh k_z).2.2.2.1 hi30 dX3_alter_30 (fun H locs hz => ?_)
    refine lv_aload_n hx hb dX3_alter_31 rfl (lv_at hl 0 rfl) ?_
    refine lv_aload_n hx hb dX3_alter_32 rfl (lv_at hl 0 rfl) ?_
    refine g_X3_33 hB hz k_z dX3_alter_33 ?_
    refine lv_iload_n hx hb dX3_alter_36 rfl (lv_at hl 1 rfl) ?_
    refine va_mmin hx hb (hml.trans hl.1.symm) hown (hT _ kw_381) (hT _ kw_382) (hT _ kw_71) (hT _ kw_383) (Nat.le_of_ble_eq_true rfl) (Nat.le_of_ble_eq_true rfl) (Nat.le_of_ble_eq_true rfl) (Nat.le_of_ble_eq_true rfl) dX3_alter_37 ?_
    refine p_X3_33 hB hz k_z dX3_alter_40 (fun H locs hz => ?_)
    exact x_vret hB hz hE dX3_alter_43
  · have hE := (if_pos c5).symm.trans hE
    exact x_vret hB hz hE dX3_alter_8
theorem c_X3_alter (l : Launch) (g : GP) {z : Nat} (k_z : KD LX z 2) {x1 : Int32} {x2 : Int32} {x3 : Int32} {x4 : Int32} {V : Mem} {o : Mem} (hE : f_X3_alter z x1 x2 x3 x4 V = some o) : CT l g LX yX3_alter cX3_alter 5 none rm_X3_alter [.ref (ad g z), .int x1, .int x2, .int x3, .int x4] V none o := by
  refine ct_of (by decide) (Nat.le_of_ble_eq_true rfl) ?_
  intro p e s m args below meth c ls hB hz hl
  exact w_X3_alter hB k_z _ _ _ _ _ _ _ _  hE hz hl
def rm_X3_insert : Room := { frames := 2, cells := 0, slots := 0, locals := 124 }
theorem i_X3_42 {p : Program} {l : Launch} {e : Env} {R : Room} {s : State} {m : MethodId} {args : Array Value} {below : List Frame} {meth : Method} {c : Code} {H : Heap} {locs : List Loc} {Q : State → Prop} {cc : ByteArray} {pc : Nat} {ls : Array Slot} {rest : List Value} {g : GP} {V : Mem} {nL : Nat} {ret : Option FieldType} (hB : BX p s m args meth c g LX cc nL RX3 ret) (hz : OK g LX V s H locs) {i : Nat} (hk : KD LX i 2) {a0 : Int32} {a1 : Int32} {a2 : Int32} {V1 : Mem} (hM : CT l g LX yX3_slide cX3_slide 4 none rm_X3_slide [.ref (ad g i), .int a0, .int a1, .int a2] V none V1) (hR : rm_X3_slide.frames + 1 ≤ R.frames ∧ 8 + (4 + 11) + rm_X3_slide.locals ≤ R.locals) (hsz : ls.size = nL) (hrest : (rest.map fun v => v.category).sum ≤ 8) (hdg : decode cc pc = .ok (.invokevirtual 42, 3)) (kk : ∀ (H1 : Heap) (locs1 : List Loc), OK g LX V1 s H1 locs1 → W p l e R s m args below meth c H1 locs1 0 0 Q (F0 m (pc + 3) ls (rest))) : W p l e R s m args below meth c H locs 0 0 Q (F0 m pc ls (.int a2 :: .int a1 :: .int a0 :: .ref (ad g i) :: rest)) :=
  x_cv (As := [.int a0, .int a1, .int a2]) (n := 3) (T := TX3) (N := 7) hB hz hM hk rfl rfl rfl rfl kw_371 kw_64 kw_368 kw_370 kw_9 (by decide +kernel) rfl hR hsz hrest hdg kk
theorem i_X3_46 {p : Program} {l : Launch} {e : Env} {R : Room} {s : State} {m : MethodId} {args : Array Value} {below : List Frame} {meth : Method} {c : Code} {H : Heap} {locs : List Loc} {Q : State → Prop} {cc : ByteArray} {pc : Nat} {ls : Array Slot} {rest : List Value} {g : GP} {V : Mem} {nL : Nat} {ret : Option FieldType} (hB : BX p s m args meth c g LX cc nL RX3 ret) (hz : OK g LX V s H locs) {i : Nat} (hk : KD LX i 2) {a0 : Int32} {a1 : Int32} {a2 : Int32} {a3 : Int32} {V1 : Mem} (hM : CT l g LX yX3_alter cX3_alter 5 none rm_X3_alter [.ref (ad g i), .int a0, .int a1, .int a2, .int a3] V none V1) (hR : rm_X3_alter.frames + 1 ≤ R.frames ∧ 8 + (5 + 11) + rm_X3_alter.locals ≤ R.locals) (hsz : ls.size = nL) (hrest : (rest.map fun v => v.category).sum ≤ 8) (hdg : decode cc pc = .ok (.invokevirtual 46, 3)) (kk : ∀ (H1 : Heap) (locs1 : List Loc), OK g LX V1 s H1 locs1 → W p l e R s m args below meth c H1 locs1 0 0 Q (F0 m (pc + 3) ls (rest))) : W p l e R s m args below meth c H locs 0 0 Q (F0 m pc ls (.int a3 :: .int a2 :: .int a1 :: .int a0 :: .ref (ad g i) :: rest)) :=
  x_cv (As := [.int a0, .int a1, .int a2, .int a3]) (n := 4) (T := TX3) (N := 7) hB hz hM hk rfl rfl rfl rfl kw_376 kw_64 kw_373 kw_374 kw_375 (by decide +kernel) rfl hR hsz hrest hdg kk
set_option maxHeartbeats 4000000 in
set_option maxRecDepth 100000 in
theorem w_X3_insert {p : Program} {l : Launch} {e : Env} {s : State} {m : MethodId} {args : Array Value} {below : List Frame} {meth : Method} {c : Code} {g : GP} (hB : BX p s m args meth c g LX cX3_insert 5 RX3 none) {z : Nat} (k_z : KD LX z 2) {o : Mem} : ∀ (x1 : Int32) (x2 : Int32) (x3 : Int32) (x4 : Int32) (V : Mem) (H : Heap) (locs : List Loc) (ls : Array Slot), f_X3_insert z x1 x2 x3 x4 V = some o → OK g LX V s H locs → lv_has ls 5 [(0, .ref (ad g z)), (1, .int x1), (2, .int x2), (3, .int x3), (4, .int x4)] → W p l e rm_X3_insert s m args below meth c H locs 0 0 (MQ below (QQ g LX none o) args s 0 0 (Ar g LX)) (F0 m 0 ls []) := by
  obtain ⟨hx, hb, hml, hown, hT, hr, hlk, hK, hJ, hZ, hN⟩ := id hB
  intro x1 x2 x3 x4 V H locs ls hE hz hl
  unfold f_X3_insert at hE
  refine lv_aload_n hx hb dX3_insert_0 rfl (lv_at hl 0 rfl) ?_
  refine g_X3_24 hB hz k_z dX3_insert_1 ?_
  refine lv_bipush (v := (24 : Int32)) hx hb dX3_insert_4 (by decide) ?_
  refine lv_icmp_ge (tgt := 21) hx hb dX3_insert_6 (by decide) (fun c6 => ?_) (fun c6 => ?_)
  · have hE := (if_pos c6).symm.trans hE
    exact x_vret hB hz hE dX3_insert_21
  · have hE := (if_neg c6).symm.trans hE
    refine lv_iload_n hx hb dX3_insert_9 rfl (lv_at hl 1 rfl) ?_
    refine lv_if_lt (tgt := 21) hx hb dX3_insert_10 (by decide) (fun c10 => ?_) (fun c10 => ?_)
    · have hE := (if_pos c10).symm.trans hE
      exact x_vret hB hz hE dX3_insert_21
    · have hE := (if_neg c10).symm.trans hE
      refine lv_iload_n hx hb dX3_insert_13 rfl (lv_at hl 1 rfl) ?_
      refine lv_aload_n hx hb dX3_insert_14 rfl (lv_at hl 0 rfl) ?_
      refine g_X3_24 hB hz k_z dX3_insert_15 ?_
      refine lv_icmp_le (tgt := 22) hx hb dX3_insert_18 (by decide) (fun c18 => ?_) (fun c18 => ?_)
      · have hE := (if_pos c18).symm.trans hE
        refine lv_aload_n hx hb dX3_insert_22 rfl (lv_at hl 0 rfl) ?_
        refine lv_iload_n hx hb dX3_insert_23 rfl (lv_at hl 1 rfl) ?_
        refine lv_iload_n hx hb dX3_insert_24 rfl (lv_at hl 1 rfl) ?_
        refine lv_iconst (v := (1 : Int32)) hx hb dX3_insert_25 (by decide) ?_
        refine lv_iadd hx hb dX3_insert_26 ?_
        refine lv_aload_n hx hb dX3_insert_27 rfl (lv_at hl 0 rfl) ?_
        refine g_X3_24 hB hz k_z dX3_insert_28 ?_
        refine lv_iload_n hx hb dX3_insert_31 rfl (lv_at hl 1 rfl) ?_
        refine lv_isub hx hb dX3_insert_32 ?_
        obtain ⟨q33, hq33, hE⟩ := x_bind hE
        refine i_X3_42 hB hz k_z (c_X3_slide l g k_z hq33) ⟨(Nat.le_of_ble_eq_true rfl), (Nat.le_of_ble_eq_true rfl)⟩ hl.1 (Nat.le_of_ble_eq_true rfl) dX3_insert_33 (fun H locs hz => ?_)
        refine lv_aload_n hx hb dX3_insert_36 rfl (lv_at hl 0 rfl) ?_
        refine lv_dup hx hb dX3_insert_37 rfl ?_
        refine g_X3_24 hB hz k_z dX3_insert_38 ?_
        refine lv_iconst (v := (1 : Int32)) hx hb dX3_insert_41 (by decide) ?_
        refine lv_iadd hx hb dX3_insert_42 ?_
        refine p_X3_24 hB hz k_z dX3_insert_43 (fun H locs hz => ?_)
        refine lv_aload_n hx hb dX3_insert_46 rfl (lv_at hl 0 rfl) ?_
        refine lv_iload_n hx hb dX3_insert_47 rfl (lv_at hl 1 rfl) ?_
        refine lv_iload_n hx hb dX3_insert_48 rfl (lv_at hl 2 rfl) ?_
        refine lv_iload_n hx hb dX3_insert_49 rfl (lv_at hl 3 rfl) ?_
        refine lv_iload hx hb dX3_insert_50 (lv_at hl 4 rfl) ?_
        obtain ⟨q52, hq52, hE⟩ := x_bind hE
        refine i_X3_46 hB hz k_z (c_X3_alter l g k_z hq52) ⟨(Nat.le_of_ble_eq_true rfl), (Nat.le_of_ble_eq_true rfl)⟩ hl.1 (Nat.le_of_ble_eq_true rfl) dX3_insert_52 (fun H locs hz => ?_)
        exact x_vret hB hz hE dX3_insert_55
      · have hE := (if_neg c18).symm.trans hE
        exact x_vret hB hz hE dX3_insert_21
theorem c_X3_insert (l : Launch) (g : GP) {z : Nat} (k_z : KD LX z 2) {x1 : Int32} {x2 : Int32} {x3 : Int32} {x4 : Int32} {V : Mem} {o : Mem} (hE : f_X3_insert z x1 x2 x3 x4 V = some o) : CT l g LX yX3_insert cX3_insert 5 none rm_X3_insert [.ref (ad g z), .int x1, .int x2, .int x3, .int x4] V none o := by
  refine ct_of (by decide) (Nat.le_of_ble_eq_true rfl) ?_
  intro p e s m args below meth c ls hB hz hl
  exact w_X3_insert hB k_z _ _ _ _ _ _ _ _  hE hz hl
def rm_X3_remove : Room := { frames := 2, cells := 0, slots := 0, locals := 123 }
set_option maxHeartbeats 4000000 in
set_option maxRecDepth 100000 in
theorem w_X3_remove {p : Program} {l : Launch} {e : Env} {s : State} {m : MethodId} {args : Array Value} {below : List Frame} {meth : Method} {c : Code} {g : GP} (hB : BX p s m args meth c g LX cX3_remove 2 RX3 none) {z : Nat} (k_z : KD LX z 2) {o : Mem} : ∀ (x1 : Int32) (V : Mem) (H : Heap) (locs : List Loc) (ls : Array Slot), f_X3_remove z x1 V = some o → OK g LX V s H locs → lv_has ls 2 [(0, .ref (ad g z)), (1, .int x1)] → W p l e rm_X3_remove s m args below meth c H locs 0 0 (MQ below (QQ g LX none o) args s 0 0 (Ar g LX)) (F0 m 0 ls []) := by
  obtain ⟨hx, hb, hml, hown, hT, hr, hlk, hK, hJ, hZ, hN⟩ := id hB
  intro x1 V H locs ls hE hz hl
  unfold f_X3_remove at hE
  refine lv_aload_n hx hb dX3_remove_0 rfl (lv_at hl 0 rfl) ?_
  refine lv_iload_n hx hb dX3_remove_1 rfl (lv_at hl 1 rfl) ?_
  obtain ⟨q2, hq2, hE⟩ := x_bind hE
  refine i_X3_50 hB hz k_z (c_X3_has l g k_z hq2) ⟨(Nat.le_of_ble_eq_true rfl), (Nat.le_of_ble_eq_true rfl)⟩ hl.1 (Nat.le_of_ble_eq_true rfl) dX3_remove_2 (fun H locs hz => ?_)
  refine lv_if_ne (tgt := 9) hx hb dX3_remove_5 (by decide) (fun c5 => ?_) (fun c5 => ?_)
  · have hE := (if_neg c5).symm.trans hE
    refine lv_aload_n hx hb dX3_remove_9 rfl (lv_at hl 0 rfl) ?_
    refine lv_iload_n hx hb dX3_remove_10 rfl (lv_at hl 1 rfl) ?_
    refine lv_iconst (v := (1 : Int32)) hx hb dX3_remove_11 (by decide) ?_
    refine lv_iadd hx hb dX3_remove_12 ?_
    refine lv_iload_n hx hb dX3_remove_13 rfl (lv_at hl 1 rfl) ?_
    refine lv_aload_n hx hb dX3_remove_14 rfl (lv_at hl 0 rfl) ?_
    refine g_X3_24 hB hz k_z dX3_remove_15 ?_
    refine lv_iload_n hx hb dX3_remove_18 rfl (lv_at hl 1 rfl) ?_
    refine lv_isub hx hb dX3_remove_19 ?_
    refine lv_iconst (v := (1 : Int32)) hx hb dX3_remove_20 (by decide) ?_
    refine lv_isub hx hb dX3_remove_21 ?_
    obtain ⟨q22, hq22, hE⟩ := x_bind hE
    refine i_X3_42 hB hz k_z (c_X3_slide l g k_z hq22) ⟨(Nat.le_of_ble_eq_true rfl), (Nat.le_of_ble_eq_true rfl)⟩ hl.1 (Nat.le_of_ble_eq_true rfl) dX3_remove_22 (fun H locs hz => ?_)
    refine lv_aload_n hx hb dX3_remove_25 rfl (lv_at hl 0 rfl) ?_
    refine lv_dup hx hb dX3_remove_26 rfl ?_
    refine g_X3_24 hB hz k_z dX3_remove_27 ?_
    refine lv_iconst (v := (1 : Int32)) hx hb dX3_remove_30 (by decide) ?_
    refine lv_isub hx hb dX3_remove_31 ?_
    refine p_X3_24 hB hz k_z dX3_remove_32 (fun H locs hz => ?_)
    refine lv_aload_n hx hb dX3_remove_35 rfl (lv_at hl 0 rfl) ?_
    refine lv_aload_n hx hb dX3_remove_36 rfl (lv_at hl 0 rfl) ?_
    refine g_X3_33 hB hz k_z dX3_remove_37 ?_
    refine lv_iload_n hx hb dX3_remove_40 rfl (lv_at hl 1 rfl) ?_
    refine va_mmin hx hb (hml.trans hl.1.symm) hown (hT _ kw_381) (hT _ kw_382) (hT _ kw_71) (hT _ kw_383) (Nat.le_of_ble_eq_true rfl) (Nat.le_of_ble_eq_true rfl) (Nat.le_of_ble_eq_true rfl) (Nat.le_of_ble_eq_true rfl) dX3_remove_41 ?_
    refine p_X3_33 hB hz k_z dX3_remove_44 (fun H locs hz => ?_)
    exact x_vret hB hz hE dX3_remove_47
  · have hE := (if_pos c5).symm.trans hE
    exact x_vret hB hz hE dX3_remove_8
theorem c_X3_remove (l : Launch) (g : GP) {z : Nat} (k_z : KD LX z 2) {x1 : Int32} {V : Mem} {o : Mem} (hE : f_X3_remove z x1 V = some o) : CT l g LX yX3_remove cX3_remove 2 none rm_X3_remove [.ref (ad g z), .int x1] V none o := by
  refine ct_of (by decide) (Nat.le_of_ble_eq_true rfl) ?_
  intro p e s m args below meth c ls hB hz hl
  exact w_X3_remove hB k_z _ _ _ _ _  hE hz hl
def rm_X3_shift : Room := { frames := 3, cells := 0, slots := 0, locals := 148 }
theorem i_X3_60 {p : Program} {l : Launch} {e : Env} {R : Room} {s : State} {m : MethodId} {args : Array Value} {below : List Frame} {meth : Method} {c : Code} {H : Heap} {locs : List Loc} {Q : State → Prop} {cc : ByteArray} {pc : Nat} {ls : Array Slot} {rest : List Value} {g : GP} {V : Mem} {nL : Nat} {ret : Option FieldType} (hB : BX p s m args meth c g LX cc nL RX3 ret) (hz : OK g LX V s H locs) {i : Nat} (hk : KD LX i 2) {a0 : Int32} {V1 : Mem} (hM : CT l g LX yX3_remove cX3_remove 2 none rm_X3_remove [.ref (ad g i), .int a0] V none V1) (hR : rm_X3_remove.frames + 1 ≤ R.frames ∧ 8 + (2 + 11) + rm_X3_remove.locals ≤ R.locals) (hsz : ls.size = nL) (hrest : (rest.map fun v => v.category).sum ≤ 8) (hdg : decode cc pc = .ok (.invokevirtual 60, 3)) (kk : ∀ (H1 : Heap) (locs1 : List Loc), OK g LX V1 s H1 locs1 → W p l e R s m args below meth c H1 locs1 0 0 Q (F0 m (pc + 3) ls (rest))) : W p l e R s m args below meth c H locs 0 0 Q (F0 m pc ls (.int a0 :: .ref (ad g i) :: rest)) :=
  x_cv (As := [.int a0]) (n := 1) (T := TX3) (N := 7) hB hz hM hk rfl rfl rfl rfl kw_409 kw_64 kw_415 kw_407 kw_408 (by decide +kernel) rfl hR hsz hrest hdg kk
theorem i_X3_64 {p : Program} {l : Launch} {e : Env} {R : Room} {s : State} {m : MethodId} {args : Array Value} {below : List Frame} {meth : Method} {c : Code} {H : Heap} {locs : List Loc} {Q : State → Prop} {cc : ByteArray} {pc : Nat} {ls : Array Slot} {rest : List Value} {g : GP} {V : Mem} {nL : Nat} {ret : Option FieldType} (hB : BX p s m args meth c g LX cc nL RX3 ret) (hz : OK g LX V s H locs) {i : Nat} (hk : KD LX i 2) {a0 : Int32} {a1 : Int32} {a2 : Int32} {a3 : Int32} {V1 : Mem} (hM : CT l g LX yX3_insert cX3_insert 5 none rm_X3_insert [.ref (ad g i), .int a0, .int a1, .int a2, .int a3] V none V1) (hR : rm_X3_insert.frames + 1 ≤ R.frames ∧ 8 + (5 + 11) + rm_X3_insert.locals ≤ R.locals) (hsz : ls.size = nL) (hrest : (rest.map fun v => v.category).sum ≤ 8) (hdg : decode cc pc = .ok (.invokevirtual 64, 3)) (kk : ∀ (H1 : Heap) (locs1 : List Loc), OK g LX V1 s H1 locs1 → W p l e R s m args below meth c H1 locs1 0 0 Q (F0 m (pc + 3) ls (rest))) : W p l e R s m args below meth c H locs 0 0 Q (F0 m pc ls (.int a3 :: .int a2 :: .int a1 :: .int a0 :: .ref (ad g i) :: rest)) :=
  x_cv (As := [.int a0, .int a1, .int a2, .int a3]) (n := 4) (T := TX3) (N := 7) hB hz hM hk rfl rfl rfl rfl kw_367 kw_64 kw_416 kw_365 kw_366 (by decide +kernel) rfl hR hsz hrest hdg kk
set_option maxHeartbeats 4000000 in
set_option maxRecDepth 100000 in
theorem w_X3_shift {p : Program} {l : Launch} {e : Env} {s : State} {m : MethodId} {args : Array Value} {below : List Frame} {meth : Method} {c : Code} {g : GP} (hB : BX p s m args meth c g LX cX3_shift 6 RX3 none) {z : Nat} (k_z : KD LX z 2) {o : Mem} : ∀ (x1 : Int32) (x2 : Int32) (V : Mem) (H : Heap) (locs : List Loc) (ls : Array Slot), f_X3_shift z x1 x2 V = some o → OK g LX V s H locs → lv_has ls 6 [(0, .ref (ad g z)), (1, .int x1), (2, .int x2)] → W p l e rm_X3_shift s m args below meth c H locs 0 0 (MQ below (QQ g LX none o) args s 0 0 (Ar g LX)) (F0 m 0 ls []) := by
  obtain ⟨hx, hb, hml, hown, hT, hr, hlk, hK, hJ, hZ, hN⟩ := id hB
  intro x1 x2 V H locs ls hE hz hl
  unfold f_X3_shift at hE
  refine lv_aload_n hx hb dX3_shift_0 rfl (lv_at hl 0 rfl) ?_
  refine lv_iload_n hx hb dX3_shift_1 rfl (lv_at hl 1 rfl) ?_
  obtain ⟨q2, hq2, hE⟩ := x_bind hE
  refine i_X3_50 hB hz k_z (c_X3_has l g k_z hq2) ⟨(Nat.le_of_ble_eq_true rfl), (Nat.le_of_ble_eq_true rfl)⟩ hl.1 (Nat.le_of_ble_eq_true rfl) dX3_shift_2 (fun H locs hz => ?_)
  refine lv_if_eq (tgt := 16) hx hb dX3_shift_5 (by decide) (fun c5 => ?_) (fun c5 => ?_)
  · have hE := (if_pos c5).symm.trans hE
    exact x_vret hB hz hE dX3_shift_16
  · have hE := (if_neg c5).symm.trans hE
    refine lv_aload_n hx hb dX3_shift_8 rfl (lv_at hl 0 rfl) ?_
    refine lv_iload_n hx hb dX3_shift_9 rfl (lv_at hl 2 rfl) ?_
    obtain ⟨q10, hq10, hE⟩ := x_bind hE
    refine i_X3_50 hB hz k_z (c_X3_has l g k_z hq10) ⟨(Nat.le_of_ble_eq_true rfl), (Nat.le_of_ble_eq_true rfl)⟩ hl.1 (Nat.le_of_ble_eq_true rfl) dX3_shift_10 (fun H locs hz => ?_)
    refine lv_if_ne (tgt := 17) hx hb dX3_shift_13 (by decide) (fun c13 => ?_) (fun c13 => ?_)
    · have hE := (if_neg c13).symm.trans hE
      refine lv_aload_n hx hb dX3_shift_17 rfl (lv_at hl 0 rfl) ?_
      refine g_X3_15 hB hz k_z dX3_shift_18 ?_
      refine lv_iload_n hx hb dX3_shift_21 rfl (lv_at hl 1 rfl) ?_
      obtain ⟨hi22, hE⟩ := x_chk hE
      refine x_iald (n := 24) hB hz (kd_sh k_z).2.1 hi22 dX3_shift_22 ?_
      refine lv_istore_n (lv' := [(3, .int (q10.2 (z + 2) (x1).toNatClampNeg)), (0, .ref (ad g z)), (1, .int x1), (2, .int x2)]) hx hb dX3_shift_23 rfl hl (by decide) rfl (fun ls hl => ?_)
      refine lv_aload_n hx hb dX3_shift_24 rfl (lv_at hl 1 rfl) ?_
      refine g_X3_18 hB hz k_z dX3_shift_25 ?_
      refine lv_iload_n hx hb dX3_shift_28 rfl (lv_at hl 2 rfl) ?_
      obtain ⟨hi29, hE⟩ := x_chk hE
      refine x_iald (n := 24) hB hz (kd_sh k_z).2.2.1 hi29 dX3_shift_29 ?_
      refine lv_istore (lv' := [(4, .int (q10.2 (z + 3) (x1).toNatClampNeg)), (3, .int (q10.2 (z + 2) (x1).toNatClampNeg)), (0, .ref (ad g z)), (1, .int x1), (2, .int x2)]) hx hb dX3_shift_30 hl (by decide) rfl (fun ls hl => ?_)
      refine lv_aload_n hx hb dX3_shift_32 rfl (lv_at hl 2 rfl) ?_
      refine g_X3_21 hB hz k_z dX3_shift_33 ?_
      refine lv_iload_n hx hb dX3_shift_36 rfl (lv_at hl 3 rfl) ?_
      obtain ⟨hi37, hE⟩ := x_chk hE
      refine x_iald (n := 24) hB hz (kd_sh k_z).2.2.2.1 hi37 dX3_shift_37 ?_
      refine lv_istore (lv' := [(5, .int (q10.2 (z + 4) (x1).toNatClampNeg)), (4, .int (q10.2 (z + 3) (x1).toNatClampNeg)), (3, .int (q10.2 (z + 2) (x1).toNatClampNeg)), (0, .ref (ad g z)), (1, .int x1), (2, .int x2)]) hx hb dX3_shift_38 hl (by decide) rfl (fun ls hl => ?_)
      refine lv_aload_n hx hb dX3_shift_40 rfl (lv_at hl 3 rfl) ?_
      refine lv_iload_n hx hb dX3_shift_41 rfl (lv_at hl 4 rfl) ?_
      obtain ⟨q42, hq42, hE⟩ := x_bind hE
      refine i_X3_60 hB hz k_z (c_X3_remove l g k_z hq42) ⟨(Nat.le_of_ble_eq_true rfl), (Nat.le_of_ble_eq_true rfl)⟩ hl.1 (Nat.le_of_ble_eq_true rfl) dX3_shift_42 (fun H locs hz => ?_)
      refine lv_aload_n hx hb dX3_shift_45 rfl (lv_at hl 3 rfl) ?_
      refine lv_iload_n hx hb dX3_shift_46 rfl (lv_at hl 5 rfl) ?_
      refine lv_iload_n hx hb dX3_shift_47 rfl (lv_at hl 2 rfl) ?_
      refine lv_iload hx hb dX3_shift_48 (lv_at hl 1 rfl) ?_
      refine lv_iload hx hb dX3_shift_50 (lv_at hl 0 rfl) ?_
      obtain ⟨q52, hq52, hE⟩ := x_bind hE
      refine i_X3_64 hB hz k_z (c_X3_insert l g k_z hq52) ⟨(Nat.le_of_ble_eq_true rfl), (Nat.le_of_ble_eq_true rfl)⟩ hl.1 (Nat.le_of_ble_eq_true rfl) dX3_shift_52 (fun H locs hz => ?_)
      exact x_vret hB hz hE dX3_shift_55
    · have hE := (if_pos c13).symm.trans hE
      exact x_vret hB hz hE dX3_shift_16
theorem c_X3_shift (l : Launch) (g : GP) {z : Nat} (k_z : KD LX z 2) {x1 : Int32} {x2 : Int32} {V : Mem} {o : Mem} (hE : f_X3_shift z x1 x2 V = some o) : CT l g LX yX3_shift cX3_shift 6 none rm_X3_shift [.ref (ad g z), .int x1, .int x2] V none o := by
  refine ct_of (by decide) (Nat.le_of_ble_eq_true rfl) ?_
  intro p e s m args below meth c ls hB hz hl
  exact w_X3_shift hB k_z _ _ _ _ _ _  hE hz hl
def rm_X3_editBy : Room := { frames := 3, cells := 0, slots := 0, locals := 148 }
set_option maxHeartbeats 4000000 in
set_option maxRecDepth 100000 in
theorem w_X3_editBy_93 {p : Program} {l : Launch} {e : Env} {s : State} {m : MethodId} {args : Array Value} {below : List Frame} {meth : Method} {c : Code} {g : GP} (hB : BX p s m args meth c g LX cX3_editBy 7 RX3 none) {z : Nat} (k_z : KD LX z 2) {o : Mem} : ∀ (x3 : Int32) (V : Mem) (H : Heap) (locs : List Loc) (ls : Array Slot), f_X3_editBy_93 z x3 V = some o → OK g LX V s H locs → lv_has ls 7 [(0, .ref (ad g z)), (3, .int x3)] → W p l e rm_X3_editBy s m args below meth c H locs 0 0 (MQ below (QQ g LX none o) args s 0 0 (Ar g LX)) (F0 m 93 ls []) := by
  obtain ⟨hx, hb, hml, hown, hT, hr, hlk, hK, hJ, hZ, hN⟩ := id hB
  intro x3 V H locs ls hE hz hl
  unfold f_X3_editBy_93 at hE
  refine lv_aload_n hx hb dX3_editBy_93 rfl (lv_at hl 0 rfl) ?_
  refine g_X3_24 hB hz k_z dX3_editBy_94 ?_
  refine lv_iconst (v := (1 : Int32)) hx hb dX3_editBy_97 (by decide) ?_
  refine lv_icmp_le (tgt := 106) hx hb dX3_editBy_98 (by decide) (fun c98 => ?_) (fun c98 => ?_)
  · have hE := (if_pos c98).symm.trans hE
    exact x_vret hB hz hE dX3_editBy_106
  · have hE := (if_neg c98).symm.trans hE
    refine lv_aload_n hx hb dX3_editBy_101 rfl (lv_at hl 0 rfl) ?_
    refine lv_iload_n hx hb dX3_editBy_102 rfl (lv_at hl 1 rfl) ?_
    obtain ⟨q103, hq103, hE⟩ := x_bind hE
    refine i_X3_60 hB hz k_z (c_X3_remove l g k_z hq103) ⟨(Nat.le_of_ble_eq_true rfl), (Nat.le_of_ble_eq_true rfl)⟩ hl.1 (Nat.le_of_ble_eq_true rfl) dX3_editBy_103 (fun H locs hz => ?_)
    exact x_vret hB hz hE dX3_editBy_106

set_option maxHeartbeats 4000000 in
set_option maxRecDepth 100000 in
theorem w_X3_editBy {p : Program} {l : Launch} {e : Env} {s : State} {m : MethodId} {args : Array Value} {below : List Frame} {meth : Method} {c : Code} {g : GP} (hB : BX p s m args meth c g LX cX3_editBy 7 RX3 none) {z : Nat} (k_z : KD LX z 2) {o : Mem} : ∀ (x1 : Int64) (V : Mem) (H : Heap) (locs : List Loc) (ls : Array Slot), f_X3_editBy z x1 V = some o → OK g LX V s H locs → lv_has ls 7 [(0, .ref (ad g z)), (1, .long x1)] → W p l e rm_X3_editBy s m args below meth c H locs 0 0 (MQ below (QQ g LX none o) args s 0 0 (Ar g LX)) (F0 m 0 ls []) := by
  obtain ⟨hx, hb, hml, hown, hT, hr, hlk, hK, hJ, hZ, hN⟩ := id hB
  intro x1 V H locs ls hE hz hl
  unfold f_X3_editBy at hE
  refine lv_aload_n hx hb dX3_editBy_0 rfl (lv_at hl 0 rfl) ?_
  refine g_X3_24 hB hz k_z dX3_editBy_1 ?_
  refine lv_iconst (v := (1 : Int32)) hx hb dX3_editBy_4 (by decide) ?_
  refine lv_icmp_ge (tgt := 9) hx hb dX3_editBy_5 (by decide) (fun c5 => ?_) (fun c5 => ?_)
  · have hE := (if_pos c5).symm.trans hE
    refine lv_lload_n hx hb dX3_editBy_9 rfl (lv_at hl 1 rfl) ?_
    refine lv_ldc2 (v := (8 : Int64)) hx hb hown (hT _ kw_650) dX3_editBy_10 ?_
    refine lv_ldiv hx hb dX3_editBy_13 (by decide) ?_
    refine lv_aload_n hx hb dX3_editBy_14 rfl (lv_at hl 0 rfl) ?_
    refine g_X3_24 hB hz k_z dX3_editBy_15 ?_
    refine lv_i2l hx hb dX3_editBy_18 rfl ?_
    obtain ⟨hn19, hE⟩ := x_ne0 hE
    refine lv_lrem hx hb dX3_editBy_19 hn19 ?_
    refine lv_l2i hx hb dX3_editBy_20 rfl ?_
    refine lv_istore_n (lv' := [(3, .int (((x1 / (8 : Int64)) - ((x1 / (8 : Int64)) / ((V z 4)).toInt64) * ((V z 4)).toInt64)).toInt32), (0, .ref (ad g z)), (1, .long x1)]) hx hb dX3_editBy_21 rfl hl (by decide) rfl (fun ls hl => ?_)
    refine lv_lload_n hx hb dX3_editBy_22 rfl (lv_at hl 2 rfl) ?_
    refine lv_ldc2 (v := (2 : Int64)) hx hb hown (hT _ kw_651) dX3_editBy_23 ?_
    refine lv_lrem hx hb dX3_editBy_26 (by decide) ?_
    refine lv_lconst (v := (0 : Int64)) hx hb dX3_editBy_27 (by decide) ?_
    refine W.lcmp hx hb dX3_editBy_28 ?_
    refine lv_if_ne (tgt := 93) hx hb dX3_editBy_29 (by decide) (fun c29 => ?_) (fun c29 => ?_)
    · have hE := (if_neg c29).symm.trans hE
      exact w_X3_editBy_93 hB k_z  _ _ _ _ _  hE hz (lv_sub hl [1, 0] rfl)
    · have hE := (if_pos c29).symm.trans hE
      refine lv_aload_n hx hb dX3_editBy_32 rfl (lv_at hl 1 rfl) ?_
      refine g_X3_24 hB hz k_z dX3_editBy_33 ?_
      refine lv_bipush (v := (24 : Int32)) hx hb dX3_editBy_36 (by decide) ?_
      refine lv_icmp_ge (tgt := 93) hx hb dX3_editBy_38 (by decide) (fun c38 => ?_) (fun c38 => ?_)
      · have hE := (if_pos c38).symm.trans hE
        exact w_X3_editBy_93 hB k_z  _ _ _ _ _  hE hz (lv_sub hl [1, 0] rfl)
      · have hE := (if_neg c38).symm.trans hE
        refine lv_iconst (v := (1 : Int32)) hx hb dX3_editBy_41 (by decide) ?_
        refine lv_lload_n hx hb dX3_editBy_42 rfl (lv_at hl 2 rfl) ?_
        refine lv_ldc2 (v := (64 : Int64)) hx hb hown (hT _ kw_652) dX3_editBy_43 ?_
        refine lv_ldiv hx hb dX3_editBy_46 (by decide) ?_
        refine lv_ldc2 (v := (5 : Int64)) hx hb hown (hT _ kw_653) dX3_editBy_47 ?_
        refine lv_lrem hx hb dX3_editBy_50 (by decide) ?_
        refine lv_l2i hx hb dX3_editBy_51 rfl ?_
        refine lv_iadd hx hb dX3_editBy_52 ?_
        refine lv_istore (lv' := [(4, .int ((1 : Int32) + (((x1 / (64 : Int64)) - ((x1 / (64 : Int64)) / (5 : Int64)) * (5 : Int64))).toInt32)), (3, .int (((x1 / (8 : Int64)) - ((x1 / (8 : Int64)) / ((V z 4)).toInt64) * ((V z 4)).toInt64)).toInt32), (0, .ref (ad g z)), (1, .long x1)]) hx hb dX3_editBy_53 hl (by decide) rfl (fun ls hl => ?_)
        refine lv_lload_n hx hb dX3_editBy_55 rfl (lv_at hl 3 rfl) ?_
        refine lv_ldc2 (v := (512 : Int64)) hx hb hown (hT _ kw_654) dX3_editBy_56 ?_
        refine lv_ldiv hx hb dX3_editBy_59 (by decide) ?_
        refine lv_ldc2 (v := (3 : Int64)) hx hb hown (hT _ kw_655) dX3_editBy_60 ?_
        refine lv_lrem hx hb dX3_editBy_63 (by decide) ?_
        refine lv_l2i hx hb dX3_editBy_64 rfl ?_
        refine lv_istore (lv' := [(5, .int (((x1 / (512 : Int64)) - ((x1 / (512 : Int64)) / (3 : Int64)) * (3 : Int64))).toInt32), (4, .int ((1 : Int32) + (((x1 / (64 : Int64)) - ((x1 / (64 : Int64)) / (5 : Int64)) * (5 : Int64))).toInt32)), (3, .int (((x1 / (8 : Int64)) - ((x1 / (8 : Int64)) / ((V z 4)).toInt64) * ((V z 4)).toInt64)).toInt32), (0, .ref (ad g z)), (1, .long x1)]) hx hb dX3_editBy_65 hl (by decide) rfl (fun ls hl => ?_)
        refine lv_lload_n hx hb dX3_editBy_67 rfl (lv_at hl 4 rfl) ?_
        refine lv_ldc2 (v := (4096 : Int64)) hx hb hown (hT _ kw_656) dX3_editBy_68 ?_
        refine lv_ldiv hx hb dX3_editBy_71 (by decide) ?_
        refine lv_ldc2 (v := (21 : Int64)) hx hb hown (hT _ kw_657) dX3_editBy_72 ?_
        refine lv_lrem hx hb dX3_editBy_75 (by decide) ?_
        refine lv_l2i hx hb dX3_editBy_76 rfl ?_
        refine lv_istore (lv' := [(6, .int (((x1 / (4096 : Int64)) - ((x1 / (4096 : Int64)) / (21 : Int64)) * (21 : Int64))).toInt32), (5, .int (((x1 / (512 : Int64)) - ((x1 / (512 : Int64)) / (3 : Int64)) * (3 : Int64))).toInt32), (4, .int ((1 : Int32) + (((x1 / (64 : Int64)) - ((x1 / (64 : Int64)) / (5 : Int64)) * (5 : Int64))).toInt32)), (3, .int (((x1 / (8 : Int64)) - ((x1 / (8 : Int64)) / ((V z 4)).toInt64) * ((V z 4)).toInt64)).toInt32), (0, .ref (ad g z)), (1, .long x1)]) hx hb dX3_editBy_77 hl (by decide) rfl (fun ls hl => ?_)
        refine lv_aload_n hx hb dX3_editBy_79 rfl (lv_at hl 4 rfl) ?_
        refine lv_iload_n hx hb dX3_editBy_80 rfl (lv_at hl 3 rfl) ?_
        refine lv_iload hx hb dX3_editBy_81 (lv_at hl 2 rfl) ?_
        refine lv_iload hx hb dX3_editBy_83 (lv_at hl 1 rfl) ?_
        refine lv_iload hx hb dX3_editBy_85 (lv_at hl 0 rfl) ?_
        obtain ⟨q87, hq87, hE⟩ := x_bind hE
        refine i_X3_64 hB hz k_z (c_X3_insert l g k_z hq87) ⟨(Nat.le_of_ble_eq_true rfl), (Nat.le_of_ble_eq_true rfl)⟩ hl.1 (Nat.le_of_ble_eq_true rfl) dX3_editBy_87 (fun H locs hz => ?_)
        refine lv_goto (tgt := 106) hx hb dX3_editBy_90 (by decide) ?_
        exact x_vret hB hz hE dX3_editBy_106
  · have hE := (if_neg c5).symm.trans hE
    exact x_vret hB hz hE dX3_editBy_8
theorem c_X3_editBy (l : Launch) (g : GP) {z : Nat} (k_z : KD LX z 2) {x1 : Int64} {V : Mem} {o : Mem} (hE : f_X3_editBy z x1 V = some o) : CT l g LX yX3_editBy cX3_editBy 7 none rm_X3_editBy [.ref (ad g z), .long x1] V none o := by
  refine ct_of (by decide) (Nat.le_of_ble_eq_true rfl) ?_
  intro p e s m args below meth c ls hB hz hl
  exact w_X3_editBy hB k_z _ _ _ _ _  hE hz hl
def rm_X3_countOver : Room := { frames := 2, cells := 0, slots := 0, locals := 123 }
theorem i_X3_83 {p : Program} {l : Launch} {e : Env} {R : Room} {s : State} {m : MethodId} {args : Array Value} {below : List Frame} {meth : Method} {c : Code} {H : Heap} {locs : List Loc} {Q : State → Prop} {cc : ByteArray} {pc : Nat} {ls : Array Slot} {rest : List Value} {g : GP} {V : Mem} {nL : Nat} {ret : Option FieldType} (hB : BX p s m args meth c g LX cc nL RX3 ret) (hz : OK g LX V s H locs) {a0 : Nat} {a1 : Int32} {a2 : Int32} {a3 : Int32} {V1 : Mem} (hM : CT l g LX yX1_over cX1_over 4 none rm_X1_over [.ref (ad g a0), .int a1, .int a2, .int a3] V none V1) (hR : rm_X1_over.frames + 1 ≤ R.frames ∧ 8 + (4 + 11) + rm_X1_over.locals ≤ R.locals) (hsz : ls.size = nL) (hrest : (rest.map fun v => v.category).sum ≤ 8) (hdg : decode cc pc = .ok (.invokestatic 83, 3)) (kk : ∀ (H1 : Heap) (locs1 : List Loc), OK g LX V1 s H1 locs1 → W p l e R s m args below meth c H1 locs1 0 0 Q (F0 m (pc + 3) ls (rest))) : W p l e R s m args below meth c H locs 0 0 Q (F0 m pc ls (.int a3 :: .int a2 :: .int a1 :: .ref (ad g a0) :: rest)) :=
  x_cs (As := [.ref (ad g a0), .int a1, .int a2, .int a3]) (n := 4) hB hz hM rfl rfl kw_478 kw_72 kw_476 kw_477 (by decide +kernel) rfl hR hsz hrest hdg kk
set_option maxHeartbeats 4000000 in
set_option maxRecDepth 100000 in
theorem w_X3_countOver {p : Program} {l : Launch} {e : Env} {s : State} {m : MethodId} {args : Array Value} {below : List Frame} {meth : Method} {c : Code} {g : GP} (hB : BX p s m args meth c g LX cX3_countOver 3 RX3 none) {z : Nat} (k_z : KD LX z 2) {o : Mem} : ∀ (x1 : Int32) (r2 : Nat) (V : Mem) (H : Heap) (locs : List Loc) (ls : Array Slot), KD LX r2 22 → f_X3_countOver z x1 r2 V = some o → OK g LX V s H locs → lv_has ls 3 [(0, .ref (ad g z)), (1, .int x1), (2, .ref (ad g r2))] → W p l e rm_X3_countOver s m args below meth c H locs 0 0 (MQ below (QQ g LX none o) args s 0 0 (Ar g LX)) (F0 m 0 ls []) := by
  obtain ⟨hx, hb, hml, hown, hT, hr, hlk, hK, hJ, hZ, hN⟩ := id hB
  intro x1 r2 V H locs ls k_r2 hE hz hl
  unfold f_X3_countOver at hE
  refine lv_aload_n hx hb dX3_countOver_0 rfl (lv_at hl 2 rfl) ?_
  refine lv_aload_n hx hb dX3_countOver_1 rfl (lv_at hl 0 rfl) ?_
  refine g_X3_15 hB hz k_z dX3_countOver_2 ?_
  refine lv_iload_n hx hb dX3_countOver_5 rfl (lv_at hl 1 rfl) ?_
  obtain ⟨hi6, hE⟩ := x_chk hE
  refine x_iald (n := 24) hB hz (kd_sh k_z).2.1 hi6 dX3_countOver_6 ?_
  refine lv_aload_n hx hb dX3_countOver_7 rfl (lv_at hl 0 rfl) ?_
  refine g_X3_18 hB hz k_z dX3_countOver_8 ?_
  refine lv_iload_n hx hb dX3_countOver_11 rfl (lv_at hl 1 rfl) ?_
  obtain ⟨hi12, hE⟩ := x_chk hE
  refine x_iald (n := 24) hB hz (kd_sh k_z).2.2.1 hi12 dX3_countOver_12 ?_
  refine lv_aload_n hx hb dX3_countOver_13 rfl (lv_at hl 0 rfl) ?_
  refine g_X3_21 hB hz k_z dX3_countOver_14 ?_
  refine lv_iload_n hx hb dX3_countOver_17 rfl (lv_at hl 1 rfl) ?_
  obtain ⟨hi18, hE⟩ := x_chk hE
  refine x_iald (n := 24) hB hz (kd_sh k_z).2.2.2.1 hi18 dX3_countOver_18 ?_
  obtain ⟨q19, hq19, hE⟩ := x_bind hE
  refine i_X3_83 hB hz (c_X1_over l g k_r2 hq19) ⟨(Nat.le_of_ble_eq_true rfl), (Nat.le_of_ble_eq_true rfl)⟩ hl.1 (Nat.le_of_ble_eq_true rfl) dX3_countOver_19 (fun H locs hz => ?_)
  exact x_vret hB hz hE dX3_countOver_22
theorem c_X3_countOver (l : Launch) (g : GP) {z : Nat} (k_z : KD LX z 2) {x1 : Int32} {r2 : Nat} (k_r2 : KD LX r2 22) {V : Mem} {o : Mem} (hE : f_X3_countOver z x1 r2 V = some o) : CT l g LX yX3_countOver cX3_countOver 3 none rm_X3_countOver [.ref (ad g z), .int x1, .ref (ad g r2)] V none o := by
  refine ct_of (by decide) (Nat.le_of_ble_eq_true rfl) ?_
  intro p e s m args below meth c ls hB hz hl
  exact w_X3_countOver hB k_z _ _ _ _ _ _ k_r2 hE hz hl
def rm_X3_ahead : Room := { frames := 2, cells := 0, slots := 0, locals := 123 }
set_option maxHeartbeats 4000000 in
set_option maxRecDepth 100000 in
theorem w_X3_ahead_13 {p : Program} {l : Launch} {e : Env} {s : State} {m : MethodId} {args : Array Value} {below : List Frame} {meth : Method} {c : Code} {g : GP} (hB : BX p s m args meth c g LX cX3_ahead 4 RX3 (some (.array .int))) {z : Nat} (k_z : KD LX z 2) {o : Nat × Mem} : ∀ (n : Nat), ∀ (x2 : Int32) (V : Mem) (H : Heap) (locs : List Loc) (ls : Array Slot), f_X3_ahead_13 z n x2 V = some o → OK g LX V s H locs → lv_has ls 4 [(0, .ref (ad g z)), (2, .int x2)] → W p l e rm_X3_ahead s m args below meth c H locs 0 0 (MQ below (QQ g LX (some (.ref (ad g o.1))) o.2) args s 0 0 (Ar g LX)) (F0 m 13 ls []) := by
  obtain ⟨hx, hb, hml, hown, hT, hr, hlk, hK, hJ, hZ, hN⟩ := id hB
  intro n
  induction n with
  | zero =>
    intro x2 V H locs ls hE hz hl
    exact absurd (show (none : Option (Nat × Mem)) = some o from hE) (by simp)
  | succ n ih =>
    intro x2 V H locs ls hE hz hl
    unfold f_X3_ahead_13 at hE
    refine lv_aload_n hx hb dX3_ahead_13 rfl (lv_at hl 0 rfl) ?_
    refine g_X3_33 hB hz k_z dX3_ahead_14 ?_
    refine lv_iload_n hx hb dX3_ahead_17 rfl (lv_at hl 1 rfl) ?_
    refine lv_icmp_ge (tgt := 94) hx hb dX3_ahead_18 (by decide) (fun c18 => ?_) (fun c18 => ?_)
    · have hE := (if_pos c18).symm.trans hE
      refine lv_aload_n hx hb dX3_ahead_94 rfl (lv_at hl 0 rfl) ?_
      refine g_X3_30 hB hz k_z dX3_ahead_95 ?_
      refine lv_iload_n hx hb dX3_ahead_98 rfl (lv_at hl 1 rfl) ?_
      obtain ⟨hi99, hE⟩ := x_chk hE
      refine x_aalC hB hz (kd_sh k_z).2.2.2.2 hi99 dX3_ahead_99 ?_
      exact x_aret hB hz hE dX3_ahead_100
    · have hE := (if_neg c18).symm.trans hE
      refine lv_aload_n hx hb dX3_ahead_21 rfl (lv_at hl 0 rfl) ?_
      refine g_X3_30 hB hz k_z dX3_ahead_22 ?_
      refine lv_aload_n hx hb dX3_ahead_25 rfl (lv_at hl 0 rfl) ?_
      refine g_X3_33 hB hz k_z dX3_ahead_26 ?_
      refine lv_iconst (v := (1 : Int32)) hx hb dX3_ahead_29 (by decide) ?_
      refine lv_iadd hx hb dX3_ahead_30 ?_
      obtain ⟨hi31, hE⟩ := x_chk hE
      refine x_aalC hB hz (kd_sh k_z).2.2.2.2 hi31 dX3_ahead_31 ?_
      refine lv_astore_n (lv' := [(3, .ref (ad g ((z + 5) + 1 + (((V z 6) + (1 : Int32))).toNatClampNeg))), (0, .ref (ad g z)), (2, .int x2)]) hx hb dX3_ahead_32 rfl hl (by decide) rfl (fun ls hl => ?_)
      refine lv_aload_n hx hb dX3_ahead_33 rfl (lv_at hl 1 rfl) ?_
      refine g_X3_30 hB hz k_z dX3_ahead_34 ?_
      refine lv_aload_n hx hb dX3_ahead_37 rfl (lv_at hl 1 rfl) ?_
      refine g_X3_33 hB hz k_z dX3_ahead_38 ?_
      obtain ⟨hi41, hE⟩ := x_chk hE
      refine x_aalC hB hz (kd_sh k_z).2.2.2.2 hi41 dX3_ahead_41 ?_
      refine lv_iconst (v := (0 : Int32)) hx hb dX3_ahead_42 (by decide) ?_
      refine lv_aload_n hx hb dX3_ahead_43 rfl (lv_at hl 0 rfl) ?_
      refine lv_iconst (v := (0 : Int32)) hx hb dX3_ahead_44 (by decide) ?_
      refine lv_bipush (v := (6 : Int32)) hx hb dX3_ahead_45 (by decide) ?_
      obtain ⟨hi47, hE⟩ := x_chk hE
      refine x_copy (n0 := 6) (n1 := 6) hB hz (kd_cl (kd_sh k_z).2.2.2.2 hi41) (kd_cl (kd_sh k_z).2.2.2.2 hi31) hi47 hl.1 kw_372 kw_309 kw_308 kw_70 (Nat.le_of_ble_eq_true rfl) (Nat.le_of_ble_eq_true rfl) dX3_ahead_47 (fun H locs hz => ?_)
      refine lv_aload_n hx hb dX3_ahead_50 rfl (lv_at hl 0 rfl) ?_
      refine lv_aload_n hx hb dX3_ahead_51 rfl (lv_at hl 1 rfl) ?_
      refine g_X3_15 hB hz k_z dX3_ahead_52 ?_
      refine lv_aload_n hx hb dX3_ahead_55 rfl (lv_at hl 1 rfl) ?_
      refine g_X3_33 hB hz k_z dX3_ahead_56 ?_
      obtain ⟨hi59, hE⟩ := x_chk hE
      refine x_iald (n := 24) hB hz (kd_sh k_z).2.1 hi59 dX3_ahead_59 ?_
      refine lv_aload_n hx hb dX3_ahead_60 rfl (lv_at hl 1 rfl) ?_
      refine g_X3_18 hB hz k_z dX3_ahead_61 ?_
      refine lv_aload_n hx hb dX3_ahead_64 rfl (lv_at hl 1 rfl) ?_
      refine g_X3_33 hB hz k_z dX3_ahead_65 ?_
      obtain ⟨hi68, hE⟩ := x_chk hE
      refine x_iald (n := 24) hB hz (kd_sh k_z).2.2.1 hi68 dX3_ahead_68 ?_
      refine lv_aload_n hx hb dX3_ahead_69 rfl (lv_at hl 1 rfl) ?_
      refine g_X3_21 hB hz k_z dX3_ahead_70 ?_
      refine lv_aload_n hx hb dX3_ahead_73 rfl (lv_at hl 1 rfl) ?_
      refine g_X3_33 hB hz k_z dX3_ahead_74 ?_
      obtain ⟨hi77, hE⟩ := x_chk hE
      refine x_iald (n := 24) hB hz (kd_sh k_z).2.2.2.1 hi77 dX3_ahead_77 ?_
      obtain ⟨q78, hq78, hE⟩ := x_bind hE
      refine i_X3_83 hB hz (c_X1_over l g (kd_cl (kd_sh k_z).2.2.2.2 hi31) hq78) ⟨(Nat.le_of_ble_eq_true rfl), (Nat.le_of_ble_eq_true rfl)⟩ hl.1 (Nat.le_of_ble_eq_true rfl) dX3_ahead_78 (fun H locs hz => ?_)
      refine lv_aload_n hx hb dX3_ahead_81 rfl (lv_at hl 1 rfl) ?_
      refine lv_dup hx hb dX3_ahead_82 rfl ?_
      refine g_X3_33 hB hz k_z dX3_ahead_83 ?_
      refine lv_iconst (v := (1 : Int32)) hx hb dX3_ahead_86 (by decide) ?_
      refine lv_iadd hx hb dX3_ahead_87 ?_
      refine p_X3_33 hB hz k_z dX3_ahead_88 (fun H locs hz => ?_)
      refine lv_goto (tgt := 13) hx hb dX3_ahead_91 (by decide) ?_
      exact ih _ _ _ _ _  hE hz (lv_sub hl [1, 2] rfl)

set_option maxHeartbeats 4000000 in
set_option maxRecDepth 100000 in
theorem w_X3_ahead {p : Program} {l : Launch} {e : Env} {s : State} {m : MethodId} {args : Array Value} {below : List Frame} {meth : Method} {c : Code} {g : GP} (hB : BX p s m args meth c g LX cX3_ahead 4 RX3 (some (.array .int))) {z : Nat} (k_z : KD LX z 2) {o : Nat × Mem} : ∀ (x1 : Int32) (V : Mem) (H : Heap) (locs : List Loc) (ls : Array Slot), f_X3_ahead z x1 V = some o → OK g LX V s H locs → lv_has ls 4 [(0, .ref (ad g z)), (1, .int x1)] → W p l e rm_X3_ahead s m args below meth c H locs 0 0 (MQ below (QQ g LX (some (.ref (ad g o.1))) o.2) args s 0 0 (Ar g LX)) (F0 m 0 ls []) := by
  obtain ⟨hx, hb, hml, hown, hT, hr, hlk, hK, hJ, hZ, hN⟩ := id hB
  intro x1 V H locs ls hE hz hl
  unfold f_X3_ahead at hE
  refine lv_iconst (v := (0 : Int32)) hx hb dX3_ahead_0 (by decide) ?_
  refine lv_iload_n hx hb dX3_ahead_1 rfl (lv_at hl 1 rfl) ?_
  refine lv_aload_n hx hb dX3_ahead_2 rfl (lv_at hl 0 rfl) ?_
  refine g_X3_24 hB hz k_z dX3_ahead_3 ?_
  refine va_mmin hx hb (hml.trans hl.1.symm) hown (hT _ kw_381) (hT _ kw_382) (hT _ kw_71) (hT _ kw_383) (Nat.le_of_ble_eq_true rfl) (Nat.le_of_ble_eq_true rfl) (Nat.le_of_ble_eq_true rfl) (Nat.le_of_ble_eq_true rfl) dX3_ahead_6 ?_
  refine va_mmax hx hb (hml.trans hl.1.symm) hown (hT _ kw_473) (hT _ kw_474) (hT _ kw_71) (hT _ kw_475) (Nat.le_of_ble_eq_true rfl) (Nat.le_of_ble_eq_true rfl) (Nat.le_of_ble_eq_true rfl) (Nat.le_of_ble_eq_true rfl) dX3_ahead_9 ?_
  refine lv_istore_n (lv' := [(2, .int (if (0 : Int32) < (if (V z 4) < x1 then (V z 4) else x1) then (if (V z 4) < x1 then (V z 4) else x1) else (0 : Int32))), (0, .ref (ad g z)), (1, .int x1)]) hx hb dX3_ahead_12 rfl hl (by decide) rfl (fun ls hl => ?_)
  exact w_X3_ahead_13 hB k_z  _ _ _ _ _ _  hE hz (lv_sub hl [1, 0] rfl)
theorem c_X3_ahead (l : Launch) (g : GP) {z : Nat} (k_z : KD LX z 2) {x1 : Int32} {V : Mem} {o : Nat × Mem} (hE : f_X3_ahead z x1 V = some o) : CT l g LX yX3_ahead cX3_ahead 4 (some (.array .int)) rm_X3_ahead [.ref (ad g z), .int x1] V (some (.ref (ad g o.1))) o.2 := by
  refine ct_of (by decide) (Nat.le_of_ble_eq_true rfl) ?_
  intro p e s m args below meth c ls hB hz hl
  exact w_X3_ahead hB k_z _ _ _ _ _  hE hz hl
def rm_X3_behind : Room := { frames := 3, cells := 0, slots := 0, locals := 146 }
theorem i_X3_92 {p : Program} {l : Launch} {e : Env} {R : Room} {s : State} {m : MethodId} {args : Array Value} {below : List Frame} {meth : Method} {c : Code} {H : Heap} {locs : List Loc} {Q : State → Prop} {cc : ByteArray} {pc : Nat} {ls : Array Slot} {rest : List Value} {g : GP} {V : Mem} {nL : Nat} {ret : Option FieldType} (hB : BX p s m args meth c g LX cc nL RX3 ret) (hz : OK g LX V s H locs) {i : Nat} (hk : KD LX i 2) {a0 : Int32} {r : Nat} {V1 : Mem} (hM : CT l g LX yX3_ahead cX3_ahead 4 (some (.array .int)) rm_X3_ahead [.ref (ad g i), .int a0] V (some (.ref (ad g r))) V1) (hR : rm_X3_ahead.frames + 1 ≤ R.frames ∧ 8 + (4 + 11) + rm_X3_ahead.locals ≤ R.locals) (hsz : ls.size = nL) (hrest : (rest.map fun v => v.category).sum ≤ 8) (hdg : decode cc pc = .ok (.invokevirtual 92, 3)) (kk : ∀ (H1 : Heap) (locs1 : List Loc), OK g LX V1 s H1 locs1 → W p l e R s m args below meth c H1 locs1 0 0 Q (F0 m (pc + 3) ls (.ref (ad g r) :: rest))) : W p l e R s m args below meth c H locs 0 0 Q (F0 m pc ls (.int a0 :: .ref (ad g i) :: rest)) :=
  x_cv (As := [.int a0]) (n := 1) (T := TX3) (N := 7) hB hz hM hk rfl rfl rfl rfl kw_472 kw_64 kw_469 kw_470 kw_471 (by decide +kernel) rfl hR hsz hrest hdg kk
set_option maxHeartbeats 4000000 in
set_option maxRecDepth 100000 in
theorem w_X3_behind {p : Program} {l : Launch} {e : Env} {s : State} {m : MethodId} {args : Array Value} {below : List Frame} {meth : Method} {c : Code} {g : GP} (hB : BX p s m args meth c g LX cX3_behind 2 RX3 (some (.array .int))) {z : Nat} (k_z : KD LX z 2) {o : Nat × Mem} : ∀ (x1 : Int32) (V : Mem) (H : Heap) (locs : List Loc) (ls : Array Slot), f_X3_behind z x1 V = some o → OK g LX V s H locs → lv_has ls 2 [(0, .ref (ad g z)), (1, .int x1)] → W p l e rm_X3_behind s m args below meth c H locs 0 0 (MQ below (QQ g LX (some (.ref (ad g o.1))) o.2) args s 0 0 (Ar g LX)) (F0 m 0 ls []) := by
  obtain ⟨hx, hb, hml, hown, hT, hr, hlk, hK, hJ, hZ, hN⟩ := id hB
  intro x1 V H locs ls hE hz hl
  unfold f_X3_behind at hE
  refine lv_aload_n hx hb dX3_behind_0 rfl (lv_at hl 0 rfl) ?_
  refine lv_iload_n hx hb dX3_behind_1 rfl (lv_at hl 1 rfl) ?_
  refine lv_iconst (v := (1 : Int32)) hx hb dX3_behind_2 (by decide) ?_
  refine lv_iadd hx hb dX3_behind_3 ?_
  obtain ⟨q4, hq4, hE⟩ := x_bind hE
  refine i_X3_92 hB hz k_z (c_X3_ahead l g k_z hq4) ⟨(Nat.le_of_ble_eq_true rfl), (Nat.le_of_ble_eq_true rfl)⟩ hl.1 (Nat.le_of_ble_eq_true rfl) dX3_behind_4 (fun H locs hz => ?_)
  obtain ⟨hk4, hE⟩ := x_chk hE
  exact x_aret hB hz hE dX3_behind_7
theorem c_X3_behind (l : Launch) (g : GP) {z : Nat} (k_z : KD LX z 2) {x1 : Int32} {V : Mem} {o : Nat × Mem} (hE : f_X3_behind z x1 V = some o) : CT l g LX yX3_behind cX3_behind 2 (some (.array .int)) rm_X3_behind [.ref (ad g z), .int x1] V (some (.ref (ad g o.1))) o.2 := by
  refine ct_of (by decide) (Nat.le_of_ble_eq_true rfl) ?_
  intro p e s m args below meth c ls hB hz hl
  exact w_X3_behind hB k_z _ _ _ _ _  hE hz hl
def rm_X3_ownCount : Room := { frames := 3, cells := 0, slots := 0, locals := 146 }
set_option maxHeartbeats 4000000 in
set_option maxRecDepth 100000 in
theorem w_X3_ownCount {p : Program} {l : Launch} {e : Env} {s : State} {m : MethodId} {args : Array Value} {below : List Frame} {meth : Method} {c : Code} {g : GP} (hB : BX p s m args meth c g LX cX3_ownCount 2 RX3 (some .int)) {z : Nat} (k_z : KD LX z 2) {o : Int32 × Mem} : ∀ (x1 : Int32) (V : Mem) (H : Heap) (locs : List Loc) (ls : Array Slot), f_X3_ownCount z x1 V = some o → OK g LX V s H locs → lv_has ls 2 [(0, .ref (ad g z)), (1, .int x1)] → W p l e rm_X3_ownCount s m args below meth c H locs 0 0 (MQ below (QQ g LX (some (.int o.1)) o.2) args s 0 0 (Ar g LX)) (F0 m 0 ls []) := by
  obtain ⟨hx, hb, hml, hown, hT, hr, hlk, hK, hJ, hZ, hN⟩ := id hB
  intro x1 V H locs ls hE hz hl
  unfold f_X3_ownCount at hE
  refine lv_aload_n hx hb dX3_ownCount_0 rfl (lv_at hl 0 rfl) ?_
  refine lv_iload_n hx hb dX3_ownCount_1 rfl (lv_at hl 1 rfl) ?_
  refine lv_iconst (v := (1 : Int32)) hx hb dX3_ownCount_2 (by decide) ?_
  refine lv_iadd hx hb dX3_ownCount_3 ?_
  obtain ⟨q4, hq4, hE⟩ := x_bind hE
  refine i_X3_92 hB hz k_z (c_X3_ahead l g k_z hq4) ⟨(Nat.le_of_ble_eq_true rfl), (Nat.le_of_ble_eq_true rfl)⟩ hl.1 (Nat.le_of_ble_eq_true rfl) dX3_ownCount_4 (fun H locs hz => ?_)
  obtain ⟨hk4, hE⟩ := x_chk hE
  refine lv_aload_n hx hb dX3_ownCount_7 rfl (lv_at hl 0 rfl) ?_
  refine g_X3_18 hB hz k_z dX3_ownCount_8 ?_
  refine lv_iload_n hx hb dX3_ownCount_11 rfl (lv_at hl 1 rfl) ?_
  obtain ⟨hi12, hE⟩ := x_chk hE
  refine x_iald (n := 24) hB hz (kd_sh k_z).2.2.1 hi12 dX3_ownCount_12 ?_
  obtain ⟨hi13, hE⟩ := x_chk hE
  refine x_iald (n := 6) hB hz (kb_KD hk4) hi13 dX3_ownCount_13 ?_
  exact x_iret hB hz hE dX3_ownCount_14
theorem c_X3_ownCount (l : Launch) (g : GP) {z : Nat} (k_z : KD LX z 2) {x1 : Int32} {V : Mem} {o : Int32 × Mem} (hE : f_X3_ownCount z x1 V = some o) : CT l g LX yX3_ownCount cX3_ownCount 2 (some .int) rm_X3_ownCount [.ref (ad g z), .int x1] V (some (.int o.1)) o.2 := by
  refine ct_of (by decide) (Nat.le_of_ble_eq_true rfl) ?_
  intro p e s m args below meth c ls hB hz hl
  exact w_X3_ownCount hB k_z _ _ _ _ _  hE hz hl
def rm_X3_lastCounts : Room := { frames := 3, cells := 0, slots := 0, locals := 146 }
set_option maxHeartbeats 4000000 in
set_option maxRecDepth 100000 in
theorem w_X3_lastCounts_13 {p : Program} {l : Launch} {e : Env} {s : State} {m : MethodId} {args : Array Value} {below : List Frame} {meth : Method} {c : Code} {g : GP} (hB : BX p s m args meth c g LX cX3_lastCounts 4 RX3 (some .int)) {z : Nat} (k_z : KD LX z 2) {o : Int32 × Mem} : ∀ (n : Nat), ∀ (r1 : Nat) (x2 : Int32) (x3 : Int32) (V : Mem) (H : Heap) (locs : List Loc) (ls : Array Slot), KD LX r1 22 → f_X3_lastCounts_13 z n r1 x2 x3 V = some o → OK g LX V s H locs → lv_has ls 4 [(1, .ref (ad g r1)), (2, .int x2), (3, .int x3)] → W p l e rm_X3_lastCounts s m args below meth c H locs 0 0 (MQ below (QQ g LX (some (.int o.1)) o.2) args s 0 0 (Ar g LX)) (F0 m 13 ls []) := by
  obtain ⟨hx, hb, hml, hown, hT, hr, hlk, hK, hJ, hZ, hN⟩ := id hB
  intro n
  induction n with
  | zero =>
    intro r1 x2 x3 V H locs ls k_r1 hE hz hl
    exact absurd (show (none : Option (Int32 × Mem)) = some o from hE) (by simp)
  | succ n ih =>
    intro r1 x2 x3 V H locs ls k_r1 hE hz hl
    unfold f_X3_lastCounts_13 at hE
    refine lv_iload_n hx hb dX3_lastCounts_13 rfl (lv_at hl 2 rfl) ?_
    refine lv_iconst (v := (3 : Int32)) hx hb dX3_lastCounts_14 (by decide) ?_
    refine lv_icmp_ge (tgt := 30) hx hb dX3_lastCounts_15 (by decide) (fun c15 => ?_) (fun c15 => ?_)
    · have hE := (if_pos c15).symm.trans hE
      refine lv_iload_n hx hb dX3_lastCounts_30 rfl (lv_at hl 1 rfl) ?_
      exact x_iret hB hz hE dX3_lastCounts_31
    · have hE := (if_neg c15).symm.trans hE
      refine lv_iload_n hx hb dX3_lastCounts_18 rfl (lv_at hl 1 rfl) ?_
      refine lv_aload_n hx hb dX3_lastCounts_19 rfl (lv_at hl 0 rfl) ?_
      refine lv_iload_n hx hb dX3_lastCounts_20 rfl (lv_at hl 2 rfl) ?_
      obtain ⟨hi21, hE⟩ := x_chk hE
      refine x_iald (n := 6) hB hz k_r1 hi21 dX3_lastCounts_21 ?_
      refine lv_iadd hx hb dX3_lastCounts_22 ?_
      refine lv_istore_n (lv' := [(2, .int (x2 + (V r1 (x3).toNatClampNeg))), (1, .ref (ad g r1)), (3, .int x3)]) hx hb dX3_lastCounts_23 rfl hl (by decide) rfl (fun ls hl => ?_)
      refine lv_iinc (v := (x3 + 1)) (lv' := [(3, .int (x3 + 1)), (2, .int (x2 + (V r1 (x3).toNatClampNeg))), (1, .ref (ad g r1))]) hx hb dX3_lastCounts_24 hl (k := 2) rfl rfl (by decide) rfl (fun ls hl => ?_)
      refine lv_goto (tgt := 13) hx hb dX3_lastCounts_27 (by decide) ?_
      exact ih _ _ _ _ _ _ _ k_r1 hE hz (lv_sub hl [2, 1, 0] rfl)

set_option maxHeartbeats 4000000 in
set_option maxRecDepth 100000 in
theorem w_X3_lastCounts {p : Program} {l : Launch} {e : Env} {s : State} {m : MethodId} {args : Array Value} {below : List Frame} {meth : Method} {c : Code} {g : GP} (hB : BX p s m args meth c g LX cX3_lastCounts 4 RX3 (some .int)) {z : Nat} (k_z : KD LX z 2) {o : Int32 × Mem} : ∀ (V : Mem) (H : Heap) (locs : List Loc) (ls : Array Slot), f_X3_lastCounts z V = some o → OK g LX V s H locs → lv_has ls 4 [(0, .ref (ad g z))] → W p l e rm_X3_lastCounts s m args below meth c H locs 0 0 (MQ below (QQ g LX (some (.int o.1)) o.2) args s 0 0 (Ar g LX)) (F0 m 0 ls []) := by
  obtain ⟨hx, hb, hml, hown, hT, hr, hlk, hK, hJ, hZ, hN⟩ := id hB
  intro V H locs ls hE hz hl
  unfold f_X3_lastCounts at hE
  refine lv_aload_n hx hb dX3_lastCounts_0 rfl (lv_at hl 0 rfl) ?_
  refine lv_aload_n hx hb dX3_lastCounts_1 rfl (lv_at hl 0 rfl) ?_
  refine g_X3_24 hB hz k_z dX3_lastCounts_2 ?_
  obtain ⟨q5, hq5, hE⟩ := x_bind hE
  refine i_X3_92 hB hz k_z (c_X3_ahead l g k_z hq5) ⟨(Nat.le_of_ble_eq_true rfl), (Nat.le_of_ble_eq_true rfl)⟩ hl.1 (Nat.le_of_ble_eq_true rfl) dX3_lastCounts_5 (fun H locs hz => ?_)
  obtain ⟨hk5, hE⟩ := x_chk hE
  refine lv_astore_n (lv' := [(1, .ref (ad g q5.1)), (0, .ref (ad g z))]) hx hb dX3_lastCounts_8 rfl hl (by decide) rfl (fun ls hl => ?_)
  refine lv_iconst (v := (0 : Int32)) hx hb dX3_lastCounts_9 (by decide) ?_
  refine lv_istore_n (lv' := [(2, .int (0 : Int32)), (1, .ref (ad g q5.1)), (0, .ref (ad g z))]) hx hb dX3_lastCounts_10 rfl hl (by decide) rfl (fun ls hl => ?_)
  refine lv_iconst (v := (0 : Int32)) hx hb dX3_lastCounts_11 (by decide) ?_
  refine lv_istore_n (lv' := [(3, .int (0 : Int32)), (2, .int (0 : Int32)), (1, .ref (ad g q5.1)), (0, .ref (ad g z))]) hx hb dX3_lastCounts_12 rfl hl (by decide) rfl (fun ls hl => ?_)
  exact w_X3_lastCounts_13 hB k_z  _ _ _ _ _ _ _ _ (kb_KD hk5) hE hz (lv_sub hl [2, 1, 0] rfl)
theorem c_X3_lastCounts (l : Launch) (g : GP) {z : Nat} (k_z : KD LX z 2) {V : Mem} {o : Int32 × Mem} (hE : f_X3_lastCounts z V = some o) : CT l g LX yX3_lastCounts cX3_lastCounts 4 (some .int) rm_X3_lastCounts [.ref (ad g z)] V (some (.int o.1)) o.2 := by
  refine ct_of (by decide) (Nat.le_of_ble_eq_true rfl) ?_
  intro p e s m args below meth c ls hB hz hl
  exact w_X3_lastCounts hB k_z  _ _ _ _  hE hz hl
def rm_X3_isToldBy : Room := { frames := 4, cells := 0, slots := 0, locals := 167 }
theorem i_X3_96 {p : Program} {l : Launch} {e : Env} {R : Room} {s : State} {m : MethodId} {args : Array Value} {below : List Frame} {meth : Method} {c : Code} {H : Heap} {locs : List Loc} {Q : State → Prop} {cc : ByteArray} {pc : Nat} {ls : Array Slot} {rest : List Value} {g : GP} {V : Mem} {nL : Nat} {ret : Option FieldType} (hB : BX p s m args meth c g LX cc nL RX3 ret) (hz : OK g LX V s H locs) {i : Nat} (hk : KD LX i 2) {a0 : Int32} {r : Int32} {V1 : Mem} (hM : CT l g LX yX3_isLabelled cX3_isLabelled 2 (some .boolean) rm_X3_isLabelled [.ref (ad g i), .int a0] V (some (.int r)) V1) (hR : rm_X3_isLabelled.frames + 1 ≤ R.frames ∧ 8 + (2 + 11) + rm_X3_isLabelled.locals ≤ R.locals) (hsz : ls.size = nL) (hrest : (rest.map fun v => v.category).sum ≤ 8) (hdg : decode cc pc = .ok (.invokevirtual 96, 3)) (kk : ∀ (H1 : Heap) (locs1 : List Loc), OK g LX V1 s H1 locs1 → W p l e R s m args below meth c H1 locs1 0 0 Q (F0 m (pc + 3) ls (.int r :: rest))) : W p l e R s m args below meth c H locs 0 0 Q (F0 m pc ls (.int a0 :: .ref (ad g i) :: rest)) :=
  x_cv (As := [.int a0]) (n := 1) (T := TX3) (N := 7) hB hz hM hk rfl rfl rfl rfl kw_490 kw_64 kw_487 kw_488 kw_489 (by decide +kernel) rfl hR hsz hrest hdg kk
theorem i_X3_99 {p : Program} {l : Launch} {e : Env} {R : Room} {s : State} {m : MethodId} {args : Array Value} {below : List Frame} {meth : Method} {c : Code} {H : Heap} {locs : List Loc} {Q : State → Prop} {cc : ByteArray} {pc : Nat} {ls : Array Slot} {rest : List Value} {g : GP} {V : Mem} {nL : Nat} {ret : Option FieldType} (hB : BX p s m args meth c g LX cc nL RX3 ret) (hz : OK g LX V s H locs) {i : Nat} (hk : KD LX i 2) {a0 : Int32} {r : Int32} {V1 : Mem} (hM : CT l g LX yX3_ownCount cX3_ownCount 2 (some .int) rm_X3_ownCount [.ref (ad g i), .int a0] V (some (.int r)) V1) (hR : rm_X3_ownCount.frames + 1 ≤ R.frames ∧ 8 + (2 + 11) + rm_X3_ownCount.locals ≤ R.locals) (hsz : ls.size = nL) (hrest : (rest.map fun v => v.category).sum ≤ 8) (hdg : decode cc pc = .ok (.invokevirtual 99, 3)) (kk : ∀ (H1 : Heap) (locs1 : List Loc), OK g LX V1 s H1 locs1 → W p l e R s m args below meth c H1 locs1 0 0 Q (F0 m (pc + 3) ls (.int r :: rest))) : W p l e R s m args below meth c H locs 0 0 Q (F0 m pc ls (.int a0 :: .ref (ad g i) :: rest)) :=
  x_cv (As := [.int a0]) (n := 1) (T := TX3) (N := 7) hB hz hM hk rfl rfl rfl rfl kw_591 kw_64 kw_604 kw_589 kw_590 (by decide +kernel) rfl hR hsz hrest hdg kk
set_option maxHeartbeats 4000000 in
set_option maxRecDepth 100000 in
theorem w_X3_isToldBy_28 {p : Program} {l : Launch} {e : Env} {s : State} {m : MethodId} {args : Array Value} {below : List Frame} {meth : Method} {c : Code} {g : GP} (hB : BX p s m args meth c g LX cX3_isToldBy 6 RX3 (some .boolean)) {z : Nat} (k_z : KD LX z 2) {o : Int32 × Mem} {k3 : Nat → Int32 → Int32 → Int32 → Mem → Option (Int32 × Mem)} (hk3 : ∀ (r1 : Nat) (x2 : Int32) (x3 : Int32) (x4 : Int32) (V : Mem) (H : Heap) (locs : List Loc) (ls : Array Slot), KD LX r1 1 → k3 r1 x2 x3 x4 V = some o → OK g LX V s H locs → lv_has ls 6 [(0, .ref (ad g z)), (1, .ref (ad g r1)), (2, .int x2), (3, .int x3), (4, .int x4)] → W p l e rm_X3_isToldBy s m args below meth c H locs 0 0 (MQ below (QQ g LX (some (.int o.1)) o.2) args s 0 0 (Ar g LX)) (F0 m 3 ls [])) : ∀ (r1 : Nat) (x2 : Int32) (x3 : Int32) (x4 : Int32) (s0 : Int32) (V : Mem) (H : Heap) (locs : List Loc) (ls : Array Slot), KD LX r1 1 → f_X3_isToldBy_28 z k3 r1 x2 x3 x4 s0 V = some o → OK g LX V s H locs → lv_has ls 6 [(0, .ref (ad g z)), (1, .ref (ad g r1)), (2, .int x2), (3, .int x3), (4, .int x4)] → W p l e rm_X3_isToldBy s m args below meth c H locs 0 0 (MQ below (QQ g LX (some (.int o.1)) o.2) args s 0 0 (Ar g LX)) (F0 m 28 ls [.int s0]) := by
  obtain ⟨hx, hb, hml, hown, hT, hr, hlk, hK, hJ, hZ, hN⟩ := id hB
  intro r1 x2 x3 x4 s0 V H locs ls k_r1 hE hz hl
  unfold f_X3_isToldBy_28 at hE
  refine lv_istore (lv' := [(5, .int s0), (0, .ref (ad g z)), (1, .ref (ad g r1)), (2, .int x2), (3, .int x3), (4, .int x4)]) hx hb dX3_isToldBy_28 hl (by decide) rfl (fun ls hl => ?_)
  refine lv_aload_n hx hb dX3_isToldBy_30 rfl (lv_at hl 2 rfl) ?_
  refine g_X3_103 hB hz k_r1 dX3_isToldBy_31 ?_
  refine lv_iload_n hx hb dX3_isToldBy_34 rfl (lv_at hl 3 rfl) ?_
  refine lv_iload hx hb dX3_isToldBy_35 (lv_at hl 5 rfl) ?_
  refine lv_iadd hx hb dX3_isToldBy_37 ?_
  obtain ⟨hi38, hE⟩ := x_chk hE
  refine x_iald (n := 40) hB hz (kd_row k_r1) hi38 dX3_isToldBy_38 ?_
  refine lv_iload hx hb dX3_isToldBy_39 (lv_at hl 0 rfl) ?_
  refine lv_icmp_eq (tgt := 46) hx hb dX3_isToldBy_41 (by decide) (fun c41 => ?_) (fun c41 => ?_)
  · have hE := (if_pos c41).symm.trans hE
    refine lv_iinc (v := (x4 + 1)) (lv' := [(4, .int (x4 + 1)), (5, .int s0), (0, .ref (ad g z)), (1, .ref (ad g r1)), (2, .int x2), (3, .int x3)]) hx hb dX3_isToldBy_46 hl (k := 5) rfl rfl (by decide) rfl (fun ls hl => ?_)
    refine lv_goto (tgt := 3) hx hb dX3_isToldBy_49 (by decide) ?_
    exact hk3 _ _ _ _ _ _ _ _ k_r1 hE hz (lv_sub hl [2, 3, 4, 5, 0] rfl)
  · have hE := (if_neg c41).symm.trans hE
    refine lv_iconst (v := (0 : Int32)) hx hb dX3_isToldBy_44 (by decide) ?_
    exact x_zret hB hz hE (by decide) dX3_isToldBy_45

set_option maxHeartbeats 4000000 in
set_option maxRecDepth 100000 in
theorem w_X3_isToldBy_3 {p : Program} {l : Launch} {e : Env} {s : State} {m : MethodId} {args : Array Value} {below : List Frame} {meth : Method} {c : Code} {g : GP} (hB : BX p s m args meth c g LX cX3_isToldBy 6 RX3 (some .boolean)) {z : Nat} (k_z : KD LX z 2) {o : Int32 × Mem} : ∀ (n : Nat), ∀ (r1 : Nat) (x2 : Int32) (x3 : Int32) (x4 : Int32) (V : Mem) (H : Heap) (locs : List Loc) (ls : Array Slot), KD LX r1 1 → f_X3_isToldBy_3 z n r1 x2 x3 x4 V = some o → OK g LX V s H locs → lv_has ls 6 [(0, .ref (ad g z)), (1, .ref (ad g r1)), (2, .int x2), (3, .int x3), (4, .int x4)] → W p l e rm_X3_isToldBy s m args below meth c H locs 0 0 (MQ below (QQ g LX (some (.int o.1)) o.2) args s 0 0 (Ar g LX)) (F0 m 3 ls []) := by
  obtain ⟨hx, hb, hml, hown, hT, hr, hlk, hK, hJ, hZ, hN⟩ := id hB
  intro n
  induction n with
  | zero =>
    intro r1 x2 x3 x4 V H locs ls k_r1 hE hz hl
    exact absurd (show (none : Option (Int32 × Mem)) = some o from hE) (by simp)
  | succ n ih =>
    intro r1 x2 x3 x4 V H locs ls k_r1 hE hz hl
    unfold f_X3_isToldBy_3 at hE
    refine lv_iload hx hb dX3_isToldBy_3 (lv_at hl 4 rfl) ?_
    refine lv_iload_n hx hb dX3_isToldBy_5 rfl (lv_at hl 3 rfl) ?_
    refine lv_icmp_ge (tgt := 52) hx hb dX3_isToldBy_6 (by decide) (fun c6 => ?_) (fun c6 => ?_)
    · have hE := (if_pos c6).symm.trans hE
      refine lv_iconst (v := (1 : Int32)) hx hb dX3_isToldBy_52 (by decide) ?_
      exact x_zret hB hz hE (by decide) dX3_isToldBy_53
    · have hE := (if_neg c6).symm.trans hE
      refine lv_aload_n hx hb dX3_isToldBy_9 rfl (lv_at hl 0 rfl) ?_
      refine lv_iload hx hb dX3_isToldBy_10 (lv_at hl 4 rfl) ?_
      obtain ⟨q12, hq12, hE⟩ := x_bind hE
      refine i_X3_96 hB hz k_z (c_X3_isLabelled l g k_z hq12) ⟨(Nat.le_of_ble_eq_true rfl), (Nat.le_of_ble_eq_true rfl)⟩ hl.1 (Nat.le_of_ble_eq_true rfl) dX3_isToldBy_12 (fun H locs hz => ?_)
      refine lv_if_eq (tgt := 27) hx hb dX3_isToldBy_15 (by decide) (fun c15 => ?_) (fun c15 => ?_)
      · have hE := (if_pos c15).symm.trans hE
        refine lv_iconst (v := (0 : Int32)) hx hb dX3_isToldBy_27 (by decide) ?_
        exact w_X3_isToldBy_28 hB k_z ih _ _ _ _ _ _ _ _ _ k_r1 hE hz (lv_sub hl [0, 1, 2, 3, 4] rfl)
      · have hE := (if_neg c15).symm.trans hE
        refine lv_aload_n hx hb dX3_isToldBy_18 rfl (lv_at hl 0 rfl) ?_
        refine lv_iload hx hb dX3_isToldBy_19 (lv_at hl 4 rfl) ?_
        obtain ⟨q21, hq21, hE⟩ := x_bind hE
        refine i_X3_99 hB hz k_z (c_X3_ownCount l g k_z hq21) ⟨(Nat.le_of_ble_eq_true rfl), (Nat.le_of_ble_eq_true rfl)⟩ hl.1 (Nat.le_of_ble_eq_true rfl) dX3_isToldBy_21 (fun H locs hz => ?_)
        refine lv_goto (tgt := 28) hx hb dX3_isToldBy_24 (by decide) ?_
        exact w_X3_isToldBy_28 hB k_z ih _ _ _ _ _ _ _ _ _ k_r1 hE hz (lv_sub hl [0, 1, 2, 3, 4] rfl)

set_option maxHeartbeats 4000000 in
set_option maxRecDepth 100000 in
theorem w_X3_isToldBy {p : Program} {l : Launch} {e : Env} {s : State} {m : MethodId} {args : Array Value} {below : List Frame} {meth : Method} {c : Code} {g : GP} (hB : BX p s m args meth c g LX cX3_isToldBy 6 RX3 (some .boolean)) {z : Nat} (k_z : KD LX z 2) {o : Int32 × Mem} : ∀ (r1 : Nat) (x2 : Int32) (x3 : Int32) (V : Mem) (H : Heap) (locs : List Loc) (ls : Array Slot), KD LX r1 1 → f_X3_isToldBy z r1 x2 x3 V = some o → OK g LX V s H locs → lv_has ls 6 [(0, .ref (ad g z)), (1, .ref (ad g r1)), (2, .int x2), (3, .int x3)] → W p l e rm_X3_isToldBy s m args below meth c H locs 0 0 (MQ below (QQ g LX (some (.int o.1)) o.2) args s 0 0 (Ar g LX)) (F0 m 0 ls []) := by
  obtain ⟨hx, hb, hml, hown, hT, hr, hlk, hK, hJ, hZ, hN⟩ := id hB
  intro r1 x2 x3 V H locs ls k_r1 hE hz hl
  unfold f_X3_isToldBy at hE
  refine lv_iconst (v := (0 : Int32)) hx hb dX3_isToldBy_0 (by decide) ?_
  refine lv_istore (lv' := [(4, .int (0 : Int32)), (0, .ref (ad g z)), (1, .ref (ad g r1)), (2, .int x2), (3, .int x3)]) hx hb dX3_isToldBy_1 hl (by decide) rfl (fun ls hl => ?_)
  exact w_X3_isToldBy_3 hB k_z  _ _ _ _ _ _ _ _ _ k_r1 hE hz (lv_sub hl [1, 2, 3, 4, 0] rfl)
theorem c_X3_isToldBy (l : Launch) (g : GP) {z : Nat} (k_z : KD LX z 2) {r1 : Nat} (k_r1 : KD LX r1 1) {x2 : Int32} {x3 : Int32} {V : Mem} {o : Int32 × Mem} (hE : f_X3_isToldBy z r1 x2 x3 V = some o) : CT l g LX yX3_isToldBy cX3_isToldBy 6 (some .boolean) rm_X3_isToldBy [.ref (ad g z), .ref (ad g r1), .int x2, .int x3] V (some (.int o.1)) o.2 := by
  refine ct_of (by decide) (Nat.le_of_ble_eq_true rfl) ?_
  intro p e s m args below meth c ls hB hz hl
  exact w_X3_isToldBy hB k_z _ _ _ _ _ _ _ k_r1 hE hz hl
def rm_X3_writeLabel : Room := { frames := 4, cells := 0, slots := 0, locals := 167 }
theorem i_X3_113 {p : Program} {l : Launch} {e : Env} {R : Room} {s : State} {m : MethodId} {args : Array Value} {below : List Frame} {meth : Method} {c : Code} {H : Heap} {locs : List Loc} {Q : State → Prop} {cc : ByteArray} {pc : Nat} {ls : Array Slot} {rest : List Value} {g : GP} {V : Mem} {nL : Nat} {ret : Option FieldType} (hB : BX p s m args meth c g LX cc nL RX3 ret) (hz : OK g LX V s H locs) {i : Nat} (hk : KD LX i 2) {a0 : Int32} {r : Nat} {V1 : Mem} (hM : CT l g LX yX3_behind cX3_behind 2 (some (.array .int)) rm_X3_behind [.ref (ad g i), .int a0] V (some (.ref (ad g r))) V1) (hR : rm_X3_behind.frames + 1 ≤ R.frames ∧ 8 + (2 + 11) + rm_X3_behind.locals ≤ R.locals) (hsz : ls.size = nL) (hrest : (rest.map fun v => v.category).sum ≤ 8) (hdg : decode cc pc = .ok (.invokevirtual 113, 3)) (kk : ∀ (H1 : Heap) (locs1 : List Loc), OK g LX V1 s H1 locs1 → W p l e R s m args below meth c H1 locs1 0 0 Q (F0 m (pc + 3) ls (.ref (ad g r) :: rest))) : W p l e R s m args below meth c H locs 0 0 Q (F0 m pc ls (.int a0 :: .ref (ad g i) :: rest)) :=
  x_cv (As := [.int a0]) (n := 1) (T := TX3) (N := 7) hB hz hM hk rfl rfl rfl rfl kw_468 kw_64 kw_491 kw_466 kw_467 (by decide +kernel) rfl hR hsz hrest hdg kk
theorem i_X3_119 {p : Program} {l : Launch} {e : Env} {R : Room} {s : State} {m : MethodId} {args : Array Value} {below : List Frame} {meth : Method} {c : Code} {H : Heap} {locs : List Loc} {Q : State → Prop} {cc : ByteArray} {pc : Nat} {ls : Array Slot} {rest : List Value} {g : GP} {V : Mem} {nL : Nat} {ret : Option FieldType} (hB : BX p s m args meth c g LX cc nL RX3 ret) (hz : OK g LX V s H locs) {i : Nat} (hk : KD LX i 3) {a0 : Int32} {a1 : Int32} {V1 : Mem} (hM : CT l g LX yX4_addNumerals cX4_addNumerals 3 none rm_X4_addNumerals [.ref (ad g i), .int a0, .int a1] V none V1) (hR : rm_X4_addNumerals.frames + 1 ≤ R.frames ∧ 8 + (3 + 11) + rm_X4_addNumerals.locals ≤ R.locals) (hsz : ls.size = nL) (hrest : (rest.map fun v => v.category).sum ≤ 8) (hdg : decode cc pc = .ok (.invokevirtual 119, 3)) (kk : ∀ (H1 : Heap) (locs1 : List Loc), OK g LX V1 s H1 locs1 → W p l e R s m args below meth c H1 locs1 0 0 Q (F0 m (pc + 3) ls (rest))) : W p l e R s m args below meth c H locs 0 0 Q (F0 m pc ls (.int a1 :: .int a0 :: .ref (ad g i) :: rest)) :=
  x_cv (As := [.int a0, .int a1]) (n := 2) (T := TX4) (N := 2) hB hz hM hk rfl rfl rfl rfl kw_499 kw_66 kw_496 kw_497 kw_498 (by decide +kernel) rfl hR hsz hrest hdg kk
theorem i_X3_116 {p : Program} {l : Launch} {e : Env} {R : Room} {s : State} {m : MethodId} {args : Array Value} {below : List Frame} {meth : Method} {c : Code} {H : Heap} {locs : List Loc} {Q : State → Prop} {cc : ByteArray} {pc : Nat} {ls : Array Slot} {rest : List Value} {g : GP} {V : Mem} {nL : Nat} {ret : Option FieldType} (hB : BX p s m args meth c g LX cc nL RX3 ret) (hz : OK g LX V s H locs) {i : Nat} (hk : KD LX i 3) {a0 : Int32} {V1 : Mem} (hM : CT l g LX yX4_add cX4_add 2 none rm_X4_add [.ref (ad g i), .int a0] V none V1) (hR : rm_X4_add.frames + 1 ≤ R.frames ∧ 8 + (2 + 11) + rm_X4_add.locals ≤ R.locals) (hsz : ls.size = nL) (hrest : (rest.map fun v => v.category).sum ≤ 8) (hdg : decode cc pc = .ok (.invokevirtual 116, 3)) (kk : ∀ (H1 : Heap) (locs1 : List Loc), OK g LX V1 s H1 locs1 → W p l e R s m args below meth c H1 locs1 0 0 Q (F0 m (pc + 3) ls (rest))) : W p l e R s m args below meth c H locs 0 0 Q (F0 m pc ls (.int a0 :: .ref (ad g i) :: rest)) :=
  x_cv (As := [.int a0]) (n := 1) (T := TX4) (N := 2) hB hz hM hk rfl rfl rfl rfl kw_495 kw_66 kw_492 kw_493 kw_494 (by decide +kernel) rfl hR hsz hrest hdg kk
set_option maxHeartbeats 4000000 in
set_option maxRecDepth 100000 in
theorem w_X3_writeLabel_57 {p : Program} {l : Launch} {e : Env} {s : State} {m : MethodId} {args : Array Value} {below : List Frame} {meth : Method} {c : Code} {g : GP} (hB : BX p s m args meth c g LX cX3_writeLabel 7 RX3 none) {z : Nat} (k_z : KD LX z 2) {o : Mem} {k37 : Nat → Int32 → Nat → Int32 → Mem → Option (Mem)} (hk37 : ∀ (r3 : Nat) (x4 : Int32) (r5 : Nat) (x6 : Int32) (V : Mem) (H : Heap) (locs : List Loc) (ls : Array Slot), KD LX r3 3 → KD LX r5 22 → k37 r3 x4 r5 x6 V = some o → OK g LX V s H locs → lv_has ls 7 [(0, .ref (ad g z)), (3, .ref (ad g r3)), (4, .int x4), (5, .ref (ad g r5)), (6, .int x6)] → W p l e rm_X3_writeLabel s m args below meth c H locs 0 0 (MQ below (QQ g LX none o) args s 0 0 (Ar g LX)) (F0 m 37 ls [])) : ∀ (r3 : Nat) (x4 : Int32) (r5 : Nat) (x6 : Int32) (V : Mem) (H : Heap) (locs : List Loc) (ls : Array Slot), KD LX r3 3 → KD LX r5 22 → f_X3_writeLabel_57 z k37 r3 x4 r5 x6 V = some o → OK g LX V s H locs → lv_has ls 7 [(0, .ref (ad g z)), (3, .ref (ad g r3)), (4, .int x4), (5, .ref (ad g r5)), (6, .int x6)] → W p l e rm_X3_writeLabel s m args below meth c H locs 0 0 (MQ below (QQ g LX none o) args s 0 0 (Ar g LX)) (F0 m 57 ls []) := by
  obtain ⟨hx, hb, hml, hown, hT, hr, hlk, hK, hJ, hZ, hN⟩ := id hB
  intro r3 x4 r5 x6 V H locs ls k_r3 k_r5 hE hz hl
  unfold f_X3_writeLabel_57 at hE
  refine lv_aload_n hx hb dX3_writeLabel_57 rfl (lv_at hl 1 rfl) ?_
  refine lv_aload hx hb dX3_writeLabel_58 (lv_at hl 3 rfl) ?_
  refine lv_iload hx hb dX3_writeLabel_60 (lv_at hl 4 rfl) ?_
  obtain ⟨hi62, hE⟩ := x_chk hE
  refine x_iald (n := 6) hB hz k_r5 hi62 dX3_writeLabel_62 ?_
  refine lv_aload_n hx hb dX3_writeLabel_63 rfl (lv_at hl 0 rfl) ?_
  refine g_X3_9 hB hz k_z dX3_writeLabel_64 ?_
  refine lv_iload hx hb dX3_writeLabel_67 (lv_at hl 4 rfl) ?_
  obtain ⟨hi69, hE⟩ := x_chk hE
  refine x_iald (n := 3) hB hz (kd_sh k_z).1 hi69 dX3_writeLabel_69 ?_
  obtain ⟨q70, hq70, hE⟩ := x_bind hE
  refine i_X3_119 hB hz k_r3 (c_X4_addNumerals l g k_r3 hq70) ⟨(Nat.le_of_ble_eq_true rfl), (Nat.le_of_ble_eq_true rfl)⟩ hl.1 (Nat.le_of_ble_eq_true rfl) dX3_writeLabel_70 (fun H locs hz => ?_)
  refine lv_iinc (v := (x6 + 1)) (lv' := [(6, .int (x6 + 1)), (0, .ref (ad g z)), (3, .ref (ad g r3)), (4, .int x4), (5, .ref (ad g r5))]) hx hb dX3_writeLabel_73 hl (k := 4) rfl rfl (by decide) rfl (fun ls hl => ?_)
  refine lv_goto (tgt := 37) hx hb dX3_writeLabel_76 (by decide) ?_
  exact hk37 _ _ _ _ _ _ _ _ k_r3 k_r5 hE hz (lv_sub hl [1, 2, 3, 4, 0] rfl)

set_option maxHeartbeats 4000000 in
set_option maxRecDepth 100000 in
theorem w_X3_writeLabel_37 {p : Program} {l : Launch} {e : Env} {s : State} {m : MethodId} {args : Array Value} {below : List Frame} {meth : Method} {c : Code} {g : GP} (hB : BX p s m args meth c g LX cX3_writeLabel 7 RX3 none) {z : Nat} (k_z : KD LX z 2) {o : Mem} : ∀ (n : Nat), ∀ (r3 : Nat) (x4 : Int32) (r5 : Nat) (x6 : Int32) (V : Mem) (H : Heap) (locs : List Loc) (ls : Array Slot), KD LX r3 3 → KD LX r5 22 → f_X3_writeLabel_37 z n r3 x4 r5 x6 V = some o → OK g LX V s H locs → lv_has ls 7 [(0, .ref (ad g z)), (3, .ref (ad g r3)), (4, .int x4), (5, .ref (ad g r5)), (6, .int x6)] → W p l e rm_X3_writeLabel s m args below meth c H locs 0 0 (MQ below (QQ g LX none o) args s 0 0 (Ar g LX)) (F0 m 37 ls []) := by
  obtain ⟨hx, hb, hml, hown, hT, hr, hlk, hK, hJ, hZ, hN⟩ := id hB
  intro n
  induction n with
  | zero =>
    intro r3 x4 r5 x6 V H locs ls k_r3 k_r5 hE hz hl
    exact absurd (show (none : Option (Mem)) = some o from hE) (by simp)
  | succ n ih =>
    intro r3 x4 r5 x6 V H locs ls k_r3 k_r5 hE hz hl
    unfold f_X3_writeLabel_37 at hE
    refine lv_iload hx hb dX3_writeLabel_37 (lv_at hl 4 rfl) ?_
    refine lv_iload hx hb dX3_writeLabel_39 (lv_at hl 2 rfl) ?_
    refine lv_icmp_gt (tgt := 79) hx hb dX3_writeLabel_41 (by decide) (fun c41 => ?_) (fun c41 => ?_)
    · have hE := (if_pos c41).symm.trans hE
      exact x_vret hB hz hE dX3_writeLabel_79
    · have hE := (if_neg c41).symm.trans hE
      refine lv_aload_n hx hb dX3_writeLabel_44 rfl (lv_at hl 1 rfl) ?_
      refine g_X3_108 hB hz k_r3 dX3_writeLabel_45 ?_
      refine lv_if_le (tgt := 57) hx hb dX3_writeLabel_48 (by decide) (fun c48 => ?_) (fun c48 => ?_)
      · have hE := (if_pos c48).symm.trans hE
        exact w_X3_writeLabel_57 hB k_z ih _ _ _ _ _ _ _ _ k_r3 k_r5 hE hz (lv_sub hl [0, 1, 2, 3, 4] rfl)
      · have hE := (if_neg c48).symm.trans hE
        refine lv_aload_n hx hb dX3_writeLabel_51 rfl (lv_at hl 1 rfl) ?_
        refine lv_bipush (v := (46 : Int32)) hx hb dX3_writeLabel_52 (by decide) ?_
        obtain ⟨q54, hq54, hE⟩ := x_bind hE
        refine i_X3_116 hB hz k_r3 (c_X4_add l g k_r3 hq54) ⟨(Nat.le_of_ble_eq_true rfl), (Nat.le_of_ble_eq_true rfl)⟩ hl.1 (Nat.le_of_ble_eq_true rfl) dX3_writeLabel_54 (fun H locs hz => ?_)
        exact w_X3_writeLabel_57 hB k_z ih _ _ _ _ _ _ _ _ k_r3 k_r5 hE hz (lv_sub hl [0, 1, 2, 3, 4] rfl)

set_option maxHeartbeats 4000000 in
set_option maxRecDepth 100000 in
theorem w_X3_writeLabel {p : Program} {l : Launch} {e : Env} {s : State} {m : MethodId} {args : Array Value} {below : List Frame} {meth : Method} {c : Code} {g : GP} (hB : BX p s m args meth c g LX cX3_writeLabel 7 RX3 none) {z : Nat} (k_z : KD LX z 2) {o : Mem} : ∀ (x1 : Int32) (x2 : Int32) (r3 : Nat) (V : Mem) (H : Heap) (locs : List Loc) (ls : Array Slot), KD LX r3 3 → f_X3_writeLabel z x1 x2 r3 V = some o → OK g LX V s H locs → lv_has ls 7 [(0, .ref (ad g z)), (1, .int x1), (2, .int x2), (3, .ref (ad g r3))] → W p l e rm_X3_writeLabel s m args below meth c H locs 0 0 (MQ below (QQ g LX none o) args s 0 0 (Ar g LX)) (F0 m 0 ls []) := by
  obtain ⟨hx, hb, hml, hown, hT, hr, hlk, hK, hJ, hZ, hN⟩ := id hB
  intro x1 x2 r3 V H locs ls k_r3 hE hz hl
  unfold f_X3_writeLabel at hE
  refine lv_aload_n hx hb dX3_writeLabel_0 rfl (lv_at hl 3 rfl) ?_
  refine lv_iconst (v := (0 : Int32)) hx hb dX3_writeLabel_1 (by decide) ?_
  refine p_X3_108 hB hz k_r3 dX3_writeLabel_2 (fun H locs hz => ?_)
  refine lv_aload_n hx hb dX3_writeLabel_5 rfl (lv_at hl 0 rfl) ?_
  refine lv_iload_n hx hb dX3_writeLabel_6 rfl (lv_at hl 1 rfl) ?_
  obtain ⟨q7, hq7, hE⟩ := x_bind hE
  refine i_X3_96 hB hz k_z (c_X3_isLabelled l g k_z hq7) ⟨(Nat.le_of_ble_eq_true rfl), (Nat.le_of_ble_eq_true rfl)⟩ hl.1 (Nat.le_of_ble_eq_true rfl) dX3_writeLabel_7 (fun H locs hz => ?_)
  refine lv_if_ne (tgt := 14) hx hb dX3_writeLabel_10 (by decide) (fun c10 => ?_) (fun c10 => ?_)
  · have hE := (if_neg c10).symm.trans hE
    refine lv_aload_n hx hb dX3_writeLabel_14 rfl (lv_at hl 0 rfl) ?_
    refine g_X3_18 hB hz k_z dX3_writeLabel_15 ?_
    refine lv_iload_n hx hb dX3_writeLabel_18 rfl (lv_at hl 1 rfl) ?_
    obtain ⟨hi19, hE⟩ := x_chk hE
    refine x_iald (n := 24) hB hz (kd_sh k_z).2.2.1 hi19 dX3_writeLabel_19 ?_
    refine lv_istore (lv' := [(4, .int (q7.2 (z + 3) (x1).toNatClampNeg)), (0, .ref (ad g z)), (1, .int x1), (2, .int x2), (3, .ref (ad g r3))]) hx hb dX3_writeLabel_20 hl (by decide) rfl (fun ls hl => ?_)
    refine lv_aload_n hx hb dX3_writeLabel_22 rfl (lv_at hl 1 rfl) ?_
    refine lv_iload_n hx hb dX3_writeLabel_23 rfl (lv_at hl 2 rfl) ?_
    obtain ⟨q24, hq24, hE⟩ := x_bind hE
    refine i_X3_113 hB hz k_z (c_X3_behind l g k_z hq24) ⟨(Nat.le_of_ble_eq_true rfl), (Nat.le_of_ble_eq_true rfl)⟩ hl.1 (Nat.le_of_ble_eq_true rfl) dX3_writeLabel_24 (fun H locs hz => ?_)
    obtain ⟨hk24, hE⟩ := x_chk hE
    refine lv_astore (lv' := [(5, .ref (ad g q24.1)), (4, .int (q7.2 (z + 3) (x1).toNatClampNeg)), (0, .ref (ad g z)), (1, .int x1), (2, .int x2), (3, .ref (ad g r3))]) hx hb dX3_writeLabel_27 hl (by decide) rfl (fun ls hl => ?_)
    refine lv_iload_n hx hb dX3_writeLabel_29 rfl (lv_at hl 4 rfl) ?_
    refine lv_iload hx hb dX3_writeLabel_30 (lv_at hl 1 rfl) ?_
    refine va_mmin hx hb (hml.trans hl.1.symm) hown (hT _ kw_381) (hT _ kw_382) (hT _ kw_71) (hT _ kw_383) (Nat.le_of_ble_eq_true rfl) (Nat.le_of_ble_eq_true rfl) (Nat.le_of_ble_eq_true rfl) (Nat.le_of_ble_eq_true rfl) dX3_writeLabel_32 ?_
    refine lv_istore (lv' := [(6, .int (if (q7.2 (z + 3) (x1).toNatClampNeg) < x2 then (q7.2 (z + 3) (x1).toNatClampNeg) else x2)), (5, .ref (ad g q24.1)), (4, .int (q7.2 (z + 3) (x1).toNatClampNeg)), (0, .ref (ad g z)), (1, .int x1), (2, .int x2), (3, .ref (ad g r3))]) hx hb dX3_writeLabel_35 hl (by decide) rfl (fun ls hl => ?_)
    exact w_X3_writeLabel_37 hB k_z  _ _ _ _ _ _ _ _ _ k_r3 (kb_KD hk24) hE hz (lv_sub hl [3, 6, 2, 1, 0] rfl)
  · have hE := (if_pos c10).symm.trans hE
    exact x_vret hB hz hE dX3_writeLabel_13
theorem c_X3_writeLabel (l : Launch) (g : GP) {z : Nat} (k_z : KD LX z 2) {x1 : Int32} {x2 : Int32} {r3 : Nat} (k_r3 : KD LX r3 3) {V : Mem} {o : Mem} (hE : f_X3_writeLabel z x1 x2 r3 V = some o) : CT l g LX yX3_writeLabel cX3_writeLabel 7 none rm_X3_writeLabel [.ref (ad g z), .int x1, .int x2, .ref (ad g r3)] V none o := by
  refine ct_of (by decide) (Nat.le_of_ble_eq_true rfl) ?_
  intro p e s m args below meth c ls hB hz hl
  exact w_X3_writeLabel hB k_z _ _ _ _ _ _ _ k_r3 hE hz hl

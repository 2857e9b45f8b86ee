def rm_X6_isBetween : Room := { frames := 0, cells := 0, slots := 0, locals := 0 }
set_option maxHeartbeats 4000000 in
set_option maxRecDepth 100000 in
theorem w_X6_isBetween {p : Program} {l : Launch} {e : Env} {s : State} {m : MethodId} {args : Array Value} {below : List Frame} {meth : Method} {c : Code} {g : GP} (hB : BX p s m args meth c g LX cX6_isBetween 3 RX6 (some .boolean)) {o : Int32 × Mem} : ∀ (x0 : Int32) (x1 : Int32) (x2 : Int32) (V : Mem) (H : Heap) (locs : List Loc) (ls : Array Slot), f_X6_isBetween x0 x1 x2 V = some o → OK g LX V s H locs → lv_has ls 3 [(0, .int x0), (1, .int x1), (2, .int x2)] → W p l e rm_X6_isBetween s m args below meth c H locs 0 0 (MQ below (QQ g LX (some (.int o.1)) o.2) args s 0 0 (Ar g LX)) (F0 m 0 ls []) := by
  obtain ⟨hx, hb, hml, hown, hT, hr, hlk, hK, hJ, hZ, hN⟩ := id hB
  intro x0 x1 x2 V H locs ls hE hz hl
  unfold f_X6_isBetween at hE
  refine lv_iload_n hx hb dX6_isBetween_0 rfl (lv_at hl 0 rfl) ?_
  refine lv_iload_n hx hb dX6_isBetween_1 rfl (lv_at hl 1 rfl) ?_
  refine lv_icmp_lt (tgt := 14) hx hb dX6_isBetween_2 (by decide) (fun c2 => ?_) (fun c2 => ?_)
  · have hE := (if_pos c2).symm.trans hE
    refine lv_iconst (v := (0 : Int32)) hx hb dX6_isBetween_14 (by decide) ?_
    exact x_zret hB hz hE (by decide) dX6_isBetween_15
  · have hE := (if_neg c2).symm.trans hE
    refine lv_iload_n hx hb dX6_isBetween_5 rfl (lv_at hl 0 rfl) ?_
    refine lv_iload_n hx hb dX6_isBetween_6 rfl (lv_at hl 2 rfl) ?_
    refine lv_icmp_gt (tgt := 14) hx hb dX6_isBetween_7 (by decide) (fun c7 => ?_) (fun c7 => ?_)
    · have hE := (if_pos c7).symm.trans hE
      refine lv_iconst (v := (0 : Int32)) hx hb dX6_isBetween_14 (by decide) ?_
      exact x_zret hB hz hE (by decide) dX6_isBetween_15
    · have hE := (if_neg c7).symm.trans hE
      refine lv_iconst (v := (1 : Int32)) hx hb dX6_isBetween_10 (by decide) ?_
      refine lv_goto (tgt := 15) hx hb dX6_isBetween_11 (by decide) ?_
      exact x_zret hB hz hE (by decide) dX6_isBetween_15
theorem c_X6_isBetween (l : Launch) (g : GP) {x0 : Int32} {x1 : Int32} {x2 : Int32} {V : Mem} {o : Int32 × Mem} (hE : f_X6_isBetween x0 x1 x2 V = some o) : CT l g LX yX6_isBetween cX6_isBetween 3 (some .boolean) rm_X6_isBetween [.int x0, .int x1, .int x2] V (some (.int o.1)) o.2 := by
  refine ct_of (by decide) (Nat.le_of_ble_eq_true rfl) ?_
  intro p e s m args below meth c ls hB hz hl
  exact w_X6_isBetween hB _ _ _ _ _ _ _  hE hz hl
def rm_X6_isRow : Room := { frames := 1, cells := 0, slots := 0, locals := 22 }
theorem i_X6_79 {p : Program} {l : Launch} {e : Env} {R : Room} {s : State} {m : MethodId} {args : Array Value} {below : List Frame} {meth : Method} {c : Code} {H : Heap} {locs : List Loc} {Q : State → Prop} {cc : ByteArray} {pc : Nat} {ls : Array Slot} {rest : List Value} {g : GP} {V : Mem} {nL : Nat} {ret : Option FieldType} (hB : BX p s m args meth c g LX cc nL RX6 ret) (hz : OK g LX V s H locs) {a0 : Int32} {a1 : Int32} {a2 : Int32} {r : Int32} {V1 : Mem} (hM : CT l g LX yX6_isBetween cX6_isBetween 3 (some .boolean) rm_X6_isBetween [.int a0, .int a1, .int a2] V (some (.int r)) V1) (hR : rm_X6_isBetween.frames + 1 ≤ R.frames ∧ 8 + (3 + 11) + rm_X6_isBetween.locals ≤ R.locals) (hsz : ls.size = nL) (hrest : (rest.map fun v => v.category).sum ≤ 8) (hdg : decode cc pc = .ok (.invokestatic 79, 3)) (kk : ∀ (H1 : Heap) (locs1 : List Loc), OK g LX V1 s H1 locs1 → W p l e R s m args below meth c H1 locs1 0 0 Q (F0 m (pc + 3) ls (.int r :: rest))) : W p l e R s m args below meth c H locs 0 0 Q (F0 m pc ls (.int a2 :: .int a1 :: .int a0 :: rest)) :=
  x_cs (As := [.int a0, .int a1, .int a2]) (n := 3) hB hz hM rfl rfl kw_263 kw_62 kw_261 kw_262 (by decide +kernel) rfl hR hsz hrest hdg kk
set_option maxHeartbeats 4000000 in
set_option maxRecDepth 100000 in
theorem w_X6_isRow {p : Program} {l : Launch} {e : Env} {s : State} {m : MethodId} {args : Array Value} {below : List Frame} {meth : Method} {c : Code} {g : GP} (hB : BX p s m args meth c g LX cX6_isRow 1 RX6 (some .boolean)) {o : Int32 × Mem} : ∀ (x0 : Int32) (V : Mem) (H : Heap) (locs : List Loc) (ls : Array Slot), f_X6_isRow x0 V = some o → OK g LX V s H locs → lv_has ls 1 [(0, .int x0)] → W p l e rm_X6_isRow s m args below meth c H locs 0 0 (MQ below (QQ g LX (some (.int o.1)) o.2) args s 0 0 (Ar g LX)) (F0 m 0 ls []) := by
  obtain ⟨hx, hb, hml, hown, hT, hr, hlk, hK, hJ, hZ, hN⟩ := id hB
  intro x0 V H locs ls hE hz hl
  unfold f_X6_isRow at hE
  refine lv_iload_n hx hb dX6_isRow_0 rfl (lv_at hl 0 rfl) ?_
  refine lv_iconst (v := (0 : Int32)) hx hb dX6_isRow_1 (by decide) ?_
  refine lv_bipush (v := (7 : Int32)) hx hb dX6_isRow_2 (by decide) ?_
  obtain ⟨q4, hq4, hE⟩ := x_bind hE
  refine i_X6_79 hB hz (c_X6_isBetween l g  hq4) ⟨(Nat.le_of_ble_eq_true rfl), (Nat.le_of_ble_eq_true rfl)⟩ hl.1 (Nat.le_of_ble_eq_true rfl) dX6_isRow_4 (fun H locs hz => ?_)
  obtain ⟨hv7, hE⟩ := x_if hE
  exact x_zret hB hz hE hv7 dX6_isRow_7
theorem c_X6_isRow (l : Launch) (g : GP) {x0 : Int32} {V : Mem} {o : Int32 × Mem} (hE : f_X6_isRow x0 V = some o) : CT l g LX yX6_isRow cX6_isRow 1 (some .boolean) rm_X6_isRow [.int x0] V (some (.int o.1)) o.2 := by
  refine ct_of (by decide) (Nat.le_of_ble_eq_true rfl) ?_
  intro p e s m args below meth c ls hB hz hl
  exact w_X6_isRow hB _ _ _ _ _  hE hz hl
def rm_X6_found : Room := { frames := 0, cells := 0, slots := 0, locals := 0 }
set_option maxHeartbeats 4000000 in
set_option maxRecDepth 100000 in
theorem w_X6_found {p : Program} {l : Launch} {e : Env} {s : State} {m : MethodId} {args : Array Value} {below : List Frame} {meth : Method} {c : Code} {g : GP} (hB : BX p s m args meth c g LX cX6_found 2 RX6 (some .int)) {o : Int32 × Mem} : ∀ (x1 : Int32) (V : Mem) (H : Heap) (locs : List Loc) (ls : Array Slot), f_X6_found x1 V = some o → OK g LX V s H locs → lv_has ls 2 [(0, .ref (ad g 0)), (1, .int x1)] → W p l e rm_X6_found s m args below meth c H locs 0 0 (MQ below (QQ g LX (some (.int o.1)) o.2) args s 0 0 (Ar g LX)) (F0 m 0 ls []) := by
  obtain ⟨hx, hb, hml, hown, hT, hr, hlk, hK, hJ, hZ, hN⟩ := id hB
  intro x1 V H locs ls hE hz hl
  unfold f_X6_found at hE
  refine lv_aload_n hx hb dX6_found_0 rfl (lv_at hl 0 rfl) ?_
  refine lv_iload_n hx hb dX6_found_1 rfl (lv_at hl 1 rfl) ?_
  refine p_X6_68 hB hz kdX_0 dX6_found_2 (fun H locs hz => ?_)
  refine lv_ldcw (v := (-1000010 : Int32)) hx hb hown (hT _ kw_269) dX6_found_5 ?_
  refine lv_iload_n hx hb dX6_found_8 rfl (lv_at hl 1 rfl) ?_
  refine lv_isub hx hb dX6_found_9 ?_
  exact x_iret hB hz hE dX6_found_10
theorem c_X6_found (l : Launch) (g : GP) {x1 : Int32} {V : Mem} {o : Int32 × Mem} (hE : f_X6_found x1 V = some o) : CT l g LX yX6_found cX6_found 2 (some .int) rm_X6_found [.ref (ad g 0), .int x1] V (some (.int o.1)) o.2 := by
  refine ct_of (by decide) (Nat.le_of_ble_eq_true rfl) ?_
  intro p e s m args below meth c ls hB hz hl
  exact w_X6_found hB _ _ _ _ _  hE hz hl
def rm_X6_foundNothing : Room := { frames := 0, cells := 0, slots := 0, locals := 0 }
set_option maxHeartbeats 4000000 in
set_option maxRecDepth 100000 in
theorem w_X6_foundNothing {p : Program} {l : Launch} {e : Env} {s : State} {m : MethodId} {args : Array Value} {below : List Frame} {meth : Method} {c : Code} {g : GP} (hB : BX p s m args meth c g LX cX6_foundNothing 2 RX6 (some .int)) {o : Int32 × Mem} : ∀ (x1 : Int32) (V : Mem) (H : Heap) (locs : List Loc) (ls : Array Slot), f_X6_foundNothing x1 V = some o → OK g LX V s H locs → lv_has ls 2 [(0, .ref (ad g 0)), (1, .int x1)] → W p l e rm_X6_foundNothing s m args below meth c H locs 0 0 (MQ below (QQ g LX (some (.int o.1)) o.2) args s 0 0 (Ar g LX)) (F0 m 0 ls []) := by
  obtain ⟨hx, hb, hml, hown, hT, hr, hlk, hK, hJ, hZ, hN⟩ := id hB
  intro x1 V H locs ls hE hz hl
  unfold f_X6_foundNothing at hE
  refine lv_aload_n hx hb dX6_foundNothing_0 rfl (lv_at hl 0 rfl) ?_
  refine lv_iconst (v := (0 : Int32)) hx hb dX6_foundNothing_1 (by decide) ?_
  refine p_X6_68 hB hz kdX_0 dX6_foundNothing_2 (fun H locs hz => ?_)
  refine lv_iload_n hx hb dX6_foundNothing_5 rfl (lv_at hl 1 rfl) ?_
  exact x_iret hB hz hE dX6_foundNothing_6
theorem c_X6_foundNothing (l : Launch) (g : GP) {x1 : Int32} {V : Mem} {o : Int32 × Mem} (hE : f_X6_foundNothing x1 V = some o) : CT l g LX yX6_foundNothing cX6_foundNothing 2 (some .int) rm_X6_foundNothing [.ref (ad g 0), .int x1] V (some (.int o.1)) o.2 := by
  refine ct_of (by decide) (Nat.le_of_ble_eq_true rfl) ?_
  intro p e s m args below meth c ls hB hz hl
  exact w_X6_foundNothing hB _ _ _ _ _  hE hz hl
def rm_X6_row : Room := { frames := 2, cells := 0, slots := 0, locals := 45 }
theorem i_X6_75 {p : Program} {l : Launch} {e : Env} {R : Room} {s : State} {m : MethodId} {args : Array Value} {below : List Frame} {meth : Method} {c : Code} {H : Heap} {locs : List Loc} {Q : State → Prop} {cc : ByteArray} {pc : Nat} {ls : Array Slot} {rest : List Value} {g : GP} {V : Mem} {nL : Nat} {ret : Option FieldType} (hB : BX p s m args meth c g LX cc nL RX6 ret) (hz : OK g LX V s H locs) {a0 : Int32} {r : Int32} {V1 : Mem} (hM : CT l g LX yX6_isRow cX6_isRow 1 (some .boolean) rm_X6_isRow [.int a0] V (some (.int r)) V1) (hR : rm_X6_isRow.frames + 1 ≤ R.frames ∧ 8 + (1 + 11) + rm_X6_isRow.locals ≤ R.locals) (hsz : ls.size = nL) (hrest : (rest.map fun v => v.category).sum ≤ 8) (hdg : decode cc pc = .ok (.invokestatic 75, 3)) (kk : ∀ (H1 : Heap) (locs1 : List Loc), OK g LX V1 s H1 locs1 → W p l e R s m args below meth c H1 locs1 0 0 Q (F0 m (pc + 3) ls (.int r :: rest))) : W p l e R s m args below meth c H locs 0 0 Q (F0 m pc ls (.int a0 :: rest)) :=
  x_cs (As := [.int a0]) (n := 1) hB hz hM rfl rfl kw_260 kw_62 kw_258 kw_259 (by decide +kernel) rfl hR hsz hrest hdg kk
theorem i_X6_88 {p : Program} {l : Launch} {e : Env} {R : Room} {s : State} {m : MethodId} {args : Array Value} {below : List Frame} {meth : Method} {c : Code} {H : Heap} {locs : List Loc} {Q : State → Prop} {cc : ByteArray} {pc : Nat} {ls : Array Slot} {rest : List Value} {g : GP} {V : Mem} {nL : Nat} {ret : Option FieldType} (hB : BX p s m args meth c g LX cc nL RX6 ret) (hz : OK g LX V s H locs) {i : Nat} (hk : KD LX i 1) {a0 : Int32} {a1 : Int32} {V1 : Mem} (hM : CT l g LX yX2_become cX2_become 3 none rm_X2_become [.ref (ad g i), .int a0, .int a1] V none V1) (hR : rm_X2_become.frames + 1 ≤ R.frames ∧ 8 + (3 + 11) + rm_X2_become.locals ≤ R.locals) (hsz : ls.size = nL) (hrest : (rest.map fun v => v.category).sum ≤ 8) (hdg : decode cc pc = .ok (.invokevirtual 88, 3)) (kk : ∀ (H1 : Heap) (locs1 : List Loc), OK g LX V1 s H1 locs1 → W p l e R s m args below meth c H1 locs1 0 0 Q (F0 m (pc + 3) ls (rest))) : W p l e R s m args below meth c H locs 0 0 Q (F0 m pc ls (.int a1 :: .int a0 :: .ref (ad g i) :: rest)) :=
  x_cv (As := [.int a0, .int a1]) (n := 2) (T := TX2) (N := 3) hB hz hM hk rfl rfl rfl rfl kw_273 kw_67 kw_270 kw_271 kw_272 (by decide +kernel) rfl hR hsz hrest hdg kk
theorem i_X6_92 {p : Program} {l : Launch} {e : Env} {R : Room} {s : State} {m : MethodId} {args : Array Value} {below : List Frame} {meth : Method} {c : Code} {H : Heap} {locs : List Loc} {Q : State → Prop} {cc : ByteArray} {pc : Nat} {ls : Array Slot} {rest : List Value} {g : GP} {V : Mem} {nL : Nat} {ret : Option FieldType} (hB : BX p s m args meth c g LX cc nL RX6 ret) (hz : OK g LX V s H locs) {i : Nat} (hk : KD LX i 5) {a0 : Int32} {r : Int32} {V1 : Mem} (hM : CT l g LX yX6_foundNothing cX6_foundNothing 2 (some .int) rm_X6_foundNothing [.ref (ad g i), .int a0] V (some (.int r)) V1) (hR : rm_X6_foundNothing.frames + 1 ≤ R.frames ∧ 8 + (2 + 11) + rm_X6_foundNothing.locals ≤ R.locals) (hsz : ls.size = nL) (hrest : (rest.map fun v => v.category).sum ≤ 8) (hdg : decode cc pc = .ok (.invokevirtual 92, 3)) (kk : ∀ (H1 : Heap) (locs1 : List Loc), OK g LX V1 s H1 locs1 → W p l e R s m args below meth c H1 locs1 0 0 Q (F0 m (pc + 3) ls (.int r :: rest))) : W p l e R s m args below meth c H locs 0 0 Q (F0 m pc ls (.int a0 :: .ref (ad g i) :: rest)) :=
  x_cv (As := [.int a0]) (n := 1) (T := TX6) (N := 14) hB hz hM hk rfl rfl rfl rfl kw_280 kw_62 kw_277 kw_279 kw_1 (by decide +kernel) rfl hR hsz hrest hdg kk
theorem i_X6_84 {p : Program} {l : Launch} {e : Env} {R : Room} {s : State} {m : MethodId} {args : Array Value} {below : List Frame} {meth : Method} {c : Code} {H : Heap} {locs : List Loc} {Q : State → Prop} {cc : ByteArray} {pc : Nat} {ls : Array Slot} {rest : List Value} {g : GP} {V : Mem} {nL : Nat} {ret : Option FieldType} (hB : BX p s m args meth c g LX cc nL RX6 ret) (hz : OK g LX V s H locs) {i : Nat} (hk : KD LX i 5) {a0 : Int32} {r : Int32} {V1 : Mem} (hM : CT l g LX yX6_found cX6_found 2 (some .int) rm_X6_found [.ref (ad g i), .int a0] V (some (.int r)) V1) (hR : rm_X6_found.frames + 1 ≤ R.frames ∧ 8 + (2 + 11) + rm_X6_found.locals ≤ R.locals) (hsz : ls.size = nL) (hrest : (rest.map fun v => v.category).sum ≤ 8) (hdg : decode cc pc = .ok (.invokevirtual 84, 3)) (kk : ∀ (H1 : Heap) (locs1 : List Loc), OK g LX V1 s H1 locs1 → W p l e R s m args below meth c H1 locs1 0 0 Q (F0 m (pc + 3) ls (.int r :: rest))) : W p l e R s m args below meth c H locs 0 0 Q (F0 m pc ls (.int a0 :: .ref (ad g i) :: rest)) :=
  x_cv (As := [.int a0]) (n := 1) (T := TX6) (N := 14) hB hz hM hk rfl rfl rfl rfl kw_268 kw_62 kw_265 kw_267 kw_0 (by decide +kernel) rfl hR hsz hrest hdg kk
set_option maxHeartbeats 4000000 in
set_option maxRecDepth 100000 in
theorem w_X6_row {p : Program} {l : Launch} {e : Env} {s : State} {m : MethodId} {args : Array Value} {below : List Frame} {meth : Method} {c : Code} {g : GP} (hB : BX p s m args meth c g LX cX6_row 4 RX6 (some .int)) {o : Int32 × Mem} : ∀ (x1 : Int32) (x2 : Int32) (x3 : Int32) (V : Mem) (H : Heap) (locs : List Loc) (ls : Array Slot), f_X6_row x1 x2 x3 V = some o → OK g LX V s H locs → lv_has ls 4 [(0, .ref (ad g 0)), (1, .int x1), (2, .int x2), (3, .int x3)] → W p l e rm_X6_row s m args below meth c H locs 0 0 (MQ below (QQ g LX (some (.int o.1)) o.2) args s 0 0 (Ar g LX)) (F0 m 0 ls []) := by
  obtain ⟨hx, hb, hml, hown, hT, hr, hlk, hK, hJ, hZ, hN⟩ := id hB
  intro x1 x2 x3 V H locs ls hE hz hl
  unfold f_X6_row at hE
  refine lv_iload_n hx hb dX6_row_0 rfl (lv_at hl 1 rfl) ?_
  obtain ⟨q1, hq1, hE⟩ := x_bind hE
  refine i_X6_75 hB hz (c_X6_isRow l g  hq1) ⟨(Nat.le_of_ble_eq_true rfl), (Nat.le_of_ble_eq_true rfl)⟩ hl.1 (Nat.le_of_ble_eq_true rfl) dX6_row_1 (fun H locs hz => ?_)
  refine lv_if_eq (tgt := 22) hx hb dX6_row_4 (by decide) (fun c4 => ?_) (fun c4 => ?_)
  · have hE := (if_pos c4).symm.trans hE
    refine lv_ldc (v := (-1000001 : Int32)) hx hb hown (hT _ kw_264) dX6_row_22 ?_
    exact x_iret hB hz hE dX6_row_24
  · have hE := (if_neg c4).symm.trans hE
    refine lv_iload_n hx hb dX6_row_7 rfl (lv_at hl 2 rfl) ?_
    refine lv_iconst (v := (0 : Int32)) hx hb dX6_row_8 (by decide) ?_
    refine lv_iconst (v := (2 : Int32)) hx hb dX6_row_9 (by decide) ?_
    obtain ⟨q10, hq10, hE⟩ := x_bind hE
    refine i_X6_79 hB hz (c_X6_isBetween l g  hq10) ⟨(Nat.le_of_ble_eq_true rfl), (Nat.le_of_ble_eq_true rfl)⟩ hl.1 (Nat.le_of_ble_eq_true rfl) dX6_row_10 (fun H locs hz => ?_)
    refine lv_if_eq (tgt := 22) hx hb dX6_row_13 (by decide) (fun c13 => ?_) (fun c13 => ?_)
    · have hE := (if_pos c13).symm.trans hE
      refine lv_ldc (v := (-1000001 : Int32)) hx hb hown (hT _ kw_264) dX6_row_22 ?_
      exact x_iret hB hz hE dX6_row_24
    · have hE := (if_neg c13).symm.trans hE
      refine lv_iload_n hx hb dX6_row_16 rfl (lv_at hl 3 rfl) ?_
      refine lv_bipush (v := (40 : Int32)) hx hb dX6_row_17 (by decide) ?_
      refine lv_icmp_le (tgt := 25) hx hb dX6_row_19 (by decide) (fun c19 => ?_) (fun c19 => ?_)
      · have hE := (if_pos c19).symm.trans hE
        refine lv_iload_n hx hb dX6_row_25 rfl (lv_at hl 3 rfl) ?_
        refine lv_if_ge (tgt := 35) hx hb dX6_row_26 (by decide) (fun c26 => ?_) (fun c26 => ?_)
        · have hE := (if_pos c26).symm.trans hE
          refine lv_aload_n hx hb dX6_row_35 rfl (lv_at hl 0 rfl) ?_
          refine g_X6_11 hB hz kdX_0 dX6_row_36 ?_
          refine lv_iload_n hx hb dX6_row_39 rfl (lv_at hl 1 rfl) ?_
          obtain ⟨hi40, hE⟩ := x_chk hE
          refine x_aalR hB hz kdX_1 hi40 dX6_row_40 ?_
          refine lv_iload_n hx hb dX6_row_41 rfl (lv_at hl 2 rfl) ?_
          refine lv_iload_n hx hb dX6_row_42 rfl (lv_at hl 3 rfl) ?_
          obtain ⟨q43, hq43, hE⟩ := x_bind hE
          refine i_X6_88 hB hz (kd_rw hi40) (c_X2_become l g (kd_rw hi40) hq43) ⟨(Nat.le_of_ble_eq_true rfl), (Nat.le_of_ble_eq_true rfl)⟩ hl.1 (Nat.le_of_ble_eq_true rfl) dX6_row_43 (fun H locs hz => ?_)
          refine lv_aload_n hx hb dX6_row_46 rfl (lv_at hl 0 rfl) ?_
          refine lv_iload_n hx hb dX6_row_47 rfl (lv_at hl 3 rfl) ?_
          obtain ⟨q48, hq48, hE⟩ := x_bind hE
          refine i_X6_92 hB hz kdX_0 (c_X6_foundNothing l g  hq48) ⟨(Nat.le_of_ble_eq_true rfl), (Nat.le_of_ble_eq_true rfl)⟩ hl.1 (Nat.le_of_ble_eq_true rfl) dX6_row_48 (fun H locs hz => ?_)
          exact x_iret hB hz hE dX6_row_51
        · have hE := (if_neg c26).symm.trans hE
          refine lv_aload_n hx hb dX6_row_29 rfl (lv_at hl 0 rfl) ?_
          refine lv_iconst (v := (4 : Int32)) hx hb dX6_row_30 (by decide) ?_
          obtain ⟨q31, hq31, hE⟩ := x_bind hE
          refine i_X6_84 hB hz kdX_0 (c_X6_found l g  hq31) ⟨(Nat.le_of_ble_eq_true rfl), (Nat.le_of_ble_eq_true rfl)⟩ hl.1 (Nat.le_of_ble_eq_true rfl) dX6_row_31 (fun H locs hz => ?_)
          exact x_iret hB hz hE dX6_row_34
      · have hE := (if_neg c19).symm.trans hE
        refine lv_ldc (v := (-1000001 : Int32)) hx hb hown (hT _ kw_264) dX6_row_22 ?_
        exact x_iret hB hz hE dX6_row_24
theorem c_X6_row (l : Launch) (g : GP) {x1 : Int32} {x2 : Int32} {x3 : Int32} {V : Mem} {o : Int32 × Mem} (hE : f_X6_row x1 x2 x3 V = some o) : CT l g LX yX6_row cX6_row 4 (some .int) rm_X6_row [.ref (ad g 0), .int x1, .int x2, .int x3] V (some (.int o.1)) o.2 := by
  refine ct_of (by decide) (Nat.le_of_ble_eq_true rfl) ?_
  intro p e s m args below meth c ls hB hz hl
  exact w_X6_row hB _ _ _ _ _ _ _  hE hz hl
def rm_X6_set : Room := { frames := 2, cells := 0, slots := 0, locals := 44 }
theorem i_X6_95 {p : Program} {l : Launch} {e : Env} {R : Room} {s : State} {m : MethodId} {args : Array Value} {below : List Frame} {meth : Method} {c : Code} {H : Heap} {locs : List Loc} {Q : State → Prop} {cc : ByteArray} {pc : Nat} {ls : Array Slot} {rest : List Value} {g : GP} {V : Mem} {nL : Nat} {ret : Option FieldType} (hB : BX p s m args meth c g LX cc nL RX6 ret) (hz : OK g LX V s H locs) {i : Nat} (hk : KD LX i 1) {a0 : Int32} {a1 : Int32} {r : Int32} {V1 : Mem} (hM : CT l g LX yX2_findingAt cX2_findingAt 3 (some .int) rm_X2_findingAt [.ref (ad g i), .int a0, .int a1] V (some (.int r)) V1) (hR : rm_X2_findingAt.frames + 1 ≤ R.frames ∧ 8 + (3 + 11) + rm_X2_findingAt.locals ≤ R.locals) (hsz : ls.size = nL) (hrest : (rest.map fun v => v.category).sum ≤ 8) (hdg : decode cc pc = .ok (.invokevirtual 95, 3)) (kk : ∀ (H1 : Heap) (locs1 : List Loc), OK g LX V1 s H1 locs1 → W p l e R s m args below meth c H1 locs1 0 0 Q (F0 m (pc + 3) ls (.int r :: rest))) : W p l e R s m args below meth c H locs 0 0 Q (F0 m pc ls (.int a1 :: .int a0 :: .ref (ad g i) :: rest)) :=
  x_cv (As := [.int a0, .int a1]) (n := 2) (T := TX2) (N := 3) hB hz hM hk rfl rfl rfl rfl kw_288 kw_67 kw_285 kw_286 kw_287 (by decide +kernel) rfl hR hsz hrest hdg kk
theorem i_X6_102 {p : Program} {l : Launch} {e : Env} {R : Room} {s : State} {m : MethodId} {args : Array Value} {below : List Frame} {meth : Method} {c : Code} {H : Heap} {locs : List Loc} {Q : State → Prop} {cc : ByteArray} {pc : Nat} {ls : Array Slot} {rest : List Value} {g : GP} {V : Mem} {nL : Nat} {ret : Option FieldType} (hB : BX p s m args meth c g LX cc nL RX6 ret) (hz : OK g LX V s H locs) {i : Nat} (hk : KD LX i 1) {a0 : Int32} {r : Int32} {V1 : Mem} (hM : CT l g LX yX2_narrowed cX2_narrowed 2 (some .int) rm_X2_narrowed [.ref (ad g i), .int a0] V (some (.int r)) V1) (hR : rm_X2_narrowed.frames + 1 ≤ R.frames ∧ 8 + (2 + 11) + rm_X2_narrowed.locals ≤ R.locals) (hsz : ls.size = nL) (hrest : (rest.map fun v => v.category).sum ≤ 8) (hdg : decode cc pc = .ok (.invokevirtual 102, 3)) (kk : ∀ (H1 : Heap) (locs1 : List Loc), OK g LX V1 s H1 locs1 → W p l e R s m args below meth c H1 locs1 0 0 Q (F0 m (pc + 3) ls (.int r :: rest))) : W p l e R s m args below meth c H locs 0 0 Q (F0 m pc ls (.int a0 :: .ref (ad g i) :: rest)) :=
  x_cv (As := [.int a0]) (n := 1) (T := TX2) (N := 3) hB hz hM hk rfl rfl rfl rfl kw_300 kw_67 kw_297 kw_298 kw_299 (by decide +kernel) rfl hR hsz hrest hdg kk
set_option maxHeartbeats 4000000 in
set_option maxRecDepth 100000 in
theorem w_X6_set {p : Program} {l : Launch} {e : Env} {s : State} {m : MethodId} {args : Array Value} {below : List Frame} {meth : Method} {c : Code} {g : GP} (hB : BX p s m args meth c g LX cX6_set 6 RX6 (some .int)) {o : Int32 × Mem} : ∀ (x1 : Int32) (x2 : Int32) (x3 : Int32) (V : Mem) (H : Heap) (locs : List Loc) (ls : Array Slot), f_X6_set x1 x2 x3 V = some o → OK g LX V s H locs → lv_has ls 6 [(0, .ref (ad g 0)), (1, .int x1), (2, .int x2), (3, .int x3)] → W p l e rm_X6_set s m args below meth c H locs 0 0 (MQ below (QQ g LX (some (.int o.1)) o.2) args s 0 0 (Ar g LX)) (F0 m 0 ls []) := by
  obtain ⟨hx, hb, hml, hown, hT, hr, hlk, hK, hJ, hZ, hN⟩ := id hB
  intro x1 x2 x3 V H locs ls hE hz hl
  unfold f_X6_set at hE
  refine lv_iload_n hx hb dX6_set_0 rfl (lv_at hl 1 rfl) ?_
  obtain ⟨q1, hq1, hE⟩ := x_bind hE
  refine i_X6_75 hB hz (c_X6_isRow l g  hq1) ⟨(Nat.le_of_ble_eq_true rfl), (Nat.le_of_ble_eq_true rfl)⟩ hl.1 (Nat.le_of_ble_eq_true rfl) dX6_set_1 (fun H locs hz => ?_)
  refine lv_if_ne (tgt := 10) hx hb dX6_set_4 (by decide) (fun c4 => ?_) (fun c4 => ?_)
  · have hE := (if_neg c4).symm.trans hE
    refine lv_aload_n hx hb dX6_set_10 rfl (lv_at hl 0 rfl) ?_
    refine g_X6_11 hB hz kdX_0 dX6_set_11 ?_
    refine lv_iload_n hx hb dX6_set_14 rfl (lv_at hl 1 rfl) ?_
    obtain ⟨hi15, hE⟩ := x_chk hE
    refine x_aalR hB hz kdX_1 hi15 dX6_set_15 ?_
    refine lv_astore (lv' := [(4, .ref (ad g (99 + 2 * (x1).toNatClampNeg))), (0, .ref (ad g 0)), (1, .int x1), (2, .int x2), (3, .int x3)]) hx hb dX6_set_16 hl (by decide) rfl (fun ls hl => ?_)
    refine lv_aload hx hb dX6_set_18 (lv_at hl 0 rfl) ?_
    refine lv_iload_n hx hb dX6_set_20 rfl (lv_at hl 3 rfl) ?_
    refine lv_iconst (v := (1 : Int32)) hx hb dX6_set_21 (by decide) ?_
    obtain ⟨q22, hq22, hE⟩ := x_bind hE
    refine i_X6_95 hB hz (kd_rw hi15) (c_X2_findingAt l g (kd_rw hi15) hq22) ⟨(Nat.le_of_ble_eq_true rfl), (Nat.le_of_ble_eq_true rfl)⟩ hl.1 (Nat.le_of_ble_eq_true rfl) dX6_set_22 (fun H locs hz => ?_)
    refine lv_istore (lv' := [(5, .int q22.1), (4, .ref (ad g (99 + 2 * (x1).toNatClampNeg))), (0, .ref (ad g 0)), (1, .int x1), (2, .int x2), (3, .int x3)]) hx hb dX6_set_25 hl (by decide) rfl (fun ls hl => ?_)
    refine lv_iload hx hb dX6_set_27 (lv_at hl 0 rfl) ?_
    refine lv_if_eq (tgt := 39) hx hb dX6_set_29 (by decide) (fun c29 => ?_) (fun c29 => ?_)
    · have hE := (if_pos c29).symm.trans hE
      refine lv_aload hx hb dX6_set_39 (lv_at hl 1 rfl) ?_
      refine g_X6_99 hB hz (kd_rw hi15) dX6_set_41 ?_
      refine lv_iload_n hx hb dX6_set_44 rfl (lv_at hl 4 rfl) ?_
      refine lv_aload hx hb dX6_set_45 (lv_at hl 1 rfl) ?_
      refine lv_iload_n hx hb dX6_set_47 rfl (lv_at hl 5 rfl) ?_
      obtain ⟨q48, hq48, hE⟩ := x_bind hE
      refine i_X6_102 hB hz (kd_rw hi15) (c_X2_narrowed l g (kd_rw hi15) hq48) ⟨(Nat.le_of_ble_eq_true rfl), (Nat.le_of_ble_eq_true rfl)⟩ hl.1 (Nat.le_of_ble_eq_true rfl) dX6_set_48 (fun H locs hz => ?_)
      obtain ⟨hi51, hE⟩ := x_chk hE
      refine x_iast (n := 40) hB hz (kd_row (kd_rw hi15)) hi51 dX6_set_51 (fun H locs hz => ?_)
      refine lv_aload_n hx hb dX6_set_52 rfl (lv_at hl 2 rfl) ?_
      refine lv_aload hx hb dX6_set_53 (lv_at hl 1 rfl) ?_
      refine g_X6_99 hB hz (kd_rw hi15) dX6_set_55 ?_
      refine lv_iload_n hx hb dX6_set_58 rfl (lv_at hl 4 rfl) ?_
      obtain ⟨hi59, hE⟩ := x_chk hE
      refine x_iald (n := 40) hB hz (kd_row (kd_rw hi15)) hi59 dX6_set_59 ?_
      obtain ⟨q60, hq60, hE⟩ := x_bind hE
      refine i_X6_92 hB hz kdX_0 (c_X6_foundNothing l g  hq60) ⟨(Nat.le_of_ble_eq_true rfl), (Nat.le_of_ble_eq_true rfl)⟩ hl.1 (Nat.le_of_ble_eq_true rfl) dX6_set_60 (fun H locs hz => ?_)
      exact x_iret hB hz hE dX6_set_63
    · have hE := (if_neg c29).symm.trans hE
      refine lv_aload_n hx hb dX6_set_32 rfl (lv_at hl 2 rfl) ?_
      refine lv_iload hx hb dX6_set_33 (lv_at hl 0 rfl) ?_
      obtain ⟨q35, hq35, hE⟩ := x_bind hE
      refine i_X6_84 hB hz kdX_0 (c_X6_found l g  hq35) ⟨(Nat.le_of_ble_eq_true rfl), (Nat.le_of_ble_eq_true rfl)⟩ hl.1 (Nat.le_of_ble_eq_true rfl) dX6_set_35 (fun H locs hz => ?_)
      exact x_iret hB hz hE dX6_set_38
  · have hE := (if_pos c4).symm.trans hE
    refine lv_ldc (v := (-1000001 : Int32)) hx hb hown (hT _ kw_264) dX6_set_7 ?_
    exact x_iret hB hz hE dX6_set_9
theorem c_X6_set (l : Launch) (g : GP) {x1 : Int32} {x2 : Int32} {x3 : Int32} {V : Mem} {o : Int32 × Mem} (hE : f_X6_set x1 x2 x3 V = some o) : CT l g LX yX6_set cX6_set 6 (some .int) rm_X6_set [.ref (ad g 0), .int x1, .int x2, .int x3] V (some (.int o.1)) o.2 := by
  refine ct_of (by decide) (Nat.le_of_ble_eq_true rfl) ?_
  intro p e s m args below meth c ls hB hz hl
  exact w_X6_set hB _ _ _ _ _ _ _  hE hz hl
def rm_X6_copy : Room := { frames := 2, cells := 0, slots := 0, locals := 100 }
theorem i_X6_105 {p : Program} {l : Launch} {e : Env} {R : Room} {s : State} {m : MethodId} {args : Array Value} {below : List Frame} {meth : Method} {c : Code} {H : Heap} {locs : List Loc} {Q : State → Prop} {cc : ByteArray} {pc : Nat} {ls : Array Slot} {rest : List Value} {g : GP} {V : Mem} {nL : Nat} {ret : Option FieldType} (hB : BX p s m args meth c g LX cc nL RX6 ret) (hz : OK g LX V s H locs) {i : Nat} (hk : KD LX i 1) {r : Int32} {V1 : Mem} (hM : CT l g LX yX2_isMissing cX2_isMissing 1 (some .boolean) rm_X2_isMissing [.ref (ad g i)] V (some (.int r)) V1) (hR : rm_X2_isMissing.frames + 1 ≤ R.frames ∧ 8 + (1 + 11) + rm_X2_isMissing.locals ≤ R.locals) (hsz : ls.size = nL) (hrest : (rest.map fun v => v.category).sum ≤ 8) (hdg : decode cc pc = .ok (.invokevirtual 105, 3)) (kk : ∀ (H1 : Heap) (locs1 : List Loc), OK g LX V1 s H1 locs1 → W p l e R s m args below meth c H1 locs1 0 0 Q (F0 m (pc + 3) ls (.int r :: rest))) : W p l e R s m args below meth c H locs 0 0 Q (F0 m pc ls (.ref (ad g i) :: rest)) :=
  x_cv (As := []) (n := 0) (T := TX2) (N := 3) hB hz hM hk rfl rfl rfl rfl kw_292 kw_67 kw_305 kw_290 kw_291 (by decide +kernel) rfl hR hsz hrest hdg kk
theorem i_X6_112 {p : Program} {l : Launch} {e : Env} {R : Room} {s : State} {m : MethodId} {args : Array Value} {below : List Frame} {meth : Method} {c : Code} {H : Heap} {locs : List Loc} {Q : State → Prop} {cc : ByteArray} {pc : Nat} {ls : Array Slot} {rest : List Value} {g : GP} {V : Mem} {nL : Nat} {ret : Option FieldType} (hB : BX p s m args meth c g LX cc nL RX6 ret) (hz : OK g LX V s H locs) {i : Nat} (hk : KD LX i 1) {a0 : Int32} {a1 : Int32} {r : Int32} {V1 : Mem} (hM : CT l g LX yX2_holds cX2_holds 3 (some .boolean) rm_X2_holds [.ref (ad g i), .int a0, .int a1] V (some (.int r)) V1) (hR : rm_X2_holds.frames + 1 ≤ R.frames ∧ 8 + (3 + 11) + rm_X2_holds.locals ≤ R.locals) (hsz : ls.size = nL) (hrest : (rest.map fun v => v.category).sum ≤ 8) (hdg : decode cc pc = .ok (.invokevirtual 112, 3)) (kk : ∀ (H1 : Heap) (locs1 : List Loc), OK g LX V1 s H1 locs1 → W p l e R s m args below meth c H1 locs1 0 0 Q (F0 m (pc + 3) ls (.int r :: rest))) : W p l e R s m args below meth c H locs 0 0 Q (F0 m pc ls (.int a1 :: .int a0 :: .ref (ad g i) :: rest)) :=
  x_cv (As := [.int a0, .int a1]) (n := 2) (T := TX2) (N := 3) hB hz hM hk rfl rfl rfl rfl kw_296 kw_67 kw_306 kw_294 kw_295 (by decide +kernel) rfl hR hsz hrest hdg kk
set_option maxHeartbeats 4000000 in
set_option maxRecDepth 100000 in
theorem w_X6_copy_49 {p : Program} {l : Launch} {e : Env} {s : State} {m : MethodId} {args : Array Value} {below : List Frame} {meth : Method} {c : Code} {g : GP} (hB : BX p s m args meth c g LX cX6_copy 8 RX6 (some .int)) {o : Int32 × Mem} : ∀ (V : Mem) (H : Heap) (locs : List Loc) (ls : Array Slot), f_X6_copy_49 V = some o → OK g LX V s H locs → lv_has ls 8 [(0, .ref (ad g 0))] → W p l e rm_X6_copy s m args below meth c H locs 0 0 (MQ below (QQ g LX (some (.int o.1)) o.2) args s 0 0 (Ar g LX)) (F0 m 49 ls []) := by
  obtain ⟨hx, hb, hml, hown, hT, hr, hlk, hK, hJ, hZ, hN⟩ := id hB
  intro V H locs ls hE hz hl
  unfold f_X6_copy_49 at hE
  refine lv_aload_n hx hb dX6_copy_49 rfl (lv_at hl 0 rfl) ?_
  refine lv_iconst (v := (1 : Int32)) hx hb dX6_copy_50 (by decide) ?_
  obtain ⟨q51, hq51, hE⟩ := x_bind hE
  refine i_X6_84 hB hz kdX_0 (c_X6_found l g  hq51) ⟨(Nat.le_of_ble_eq_true rfl), (Nat.le_of_ble_eq_true rfl)⟩ hl.1 (Nat.le_of_ble_eq_true rfl) dX6_copy_51 (fun H locs hz => ?_)
  exact x_iret hB hz hE dX6_copy_54

set_option maxHeartbeats 4000000 in
set_option maxRecDepth 100000 in
theorem w_X6_copy_97 {p : Program} {l : Launch} {e : Env} {s : State} {m : MethodId} {args : Array Value} {below : List Frame} {meth : Method} {c : Code} {g : GP} (hB : BX p s m args meth c g LX cX6_copy 8 RX6 (some .int)) {o : Int32 × Mem} : ∀ (V : Mem) (H : Heap) (locs : List Loc) (ls : Array Slot), f_X6_copy_97 V = some o → OK g LX V s H locs → lv_has ls 8 [(0, .ref (ad g 0))] → W p l e rm_X6_copy s m args below meth c H locs 0 0 (MQ below (QQ g LX (some (.int o.1)) o.2) args s 0 0 (Ar g LX)) (F0 m 97 ls []) := by
  obtain ⟨hx, hb, hml, hown, hT, hr, hlk, hK, hJ, hZ, hN⟩ := id hB
  intro V H locs ls hE hz hl
  unfold f_X6_copy_97 at hE
  refine lv_aload_n hx hb dX6_copy_97 rfl (lv_at hl 0 rfl) ?_
  refine lv_iconst (v := (2 : Int32)) hx hb dX6_copy_98 (by decide) ?_
  obtain ⟨q99, hq99, hE⟩ := x_bind hE
  refine i_X6_84 hB hz kdX_0 (c_X6_found l g  hq99) ⟨(Nat.le_of_ble_eq_true rfl), (Nat.le_of_ble_eq_true rfl)⟩ hl.1 (Nat.le_of_ble_eq_true rfl) dX6_copy_99 (fun H locs hz => ?_)
  exact x_iret hB hz hE dX6_copy_102

set_option maxHeartbeats 4000000 in
set_option maxRecDepth 100000 in
theorem w_X6_copy {p : Program} {l : Launch} {e : Env} {s : State} {m : MethodId} {args : Array Value} {below : List Frame} {meth : Method} {c : Code} {g : GP} (hB : BX p s m args meth c g LX cX6_copy 8 RX6 (some .int)) {o : Int32 × Mem} : ∀ (x1 : Int32) (x2 : Int32) (x3 : Int32) (x4 : Int32) (x5 : Int32) (V : Mem) (H : Heap) (locs : List Loc) (ls : Array Slot), f_X6_copy x1 x2 x3 x4 x5 V = some o → OK g LX V s H locs → lv_has ls 8 [(0, .ref (ad g 0)), (1, .int x1), (2, .int x2), (3, .int x3), (4, .int x4), (5, .int x5)] → W p l e rm_X6_copy s m args below meth c H locs 0 0 (MQ below (QQ g LX (some (.int o.1)) o.2) args s 0 0 (Ar g LX)) (F0 m 0 ls []) := by
  obtain ⟨hx, hb, hml, hown, hT, hr, hlk, hK, hJ, hZ, hN⟩ := id hB
  intro x1 x2 x3 x4 x5 V H locs ls hE hz hl
  unfold f_X6_copy at hE
  refine lv_iload_n hx hb dX6_copy_0 rfl (lv_at hl 1 rfl) ?_
  obtain ⟨q1, hq1, hE⟩ := x_bind hE
  refine i_X6_75 hB hz (c_X6_isRow l g  hq1) ⟨(Nat.le_of_ble_eq_true rfl), (Nat.le_of_ble_eq_true rfl)⟩ hl.1 (Nat.le_of_ble_eq_true rfl) dX6_copy_1 (fun H locs hz => ?_)
  refine lv_if_eq (tgt := 14) hx hb dX6_copy_4 (by decide) (fun c4 => ?_) (fun c4 => ?_)
  · have hE := (if_pos c4).symm.trans hE
    refine lv_ldc (v := (-1000001 : Int32)) hx hb hown (hT _ kw_264) dX6_copy_14 ?_
    exact x_iret hB hz hE dX6_copy_16
  · have hE := (if_neg c4).symm.trans hE
    refine lv_iload_n hx hb dX6_copy_7 rfl (lv_at hl 3 rfl) ?_
    obtain ⟨q8, hq8, hE⟩ := x_bind hE
    refine i_X6_75 hB hz (c_X6_isRow l g  hq8) ⟨(Nat.le_of_ble_eq_true rfl), (Nat.le_of_ble_eq_true rfl)⟩ hl.1 (Nat.le_of_ble_eq_true rfl) dX6_copy_8 (fun H locs hz => ?_)
    refine lv_if_ne (tgt := 17) hx hb dX6_copy_11 (by decide) (fun c11 => ?_) (fun c11 => ?_)
    · have hE := (if_neg c11).symm.trans hE
      refine lv_aload_n hx hb dX6_copy_17 rfl (lv_at hl 0 rfl) ?_
      refine g_X6_11 hB hz kdX_0 dX6_copy_18 ?_
      refine lv_iload_n hx hb dX6_copy_21 rfl (lv_at hl 1 rfl) ?_
      obtain ⟨hi22, hE⟩ := x_chk hE
      refine x_aalR hB hz kdX_1 hi22 dX6_copy_22 ?_
      refine lv_astore (lv' := [(6, .ref (ad g (99 + 2 * (x1).toNatClampNeg))), (0, .ref (ad g 0)), (1, .int x1), (2, .int x2), (3, .int x3), (4, .int x4), (5, .int x5)]) hx hb dX6_copy_23 hl (by decide) rfl (fun ls hl => ?_)
      refine lv_aload_n hx hb dX6_copy_25 rfl (lv_at hl 1 rfl) ?_
      refine g_X6_11 hB hz kdX_0 dX6_copy_26 ?_
      refine lv_iload_n hx hb dX6_copy_29 rfl (lv_at hl 4 rfl) ?_
      obtain ⟨hi30, hE⟩ := x_chk hE
      refine x_aalR hB hz kdX_1 hi30 dX6_copy_30 ?_
      refine lv_astore (lv' := [(7, .ref (ad g (99 + 2 * (x3).toNatClampNeg))), (6, .ref (ad g (99 + 2 * (x1).toNatClampNeg))), (0, .ref (ad g 0)), (1, .int x1), (2, .int x2), (3, .int x3), (4, .int x4), (5, .int x5)]) hx hb dX6_copy_31 hl (by decide) rfl (fun ls hl => ?_)
      refine lv_aload hx hb dX6_copy_33 (lv_at hl 1 rfl) ?_
      obtain ⟨q35, hq35, hE⟩ := x_bind hE
      refine i_X6_105 hB hz (kd_rw hi22) (c_X2_isMissing l g (kd_rw hi22) hq35) ⟨(Nat.le_of_ble_eq_true rfl), (Nat.le_of_ble_eq_true rfl)⟩ hl.1 (Nat.le_of_ble_eq_true rfl) dX6_copy_35 (fun H locs hz => ?_)
      refine lv_if_ne (tgt := 49) hx hb dX6_copy_38 (by decide) (fun c38 => ?_) (fun c38 => ?_)
      · have hE := (if_neg c38).symm.trans hE
        exact w_X6_copy_49 hB   _ _ _ _  hE hz (lv_sub hl [2] rfl)
      · have hE := (if_pos c38).symm.trans hE
        refine lv_aload hx hb dX6_copy_41 (lv_at hl 0 rfl) ?_
        obtain ⟨q43, hq43, hE⟩ := x_bind hE
        refine i_X6_105 hB hz (kd_rw hi30) (c_X2_isMissing l g (kd_rw hi30) hq43) ⟨(Nat.le_of_ble_eq_true rfl), (Nat.le_of_ble_eq_true rfl)⟩ hl.1 (Nat.le_of_ble_eq_true rfl) dX6_copy_43 (fun H locs hz => ?_)
        refine lv_if_eq (tgt := 55) hx hb dX6_copy_46 (by decide) (fun c46 => ?_) (fun c46 => ?_)
        · have hE := (if_pos c46).symm.trans hE
          refine lv_aload hx hb dX6_copy_55 (lv_at hl 1 rfl) ?_
          refine g_X6_109 hB hz (kd_rw hi22) dX6_copy_57 ?_
          refine lv_aload hx hb dX6_copy_60 (lv_at hl 0 rfl) ?_
          refine g_X6_109 hB hz (kd_rw hi30) dX6_copy_62 ?_
          refine lv_icmp_eq (tgt := 74) hx hb dX6_copy_65 (by decide) (fun c65 => ?_) (fun c65 => ?_)
          · have hE := (if_pos c65).symm.trans hE
            refine lv_aload hx hb dX6_copy_74 (lv_at hl 1 rfl) ?_
            refine lv_iload_n hx hb dX6_copy_76 rfl (lv_at hl 4 rfl) ?_
            refine lv_iload hx hb dX6_copy_77 (lv_at hl 7 rfl) ?_
            obtain ⟨q79, hq79, hE⟩ := x_bind hE
            refine i_X6_112 hB hz (kd_rw hi22) (c_X2_holds l g (kd_rw hi22) hq79) ⟨(Nat.le_of_ble_eq_true rfl), (Nat.le_of_ble_eq_true rfl)⟩ hl.1 (Nat.le_of_ble_eq_true rfl) dX6_copy_79 (fun H locs hz => ?_)
            refine lv_if_eq (tgt := 97) hx hb dX6_copy_82 (by decide) (fun c82 => ?_) (fun c82 => ?_)
            · have hE := (if_pos c82).symm.trans hE
              exact w_X6_copy_97 hB   _ _ _ _  hE hz (lv_sub hl [2] rfl)
            · have hE := (if_neg c82).symm.trans hE
              refine lv_aload hx hb dX6_copy_85 (lv_at hl 0 rfl) ?_
              refine lv_iload hx hb dX6_copy_87 (lv_at hl 6 rfl) ?_
              refine lv_iload hx hb dX6_copy_89 (lv_at hl 7 rfl) ?_
              obtain ⟨q91, hq91, hE⟩ := x_bind hE
              refine i_X6_112 hB hz (kd_rw hi30) (c_X2_holds l g (kd_rw hi30) hq91) ⟨(Nat.le_of_ble_eq_true rfl), (Nat.le_of_ble_eq_true rfl)⟩ hl.1 (Nat.le_of_ble_eq_true rfl) dX6_copy_91 (fun H locs hz => ?_)
              refine lv_if_ne (tgt := 103) hx hb dX6_copy_94 (by decide) (fun c94 => ?_) (fun c94 => ?_)
              · have hE := (if_neg c94).symm.trans hE
                refine lv_aload hx hb dX6_copy_103 (lv_at hl 1 rfl) ?_
                refine g_X6_99 hB hz (kd_rw hi22) dX6_copy_105 ?_
                refine lv_iload_n hx hb dX6_copy_108 rfl (lv_at hl 4 rfl) ?_
                refine lv_aload hx hb dX6_copy_109 (lv_at hl 0 rfl) ?_
                refine g_X6_99 hB hz (kd_rw hi30) dX6_copy_111 ?_
                refine lv_iload hx hb dX6_copy_114 (lv_at hl 6 rfl) ?_
                refine lv_iload hx hb dX6_copy_116 (lv_at hl 7 rfl) ?_
                obtain ⟨hi118, hE⟩ := x_chk hE
                refine x_copy (n0 := 40) (n1 := 40) hB hz (kd_row (kd_rw hi22)) (kd_row (kd_rw hi30)) hi118 hl.1 kw_307 kw_309 kw_308 kw_70 (Nat.le_of_ble_eq_true rfl) (Nat.le_of_ble_eq_true rfl) dX6_copy_118 (fun H locs hz => ?_)
                refine lv_aload_n hx hb dX6_copy_121 rfl (lv_at hl 2 rfl) ?_
                refine lv_iload hx hb dX6_copy_122 (lv_at hl 7 rfl) ?_
                obtain ⟨q124, hq124, hE⟩ := x_bind hE
                refine i_X6_92 hB hz kdX_0 (c_X6_foundNothing l g  hq124) ⟨(Nat.le_of_ble_eq_true rfl), (Nat.le_of_ble_eq_true rfl)⟩ hl.1 (Nat.le_of_ble_eq_true rfl) dX6_copy_124 (fun H locs hz => ?_)
                exact x_iret hB hz hE dX6_copy_127
              · have hE := (if_pos c94).symm.trans hE
                exact w_X6_copy_97 hB   _ _ _ _  hE hz (lv_sub hl [2] rfl)
          · have hE := (if_neg c65).symm.trans hE
            refine lv_aload_n hx hb dX6_copy_68 rfl (lv_at hl 2 rfl) ?_
            refine lv_iconst (v := (5 : Int32)) hx hb dX6_copy_69 (by decide) ?_
            obtain ⟨q70, hq70, hE⟩ := x_bind hE
            refine i_X6_84 hB hz kdX_0 (c_X6_found l g  hq70) ⟨(Nat.le_of_ble_eq_true rfl), (Nat.le_of_ble_eq_true rfl)⟩ hl.1 (Nat.le_of_ble_eq_true rfl) dX6_copy_70 (fun H locs hz => ?_)
            exact x_iret hB hz hE dX6_copy_73
        · have hE := (if_neg c46).symm.trans hE
          exact w_X6_copy_49 hB   _ _ _ _  hE hz (lv_sub hl [2] rfl)
    · have hE := (if_pos c11).symm.trans hE
      refine lv_ldc (v := (-1000001 : Int32)) hx hb hown (hT _ kw_264) dX6_copy_14 ?_
      exact x_iret hB hz hE dX6_copy_16
theorem c_X6_copy (l : Launch) (g : GP) {x1 : Int32} {x2 : Int32} {x3 : Int32} {x4 : Int32} {x5 : Int32} {V : Mem} {o : Int32 × Mem} (hE : f_X6_copy x1 x2 x3 x4 x5 V = some o) : CT l g LX yX6_copy cX6_copy 8 (some .int) rm_X6_copy [.ref (ad g 0), .int x1, .int x2, .int x3, .int x4, .int x5] V (some (.int o.1)) o.2 := by
  refine ct_of (by decide) (Nat.le_of_ble_eq_true rfl) ?_
  intro p e s m args below meth c ls hB hz hl
  exact w_X6_copy hB _ _ _ _ _ _ _ _ _  hE hz hl
def rm_X6_drop : Room := { frames := 2, cells := 0, slots := 0, locals := 45 }
set_option maxHeartbeats 4000000 in
set_option maxRecDepth 100000 in
theorem w_X6_drop {p : Program} {l : Launch} {e : Env} {s : State} {m : MethodId} {args : Array Value} {below : List Frame} {meth : Method} {c : Code} {g : GP} (hB : BX p s m args meth c g LX cX6_drop 4 RX6 (some .int)) {o : Int32 × Mem} : ∀ (x1 : Int32) (V : Mem) (H : Heap) (locs : List Loc) (ls : Array Slot), f_X6_drop x1 V = some o → OK g LX V s H locs → lv_has ls 4 [(0, .ref (ad g 0)), (1, .int x1)] → W p l e rm_X6_drop s m args below meth c H locs 0 0 (MQ below (QQ g LX (some (.int o.1)) o.2) args s 0 0 (Ar g LX)) (F0 m 0 ls []) := by
  obtain ⟨hx, hb, hml, hown, hT, hr, hlk, hK, hJ, hZ, hN⟩ := id hB
  intro x1 V H locs ls hE hz hl
  unfold f_X6_drop at hE
  refine lv_iload_n hx hb dX6_drop_0 rfl (lv_at hl 1 rfl) ?_
  obtain ⟨q1, hq1, hE⟩ := x_bind hE
  refine i_X6_75 hB hz (c_X6_isRow l g  hq1) ⟨(Nat.le_of_ble_eq_true rfl), (Nat.le_of_ble_eq_true rfl)⟩ hl.1 (Nat.le_of_ble_eq_true rfl) dX6_drop_1 (fun H locs hz => ?_)
  refine lv_if_ne (tgt := 10) hx hb dX6_drop_4 (by decide) (fun c4 => ?_) (fun c4 => ?_)
  · have hE := (if_neg c4).symm.trans hE
    refine lv_aload_n hx hb dX6_drop_10 rfl (lv_at hl 0 rfl) ?_
    refine g_X6_11 hB hz kdX_0 dX6_drop_11 ?_
    refine lv_iload_n hx hb dX6_drop_14 rfl (lv_at hl 1 rfl) ?_
    obtain ⟨hi15, hE⟩ := x_chk hE
    refine x_aalR hB hz kdX_1 hi15 dX6_drop_15 ?_
    refine lv_astore_n (lv' := [(2, .ref (ad g (99 + 2 * (x1).toNatClampNeg))), (0, .ref (ad g 0)), (1, .int x1)]) hx hb dX6_drop_16 rfl hl (by decide) rfl (fun ls hl => ?_)
    refine lv_aload_n hx hb dX6_drop_17 rfl (lv_at hl 0 rfl) ?_
    obtain ⟨q18, hq18, hE⟩ := x_bind hE
    refine i_X6_105 hB hz (kd_rw hi15) (c_X2_isMissing l g (kd_rw hi15) hq18) ⟨(Nat.le_of_ble_eq_true rfl), (Nat.le_of_ble_eq_true rfl)⟩ hl.1 (Nat.le_of_ble_eq_true rfl) dX6_drop_18 (fun H locs hz => ?_)
    refine lv_if_eq (tgt := 30) hx hb dX6_drop_21 (by decide) (fun c21 => ?_) (fun c21 => ?_)
    · have hE := (if_pos c21).symm.trans hE
      refine lv_aload_n hx hb dX6_drop_30 rfl (lv_at hl 0 rfl) ?_
      refine g_X6_122 hB hz (kd_rw hi15) dX6_drop_31 ?_
      refine lv_istore_n (lv' := [(3, .int (q18.2 (99 + 2 * (x1).toNatClampNeg) 2)), (2, .ref (ad g (99 + 2 * (x1).toNatClampNeg))), (0, .ref (ad g 0)), (1, .int x1)]) hx hb dX6_drop_34 rfl hl (by decide) rfl (fun ls hl => ?_)
      refine lv_aload_n hx hb dX6_drop_35 rfl (lv_at hl 1 rfl) ?_
      refine lv_iconst (v := (-1 : Int32)) hx hb dX6_drop_36 (by decide) ?_
      refine lv_iconst (v := (0 : Int32)) hx hb dX6_drop_37 (by decide) ?_
      obtain ⟨q38, hq38, hE⟩ := x_bind hE
      refine i_X6_88 hB hz (kd_rw hi15) (c_X2_become l g (kd_rw hi15) hq38) ⟨(Nat.le_of_ble_eq_true rfl), (Nat.le_of_ble_eq_true rfl)⟩ hl.1 (Nat.le_of_ble_eq_true rfl) dX6_drop_38 (fun H locs hz => ?_)
      refine lv_aload_n hx hb dX6_drop_41 rfl (lv_at hl 2 rfl) ?_
      refine lv_iload_n hx hb dX6_drop_42 rfl (lv_at hl 0 rfl) ?_
      obtain ⟨q43, hq43, hE⟩ := x_bind hE
      refine i_X6_92 hB hz kdX_0 (c_X6_foundNothing l g  hq43) ⟨(Nat.le_of_ble_eq_true rfl), (Nat.le_of_ble_eq_true rfl)⟩ hl.1 (Nat.le_of_ble_eq_true rfl) dX6_drop_43 (fun H locs hz => ?_)
      exact x_iret hB hz hE dX6_drop_46
    · have hE := (if_neg c21).symm.trans hE
      refine lv_aload_n hx hb dX6_drop_24 rfl (lv_at hl 1 rfl) ?_
      refine lv_iconst (v := (1 : Int32)) hx hb dX6_drop_25 (by decide) ?_
      obtain ⟨q26, hq26, hE⟩ := x_bind hE
      refine i_X6_84 hB hz kdX_0 (c_X6_found l g  hq26) ⟨(Nat.le_of_ble_eq_true rfl), (Nat.le_of_ble_eq_true rfl)⟩ hl.1 (Nat.le_of_ble_eq_true rfl) dX6_drop_26 (fun H locs hz => ?_)
      exact x_iret hB hz hE dX6_drop_29
  · have hE := (if_pos c4).symm.trans hE
    refine lv_ldc (v := (-1000001 : Int32)) hx hb hown (hT _ kw_264) dX6_drop_7 ?_
    exact x_iret hB hz hE dX6_drop_9
theorem c_X6_drop (l : Launch) (g : GP) {x1 : Int32} {V : Mem} {o : Int32 × Mem} (hE : f_X6_drop x1 V = some o) : CT l g LX yX6_drop cX6_drop 4 (some .int) rm_X6_drop [.ref (ad g 0), .int x1] V (some (.int o.1)) o.2 := by
  refine ct_of (by decide) (Nat.le_of_ble_eq_true rfl) ?_
  intro p e s m args below meth c ls hB hz hl
  exact w_X6_drop hB _ _ _ _ _  hE hz hl
def rm_X6_feed : Room := { frames := 1, cells := 0, slots := 0, locals := 22 }
set_option maxHeartbeats 4000000 in
set_option maxRecDepth 100000 in
theorem w_X6_feed {p : Program} {l : Launch} {e : Env} {s : State} {m : MethodId} {args : Array Value} {below : List Frame} {meth : Method} {c : Code} {g : GP} (hB : BX p s m args meth c g LX cX6_feed 2 RX6 (some .int)) {o : Int32 × Mem} : ∀ (x1 : Int32) (V : Mem) (H : Heap) (locs : List Loc) (ls : Array Slot), f_X6_feed x1 V = some o → OK g LX V s H locs → lv_has ls 2 [(0, .ref (ad g 0)), (1, .int x1)] → W p l e rm_X6_feed s m args below meth c H locs 0 0 (MQ below (QQ g LX (some (.int o.1)) o.2) args s 0 0 (Ar g LX)) (F0 m 0 ls []) := by
  obtain ⟨hx, hb, hml, hown, hT, hr, hlk, hK, hJ, hZ, hN⟩ := id hB
  intro x1 V H locs ls hE hz hl
  unfold f_X6_feed at hE
  refine lv_iload_n hx hb dX6_feed_0 rfl (lv_at hl 1 rfl) ?_
  refine lv_iconst (v := (0 : Int32)) hx hb dX6_feed_1 (by decide) ?_
  refine lv_sipush (v := (255 : Int32)) hx hb dX6_feed_2 (by decide) ?_
  obtain ⟨q5, hq5, hE⟩ := x_bind hE
  refine i_X6_79 hB hz (c_X6_isBetween l g  hq5) ⟨(Nat.le_of_ble_eq_true rfl), (Nat.le_of_ble_eq_true rfl)⟩ hl.1 (Nat.le_of_ble_eq_true rfl) dX6_feed_5 (fun H locs hz => ?_)
  refine lv_if_ne (tgt := 14) hx hb dX6_feed_8 (by decide) (fun c8 => ?_) (fun c8 => ?_)
  · have hE := (if_neg c8).symm.trans hE
    refine lv_aload_n hx hb dX6_feed_14 rfl (lv_at hl 0 rfl) ?_
    refine g_X6_18 hB hz kdX_0 dX6_feed_15 ?_
    refine g_X6_125 hB hz kdX_2 dX6_feed_18 ?_
    refine lv_sipush (v := (130 : Int32)) hx hb dX6_feed_21 (by decide) ?_
    refine lv_icmp_lt (tgt := 30) hx hb dX6_feed_24 (by decide) (fun c24 => ?_) (fun c24 => ?_)
    · have hE := (if_pos c24).symm.trans hE
      refine lv_aload_n hx hb dX6_feed_30 rfl (lv_at hl 0 rfl) ?_
      refine g_X6_18 hB hz kdX_0 dX6_feed_31 ?_
      refine g_X6_129 hB hz kdX_2 dX6_feed_34 ?_
      refine lv_aload_n hx hb dX6_feed_37 rfl (lv_at hl 0 rfl) ?_
      refine g_X6_18 hB hz kdX_0 dX6_feed_38 ?_
      refine g_X6_125 hB hz kdX_2 dX6_feed_41 ?_
      refine lv_iload_n hx hb dX6_feed_44 rfl (lv_at hl 1 rfl) ?_
      obtain ⟨hi45, hE⟩ := x_chk hE
      refine x_iast (n := 130) hB hz kdX_3 hi45 dX6_feed_45 (fun H locs hz => ?_)
      refine lv_aload_n hx hb dX6_feed_46 rfl (lv_at hl 0 rfl) ?_
      refine g_X6_18 hB hz kdX_0 dX6_feed_47 ?_
      refine lv_dup hx hb dX6_feed_50 rfl ?_
      refine g_X6_125 hB hz kdX_2 dX6_feed_51 ?_
      refine lv_iconst (v := (1 : Int32)) hx hb dX6_feed_54 (by decide) ?_
      refine lv_iadd hx hb dX6_feed_55 ?_
      refine p_X6_125 hB hz kdX_2 dX6_feed_56 (fun H locs hz => ?_)
      refine lv_aload_n hx hb dX6_feed_59 rfl (lv_at hl 0 rfl) ?_
      refine g_X6_18 hB hz kdX_0 dX6_feed_60 ?_
      refine g_X6_125 hB hz kdX_2 dX6_feed_63 ?_
      exact x_iret hB hz hE dX6_feed_66
    · have hE := (if_neg c24).symm.trans hE
      refine lv_ldc (v := (-1000003 : Int32)) hx hb hown (hT _ kw_318) dX6_feed_27 ?_
      exact x_iret hB hz hE dX6_feed_29
  · have hE := (if_pos c8).symm.trans hE
    refine lv_ldc (v := (-1000001 : Int32)) hx hb hown (hT _ kw_264) dX6_feed_11 ?_
    exact x_iret hB hz hE dX6_feed_13
theorem c_X6_feed (l : Launch) (g : GP) {x1 : Int32} {V : Mem} {o : Int32 × Mem} (hE : f_X6_feed x1 V = some o) : CT l g LX yX6_feed cX6_feed 2 (some .int) rm_X6_feed [.ref (ad g 0), .int x1] V (some (.int o.1)) o.2 := by
  refine ct_of (by decide) (Nat.le_of_ble_eq_true rfl) ?_
  intro p e s m args below meth c ls hB hz hl
  exact w_X6_feed hB _ _ _ _ _  hE hz hl
def rm_X6_sheet : Room := { frames := 6, cells := 0, slots := 0, locals := 194 }
theorem i_X6_132 {p : Program} {l : Launch} {e : Env} {R : Room} {s : State} {m : MethodId} {args : Array Value} {below : List Frame} {meth : Method} {c : Code} {H : Heap} {locs : List Loc} {Q : State → Prop} {cc : ByteArray} {pc : Nat} {ls : Array Slot} {rest : List Value} {g : GP} {V : Mem} {nL : Nat} {ret : Option FieldType} (hB : BX p s m args meth c g LX cc nL RX6 ret) (hz : OK g LX V s H locs) {i : Nat} (hk : KD LX i 4) {a0 : Nat} {r : Int32} {V1 : Mem} (hM : CT l g LX yX5_readInto cX5_readInto 3 (some .int) rm_X5_readInto [.ref (ad g i), .ref (ad g a0)] V (some (.int r)) V1) (hR : rm_X5_readInto.frames + 1 ≤ R.frames ∧ 8 + (3 + 11) + rm_X5_readInto.locals ≤ R.locals) (hsz : ls.size = nL) (hrest : (rest.map fun v => v.category).sum ≤ 8) (hdg : decode cc pc = .ok (.invokevirtual 132, 3)) (kk : ∀ (H1 : Heap) (locs1 : List Loc), OK g LX V1 s H1 locs1 → W p l e R s m args below meth c H1 locs1 0 0 Q (F0 m (pc + 3) ls (.int r :: rest))) : W p l e R s m args below meth c H locs 0 0 Q (F0 m pc ls (.ref (ad g a0) :: .ref (ad g i) :: rest)) :=
  x_cv (As := [.ref (ad g a0)]) (n := 1) (T := TX5) (N := 7) hB hz hM hk rfl rfl rfl rfl kw_326 kw_63 kw_323 kw_324 kw_325 (by decide +kernel) rfl hR hsz hrest hdg kk
theorem i_X6_140 {p : Program} {l : Launch} {e : Env} {R : Room} {s : State} {m : MethodId} {args : Array Value} {below : List Frame} {meth : Method} {c : Code} {H : Heap} {locs : List Loc} {Q : State → Prop} {cc : ByteArray} {pc : Nat} {ls : Array Slot} {rest : List Value} {g : GP} {V : Mem} {nL : Nat} {ret : Option FieldType} (hB : BX p s m args meth c g LX cc nL RX6 ret) (hz : OK g LX V s H locs) {i : Nat} (hk : KD LX i 2) {a0 : Nat} {V1 : Mem} (hM : CT l g LX yX3_become cX3_become 2 none rm_X3_become [.ref (ad g i), .ref (ad g a0)] V none V1) (hR : rm_X3_become.frames + 1 ≤ R.frames ∧ 8 + (2 + 11) + rm_X3_become.locals ≤ R.locals) (hsz : ls.size = nL) (hrest : (rest.map fun v => v.category).sum ≤ 8) (hdg : decode cc pc = .ok (.invokevirtual 140, 3)) (kk : ∀ (H1 : Heap) (locs1 : List Loc), OK g LX V1 s H1 locs1 → W p l e R s m args below meth c H1 locs1 0 0 Q (F0 m (pc + 3) ls (rest))) : W p l e R s m args below meth c H locs 0 0 Q (F0 m pc ls (.ref (ad g a0) :: .ref (ad g i) :: rest)) :=
  x_cv (As := [.ref (ad g a0)]) (n := 1) (T := TX3) (N := 7) hB hz hM hk rfl rfl rfl rfl kw_388 kw_64 kw_385 kw_386 kw_387 (by decide +kernel) rfl hR hsz hrest hdg kk
theorem i_X6_143 {p : Program} {l : Launch} {e : Env} {R : Room} {s : State} {m : MethodId} {args : Array Value} {below : List Frame} {meth : Method} {c : Code} {H : Heap} {locs : List Loc} {Q : State → Prop} {cc : ByteArray} {pc : Nat} {ls : Array Slot} {rest : List Value} {g : GP} {V : Mem} {nL : Nat} {ret : Option FieldType} (hB : BX p s m args meth c g LX cc nL RX6 ret) (hz : OK g LX V s H locs) {i : Nat} (hk : KD LX i 0) {V1 : Mem} (hM : CT l g LX yX0_forgetAll cX0_forgetAll 1 none rm_X0_forgetAll [.ref (ad g i)] V none V1) (hR : rm_X0_forgetAll.frames + 1 ≤ R.frames ∧ 8 + (1 + 11) + rm_X0_forgetAll.locals ≤ R.locals) (hsz : ls.size = nL) (hrest : (rest.map fun v => v.category).sum ≤ 8) (hdg : decode cc pc = .ok (.invokevirtual 143, 3)) (kk : ∀ (H1 : Heap) (locs1 : List Loc), OK g LX V1 s H1 locs1 → W p l e R s m args below meth c H1 locs1 0 0 Q (F0 m (pc + 3) ls (rest))) : W p l e R s m args below meth c H locs 0 0 Q (F0 m pc ls (.ref (ad g i) :: rest)) :=
  x_cv (As := []) (n := 0) (T := TX0) (N := 3) hB hz hM hk rfl rfl rfl rfl kw_392 kw_65 kw_389 kw_390 kw_391 (by decide +kernel) rfl hR hsz hrest hdg kk
set_option maxHeartbeats 4000000 in
set_option maxRecDepth 100000 in
theorem w_X6_sheet {p : Program} {l : Launch} {e : Env} {s : State} {m : MethodId} {args : Array Value} {below : List Frame} {meth : Method} {c : Code} {g : GP} (hB : BX p s m args meth c g LX cX6_sheet 2 RX6 (some .int)) {o : Int32 × Mem} : ∀ (V : Mem) (H : Heap) (locs : List Loc) (ls : Array Slot), f_X6_sheet V = some o → OK g LX V s H locs → lv_has ls 2 [(0, .ref (ad g 0))] → W p l e rm_X6_sheet s m args below meth c H locs 0 0 (MQ below (QQ g LX (some (.int o.1)) o.2) args s 0 0 (Ar g LX)) (F0 m 0 ls []) := by
  obtain ⟨hx, hb, hml, hown, hT, hr, hlk, hK, hJ, hZ, hN⟩ := id hB
  intro V H locs ls hE hz hl
  unfold f_X6_sheet at hE
  refine lv_aload_n hx hb dX6_sheet_0 rfl (lv_at hl 0 rfl) ?_
  refine g_X6_18 hB hz kdX_0 dX6_sheet_1 ?_
  refine lv_aload_n hx hb dX6_sheet_4 rfl (lv_at hl 0 rfl) ?_
  refine g_X6_29 hB hz kdX_0 dX6_sheet_5 ?_
  obtain ⟨q8, hq8, hE⟩ := x_bind hE
  refine i_X6_132 hB hz kdX_2 (c_X5_readInto l g kdX_2 kdX_35 hq8) ⟨(Nat.le_of_ble_eq_true rfl), (Nat.le_of_ble_eq_true rfl)⟩ hl.1 (Nat.le_of_ble_eq_true rfl) dX6_sheet_8 (fun H locs hz => ?_)
  refine lv_istore_n (lv' := [(1, .int q8.1), (0, .ref (ad g 0))]) hx hb dX6_sheet_11 rfl hl (by decide) rfl (fun ls hl => ?_)
  refine lv_aload_n hx hb dX6_sheet_12 rfl (lv_at hl 1 rfl) ?_
  refine g_X6_18 hB hz kdX_0 dX6_sheet_13 ?_
  refine lv_iconst (v := (0 : Int32)) hx hb dX6_sheet_16 (by decide) ?_
  refine p_X6_125 hB hz kdX_2 dX6_sheet_17 (fun H locs hz => ?_)
  refine lv_iload_n hx hb dX6_sheet_20 rfl (lv_at hl 0 rfl) ?_
  refine lv_if_eq (tgt := 40) hx hb dX6_sheet_21 (by decide) (fun c21 => ?_) (fun c21 => ?_)
  · have hE := (if_pos c21).symm.trans hE
    refine lv_aload_n hx hb dX6_sheet_40 rfl (lv_at hl 1 rfl) ?_
    refine g_X6_25 hB hz kdX_0 dX6_sheet_41 ?_
    refine lv_aload_n hx hb dX6_sheet_44 rfl (lv_at hl 1 rfl) ?_
    refine g_X6_29 hB hz kdX_0 dX6_sheet_45 ?_
    obtain ⟨q48, hq48, hE⟩ := x_bind hE
    refine i_X6_140 hB hz kdX_4 (c_X3_become l g kdX_4 kdX_35 hq48) ⟨(Nat.le_of_ble_eq_true rfl), (Nat.le_of_ble_eq_true rfl)⟩ hl.1 (Nat.le_of_ble_eq_true rfl) dX6_sheet_48 (fun H locs hz => ?_)
    refine lv_aload_n hx hb dX6_sheet_51 rfl (lv_at hl 1 rfl) ?_
    refine g_X6_39 hB hz kdX_0 dX6_sheet_52 ?_
    obtain ⟨q55, hq55, hE⟩ := x_bind hE
    refine i_X6_143 hB hz kdX_67 (c_X0_forgetAll l g kdX_67 hq55) ⟨(Nat.le_of_ble_eq_true rfl), (Nat.le_of_ble_eq_true rfl)⟩ hl.1 (Nat.le_of_ble_eq_true rfl) dX6_sheet_55 (fun H locs hz => ?_)
    refine lv_aload_n hx hb dX6_sheet_58 rfl (lv_at hl 1 rfl) ?_
    refine g_X6_25 hB hz kdX_0 dX6_sheet_59 ?_
    refine g_X6_146 hB hz kdX_4 dX6_sheet_62 ?_
    exact x_iret hB hz hE dX6_sheet_65
  · have hE := (if_neg c21).symm.trans hE
    refine lv_aload_n hx hb dX6_sheet_24 rfl (lv_at hl 1 rfl) ?_
    refine lv_iload_n hx hb dX6_sheet_25 rfl (lv_at hl 0 rfl) ?_
    refine p_X6_71 hB hz kdX_0 dX6_sheet_26 (fun H locs hz => ?_)
    refine lv_ldc (v := (-1000100 : Int32)) hx hb hown (hT _ kw_384) dX6_sheet_29 ?_
    refine lv_aload_n hx hb dX6_sheet_31 rfl (lv_at hl 1 rfl) ?_
    refine g_X6_18 hB hz kdX_0 dX6_sheet_32 ?_
    refine g_X6_137 hB hz kdX_2 dX6_sheet_35 ?_
    refine lv_isub hx hb dX6_sheet_38 ?_
    exact x_iret hB hz hE dX6_sheet_39
theorem c_X6_sheet (l : Launch) (g : GP) {V : Mem} {o : Int32 × Mem} (hE : f_X6_sheet V = some o) : CT l g LX yX6_sheet cX6_sheet 2 (some .int) rm_X6_sheet [.ref (ad g 0)] V (some (.int o.1)) o.2 := by
  refine ct_of (by decide) (Nat.le_of_ble_eq_true rfl) ?_
  intro p e s m args below meth c ls hB hz hl
  exact w_X6_sheet hB  _ _ _ _  hE hz hl
def rm_X6_fault : Room := { frames := 0, cells := 0, slots := 0, locals := 0 }
set_option maxHeartbeats 4000000 in
set_option maxRecDepth 100000 in
theorem w_X6_fault {p : Program} {l : Launch} {e : Env} {s : State} {m : MethodId} {args : Array Value} {below : List Frame} {meth : Method} {c : Code} {g : GP} (hB : BX p s m args meth c g LX cX6_fault 1 RX6 (some .int)) {o : Int32 × Mem} : ∀ (V : Mem) (H : Heap) (locs : List Loc) (ls : Array Slot), f_X6_fault V = some o → OK g LX V s H locs → lv_has ls 1 [(0, .ref (ad g 0))] → W p l e rm_X6_fault s m args below meth c H locs 0 0 (MQ below (QQ g LX (some (.int o.1)) o.2) args s 0 0 (Ar g LX)) (F0 m 0 ls []) := by
  obtain ⟨hx, hb, hml, hown, hT, hr, hlk, hK, hJ, hZ, hN⟩ := id hB
  intro V H locs ls hE hz hl
  unfold f_X6_fault at hE
  refine lv_aload_n hx hb dX6_fault_0 rfl (lv_at hl 0 rfl) ?_
  refine g_X6_71 hB hz kdX_0 dX6_fault_1 ?_
  exact x_iret hB hz hE dX6_fault_4
theorem c_X6_fault (l : Launch) (g : GP) {V : Mem} {o : Int32 × Mem} (hE : f_X6_fault V = some o) : CT l g LX yX6_fault cX6_fault 1 (some .int) rm_X6_fault [.ref (ad g 0)] V (some (.int o.1)) o.2 := by
  refine ct_of (by decide) (Nat.le_of_ble_eq_true rfl) ?_
  intro p e s m args below meth c ls hB hz hl
  exact w_X6_fault hB  _ _ _ _  hE hz hl
def rm_X6_undo : Room := { frames := 5, cells := 0, slots := 0, locals := 196 }
theorem i_X6_149 {p : Program} {l : Launch} {e : Env} {R : Room} {s : State} {m : MethodId} {args : Array Value} {below : List Frame} {meth : Method} {c : Code} {H : Heap} {locs : List Loc} {Q : State → Prop} {cc : ByteArray} {pc : Nat} {ls : Array Slot} {rest : List Value} {g : GP} {V : Mem} {nL : Nat} {ret : Option FieldType} (hB : BX p s m args meth c g LX cc nL RX6 ret) (hz : OK g LX V s H locs) {i : Nat} (hk : KD LX i 0) {a0 : Nat} {V1 : Mem} (hM : CT l g LX yX0_undoLatest cX0_undoLatest 4 none rm_X0_undoLatest [.ref (ad g i), .ref (ad g a0)] V none V1) (hR : rm_X0_undoLatest.frames + 1 ≤ R.frames ∧ 8 + (4 + 11) + rm_X0_undoLatest.locals ≤ R.locals) (hsz : ls.size = nL) (hrest : (rest.map fun v => v.category).sum ≤ 8) (hdg : decode cc pc = .ok (.invokevirtual 149, 3)) (kk : ∀ (H1 : Heap) (locs1 : List Loc), OK g LX V1 s H1 locs1 → W p l e R s m args below meth c H1 locs1 0 0 Q (F0 m (pc + 3) ls (rest))) : W p l e R s m args below meth c H locs 0 0 Q (F0 m pc ls (.ref (ad g a0) :: .ref (ad g i) :: rest)) :=
  x_cv (As := [.ref (ad g a0)]) (n := 1) (T := TX0) (N := 3) hB hz hM hk rfl rfl rfl rfl kw_405 kw_65 kw_402 kw_403 kw_404 (by decide +kernel) rfl hR hsz hrest hdg kk
set_option maxHeartbeats 4000000 in
set_option maxRecDepth 100000 in
theorem w_X6_undo {p : Program} {l : Launch} {e : Env} {s : State} {m : MethodId} {args : Array Value} {below : List Frame} {meth : Method} {c : Code} {g : GP} (hB : BX p s m args meth c g LX cX6_undo 1 RX6 (some .int)) {o : Int32 × Mem} : ∀ (V : Mem) (H : Heap) (locs : List Loc) (ls : Array Slot), f_X6_undo V = some o → OK g LX V s H locs → lv_has ls 1 [(0, .ref (ad g 0))] → W p l e rm_X6_undo s m args below meth c H locs 0 0 (MQ below (QQ g LX (some (.int o.1)) o.2) args s 0 0 (Ar g LX)) (F0 m 0 ls []) := by
  obtain ⟨hx, hb, hml, hown, hT, hr, hlk, hK, hJ, hZ, hN⟩ := id hB
  intro V H locs ls hE hz hl
  unfold f_X6_undo at hE
  refine lv_aload_n hx hb dX6_undo_0 rfl (lv_at hl 0 rfl) ?_
  refine g_X6_39 hB hz kdX_0 dX6_undo_1 ?_
  refine g_X6_147 hB hz kdX_67 dX6_undo_4 ?_
  refine lv_if_ne (tgt := 13) hx hb dX6_undo_7 (by decide) (fun c7 => ?_) (fun c7 => ?_)
  · have hE := (if_neg c7).symm.trans hE
    refine lv_aload_n hx hb dX6_undo_13 rfl (lv_at hl 0 rfl) ?_
    refine g_X6_39 hB hz kdX_0 dX6_undo_14 ?_
    refine lv_aload_n hx hb dX6_undo_17 rfl (lv_at hl 0 rfl) ?_
    refine g_X6_25 hB hz kdX_0 dX6_undo_18 ?_
    obtain ⟨q21, hq21, hE⟩ := x_bind hE
    refine i_X6_149 hB hz kdX_67 (c_X0_undoLatest l g kdX_67 kdX_4 hq21) ⟨(Nat.le_of_ble_eq_true rfl), (Nat.le_of_ble_eq_true rfl)⟩ hl.1 (Nat.le_of_ble_eq_true rfl) dX6_undo_21 (fun H locs hz => ?_)
    refine lv_aload_n hx hb dX6_undo_24 rfl (lv_at hl 0 rfl) ?_
    refine g_X6_39 hB hz kdX_0 dX6_undo_25 ?_
    refine g_X6_147 hB hz kdX_67 dX6_undo_28 ?_
    exact x_iret hB hz hE dX6_undo_31
  · have hE := (if_pos c7).symm.trans hE
    refine lv_ldc (v := (-1000002 : Int32)) hx hb hown (hT _ kw_401) dX6_undo_10 ?_
    exact x_iret hB hz hE dX6_undo_12
theorem c_X6_undo (l : Launch) (g : GP) {V : Mem} {o : Int32 × Mem} (hE : f_X6_undo V = some o) : CT l g LX yX6_undo cX6_undo 1 (some .int) rm_X6_undo [.ref (ad g 0)] V (some (.int o.1)) o.2 := by
  refine ct_of (by decide) (Nat.le_of_ble_eq_true rfl) ?_
  intro p e s m args below meth c ls hB hz hl
  exact w_X6_undo hB  _ _ _ _  hE hz hl
def rm_X6_isLevel : Room := { frames := 1, cells := 0, slots := 0, locals := 22 }
set_option maxHeartbeats 4000000 in
set_option maxRecDepth 100000 in
theorem w_X6_isLevel {p : Program} {l : Launch} {e : Env} {s : State} {m : MethodId} {args : Array Value} {below : List Frame} {meth : Method} {c : Code} {g : GP} (hB : BX p s m args meth c g LX cX6_isLevel 1 RX6 (some .boolean)) {o : Int32 × Mem} : ∀ (x0 : Int32) (V : Mem) (H : Heap) (locs : List Loc) (ls : Array Slot), f_X6_isLevel x0 V = some o → OK g LX V s H locs → lv_has ls 1 [(0, .int x0)] → W p l e rm_X6_isLevel s m args below meth c H locs 0 0 (MQ below (QQ g LX (some (.int o.1)) o.2) args s 0 0 (Ar g LX)) (F0 m 0 ls []) := by
  obtain ⟨hx, hb, hml, hown, hT, hr, hlk, hK, hJ, hZ, hN⟩ := id hB
  intro x0 V H locs ls hE hz hl
  unfold f_X6_isLevel at hE
  refine lv_iload_n hx hb dX6_isLevel_0 rfl (lv_at hl 0 rfl) ?_
  refine lv_iconst (v := (0 : Int32)) hx hb dX6_isLevel_1 (by decide) ?_
  refine lv_iconst (v := (2 : Int32)) hx hb dX6_isLevel_2 (by decide) ?_
  obtain ⟨q3, hq3, hE⟩ := x_bind hE
  refine i_X6_79 hB hz (c_X6_isBetween l g  hq3) ⟨(Nat.le_of_ble_eq_true rfl), (Nat.le_of_ble_eq_true rfl)⟩ hl.1 (Nat.le_of_ble_eq_true rfl) dX6_isLevel_3 (fun H locs hz => ?_)
  obtain ⟨hv6, hE⟩ := x_if hE
  exact x_zret hB hz hE hv6 dX6_isLevel_6
theorem c_X6_isLevel (l : Launch) (g : GP) {x0 : Int32} {V : Mem} {o : Int32 × Mem} (hE : f_X6_isLevel x0 V = some o) : CT l g LX yX6_isLevel cX6_isLevel 1 (some .boolean) rm_X6_isLevel [.int x0] V (some (.int o.1)) o.2 := by
  refine ct_of (by decide) (Nat.le_of_ble_eq_true rfl) ?_
  intro p e s m args below meth c ls hB hz hl
  exact w_X6_isLevel hB _ _ _ _ _  hE hz hl

def rm_X6_answerOf_L0 : Room := { frames := 0, cells := 0, slots := 0, locals := 0 }
theorem c_X6_answerOf_L0 (l : Launch) (g : GP) {x1 x2 x3 : Int32} {V : Mem} {o : Int32 × Mem} (hE : f_X6_answerOf_L0 x1 x2 x3 V = some o) : CT l g LX yX6_answerOf cX6_answerOf 5 (some .int) rm_X6_answerOf_L0 [.ref (ad g 0), .int x1, .int x2, .int x3] V (some (.int o.1)) o.2 := by
  cases hE
def rm_X6_answerTo_L0 : Room := { frames := 1, cells := 0, slots := 0, locals := 24 }
theorem i_X6_320_L0 {p : Program} {l : Launch} {e : Env} {R : Room} {s : State} {m : MethodId} {args : Array Value} {below : List Frame} {meth : Method} {c : Code} {H : Heap} {locs : List Loc} {Q : State → Prop} {cc : ByteArray} {pc : Nat} {ls : Array Slot} {rest : List Value} {g : GP} {V : Mem} {nL : Nat} {ret : Option FieldType} (hB : BX p s m args meth c g LX cc nL RX6 ret) (hz : OK g LX V s H locs) {i : Nat} (hk : KD LX i 5) {a0 : Int32} {a1 : Int32} {a2 : Int32} {r : Int32} {V1 : Mem} (hM : CT l g LX yX6_answerOf cX6_answerOf 5 (some .int) rm_X6_answerOf_L0 [.ref (ad g i), .int a0, .int a1, .int a2] V (some (.int r)) V1) (hR : rm_X6_answerOf_L0.frames + 1 ≤ R.frames ∧ 8 + (5 + 11) + rm_X6_answerOf_L0.locals ≤ R.locals) (hsz : ls.size = nL) (hrest : (rest.map fun v => v.category).sum ≤ 8) (hdg : decode cc pc = .ok (.invokevirtual 320, 3)) (kk : ∀ (H1 : Heap) (locs1 : List Loc), OK g LX V1 s H1 locs1 → W p l e R s m args below meth c H1 locs1 0 0 Q (F0 m (pc + 3) ls (.int r :: rest))) : W p l e R s m args below meth c H locs 0 0 Q (F0 m pc ls (.int a2 :: .int a1 :: .int a0 :: .ref (ad g i) :: rest)) :=
  x_cv (As := [.int a0, .int a1, .int a2]) (n := 3) (T := TX6) (N := 14) hB hz hM hk rfl rfl rfl rfl kw_695 kw_62 kw_692 kw_694 kw_20 (by decide +kernel) rfl hR hsz hrest hdg kk
set_option maxHeartbeats 4000000 in
set_option maxRecDepth 100000 in
theorem w_X6_answerTo_L0_63_t3 {p : Program} {l : Launch} {e : Env} {s : State} {m : MethodId} {args : Array Value} {below : List Frame} {meth : Method} {c : Code} {g : GP} (hB : BX p s m args meth c g LX cX6_answerTo 7 RX6 (some .int)) {o : Int32 × Mem} : ∀ (x2 : Int32) (x3 : Int32) (x5 : Int32) (V : Mem) (H : Heap) (locs : List Loc) (ls : Array Slot), f_X6_answerTo_L0_63_t3 x2 x3 x5 V = some o → OK g LX V s H locs → lv_has ls 7 [(0, .ref (ad g 0)), (2, .int x2), (3, .int x3), (4, .ref (sa g 3)), (5, .int x5)] → W p l e rm_X6_answerTo_L0 s m args below meth c H locs 0 0 (MQ below (QQ g LX (some (.int o.1)) o.2) args s 0 0 (Ar g LX)) (F0 m 63 ls []) := by
  obtain ⟨hx, hb, hml, hown, hT, hr, hlk, hK, hJ, hZ, hN⟩ := id hB
  intro x2 x3 x5 V H locs ls hE hz hl
  unfold f_X6_answerTo_L0_63_t3 at hE
  refine lv_aload_n hx hb dX6_answerTo_63 rfl (lv_at hl 0 rfl) ?_
  refine lv_aload hx hb dX6_answerTo_64 (lv_at hl 3 rfl) ?_
  refine lv_iload hx hb dX6_answerTo_66 (lv_at hl 4 rfl) ?_
  obtain ⟨hi68, hE⟩ := x_chk hE
  refine x_sti (k := 3) (by decide) rfl hB hz hi68 dX6_answerTo_68 ?_
  refine lv_iload_n hx hb dX6_answerTo_69 rfl (lv_at hl 1 rfl) ?_
  refine lv_iload_n hx hb dX6_answerTo_70 rfl (lv_at hl 2 rfl) ?_
  refine lv_iconst (v := (1 : Int32)) hx hb dX6_answerTo_71 (by decide) ?_
  refine lv_iadd hx hb dX6_answerTo_72 ?_
  obtain ⟨q73, hq73, hE⟩ := x_bind hE
  refine i_X6_320_L0 hB hz kdX_0 (c_X6_answerOf_L0 l g  hq73) ⟨(Nat.le_of_ble_eq_true rfl), (Nat.le_of_ble_eq_true rfl)⟩ hl.1 (Nat.le_of_ble_eq_true rfl) dX6_answerTo_73 (fun H locs hz => ?_)
  exact x_iret hB hz hE dX6_answerTo_76

set_option maxHeartbeats 4000000 in
set_option maxRecDepth 100000 in
theorem w_X6_answerTo_L0_29_t3 {p : Program} {l : Launch} {e : Env} {s : State} {m : MethodId} {args : Array Value} {below : List Frame} {meth : Method} {c : Code} {g : GP} (hB : BX p s m args meth c g LX cX6_answerTo 7 RX6 (some .int)) {o : Int32 × Mem} : ∀ (n : Nat), ∀ (x2 : Int32) (x3 : Int32) (x5 : Int32) (x6 : Int32) (V : Mem) (H : Heap) (locs : List Loc) (ls : Array Slot), f_X6_answerTo_L0_29_t3 n x2 x3 x5 x6 V = some o → OK g LX V s H locs → lv_has ls 7 [(0, .ref (ad g 0)), (2, .int x2), (3, .int x3), (4, .ref (sa g 3)), (5, .int x5), (6, .int x6)] → W p l e rm_X6_answerTo_L0 s m args below meth c H locs 0 0 (MQ below (QQ g LX (some (.int o.1)) o.2) args s 0 0 (Ar g LX)) (F0 m 29 ls []) := by
  obtain ⟨hx, hb, hml, hown, hT, hr, hlk, hK, hJ, hZ, hN⟩ := id hB
  intro n
  induction n with
  | zero =>
    intro x2 x3 x5 x6 V H locs ls hE hz hl
    exact absurd (show (none : Option (Int32 × Mem)) = some o from hE) (by simp)
  | succ n ih =>
    intro x2 x3 x5 x6 V H locs ls hE hz hl
    unfold f_X6_answerTo_L0_29_t3 at hE
    refine lv_iload hx hb dX6_answerTo_29 (lv_at hl 5 rfl) ?_
    refine lv_bipush (v := (6 : Int32)) hx hb dX6_answerTo_31 (by decide) ?_
    refine lv_icmp_ge (tgt := 63) hx hb dX6_answerTo_33 (by decide) (fun c33 => ?_) (fun c33 => ?_)
    · have hE := (if_pos c33).symm.trans hE
      exact w_X6_answerTo_L0_63_t3 hB  _ _ _ _ _ _ _  hE hz (lv_sub hl [0, 1, 2, 3, 4] rfl)
    · have hE := (if_neg c33).symm.trans hE
      refine lv_iload hx hb dX6_answerTo_36 (lv_at hl 4 rfl) ?_
      refine lv_if_eq (tgt := 63) hx hb dX6_answerTo_38 (by decide) (fun c38 => ?_) (fun c38 => ?_)
      · have hE := (if_pos c38).symm.trans hE
        exact w_X6_answerTo_L0_63_t3 hB  _ _ _ _ _ _ _  hE hz (lv_sub hl [0, 1, 2, 3, 4] rfl)
      · have hE := (if_neg c38).symm.trans hE
        refine lv_aload hx hb dX6_answerTo_41 (lv_at hl 3 rfl) ?_
        refine lv_iload hx hb dX6_answerTo_43 (lv_at hl 4 rfl) ?_
        obtain ⟨hi45, hE⟩ := x_chk hE
        refine x_sti (k := 3) (by decide) rfl hB hz hi45 dX6_answerTo_45 ?_
        refine lv_if_ne (tgt := 63) hx hb dX6_answerTo_46 (by decide) (fun c46 => ?_) (fun c46 => ?_)
        · have hE := (if_neg c46).symm.trans hE
          exact w_X6_answerTo_L0_63_t3 hB  _ _ _ _ _ _ _  hE hz (lv_sub hl [0, 1, 2, 3, 4] rfl)
        · have hE := (if_pos c46).symm.trans hE
          refine x_gst (k := 0) (by decide) hB hz kw_678 dX6_answerTo_49 ?_
          refine lv_iload hx hb dX6_answerTo_52 (lv_at hl 4 rfl) ?_
          obtain ⟨hi54, hE⟩ := x_chk hE
          refine x_sti (k := 0) (by decide) rfl hB hz hi54 dX6_answerTo_54 ?_
          refine lv_istore (lv' := [(5, .int (tba 0 (x5).toNatClampNeg)), (0, .ref (ad g 0)), (2, .int x2), (3, .int x3), (4, .ref (sa g 3)), (6, .int x6)]) hx hb dX6_answerTo_55 hl (by decide) rfl (fun ls hl => ?_)
          refine lv_iinc (v := (x6 + 1)) (lv' := [(6, .int (x6 + 1)), (5, .int (tba 0 (x5).toNatClampNeg)), (0, .ref (ad g 0)), (2, .int x2), (3, .int x3), (4, .ref (sa g 3))]) hx hb dX6_answerTo_57 hl (k := 5) rfl rfl (by decide) rfl (fun ls hl => ?_)
          refine lv_goto (tgt := 29) hx hb dX6_answerTo_60 (by decide) ?_
          exact ih _ _ _ _ _ _ _ _  hE hz (lv_sub hl [2, 3, 4, 5, 1, 0] rfl)

set_option maxHeartbeats 4000000 in
set_option maxRecDepth 100000 in
theorem w_X6_answerTo_L0_13_u3 {p : Program} {l : Launch} {e : Env} {s : State} {m : MethodId} {args : Array Value} {below : List Frame} {meth : Method} {c : Code} {g : GP} (hB : BX p s m args meth c g LX cX6_answerTo 7 RX6 (some .int)) {o : Int32 × Mem} : ∀ (x2 : Int32) (x3 : Int32) (V : Mem) (H : Heap) (locs : List Loc) (ls : Array Slot), f_X6_answerTo_L0_13_u3 x2 x3 V = some o → OK g LX V s H locs → lv_has ls 7 [(0, .ref (ad g 0)), (2, .int x2), (3, .int x3)] → W p l e rm_X6_answerTo_L0 s m args below meth c H locs 0 0 (MQ below (QQ g LX (some (.int o.1)) o.2) args s 0 0 (Ar g LX)) (F0 m 13 ls [.ref (sa g 3)]) := by
  obtain ⟨hx, hb, hml, hown, hT, hr, hlk, hK, hJ, hZ, hN⟩ := id hB
  intro x2 x3 V H locs ls hE hz hl
  unfold f_X6_answerTo_L0_13_u3 at hE
  refine lv_astore (lv' := [(4, .ref (sa g 3)), (0, .ref (ad g 0)), (2, .int x2), (3, .int x3)]) hx hb dX6_answerTo_13 hl (by decide) rfl (fun ls hl => ?_)
  refine lv_aload_n hx hb dX6_answerTo_15 rfl (lv_at hl 1 rfl) ?_
  refine g_X6_25 hB hz kdX_0 dX6_answerTo_16 ?_
  refine g_X6_183 hB hz kdX_4 dX6_answerTo_19 ?_
  refine lv_iload_n hx hb dX6_answerTo_22 rfl (lv_at hl 2 rfl) ?_
  obtain ⟨hi23, hE⟩ := x_chk hE
  refine x_iald (n := 24) hB hz kdX_6 hi23 dX6_answerTo_23 ?_
  refine lv_istore (lv' := [(5, .int (V 6 (x2).toNatClampNeg)), (4, .ref (sa g 3)), (0, .ref (ad g 0)), (2, .int x2), (3, .int x3)]) hx hb dX6_answerTo_24 hl (by decide) rfl (fun ls hl => ?_)
  refine lv_iconst (v := (0 : Int32)) hx hb dX6_answerTo_26 (by decide) ?_
  refine lv_istore (lv' := [(6, .int (0 : Int32)), (5, .int (V 6 (x2).toNatClampNeg)), (4, .ref (sa g 3)), (0, .ref (ad g 0)), (2, .int x2), (3, .int x3)]) hx hb dX6_answerTo_27 hl (by decide) rfl (fun ls hl => ?_)
  exact w_X6_answerTo_L0_29_t3 hB  _ _ _ _ _ _ _ _ _  hE hz (lv_sub hl [3, 4, 5, 2, 1, 0] rfl)

set_option maxHeartbeats 4000000 in
set_option maxRecDepth 100000 in
theorem w_X6_answerTo_L0_63_t2 {p : Program} {l : Launch} {e : Env} {s : State} {m : MethodId} {args : Array Value} {below : List Frame} {meth : Method} {c : Code} {g : GP} (hB : BX p s m args meth c g LX cX6_answerTo 7 RX6 (some .int)) {o : Int32 × Mem} : ∀ (x2 : Int32) (x3 : Int32) (x5 : Int32) (V : Mem) (H : Heap) (locs : List Loc) (ls : Array Slot), f_X6_answerTo_L0_63_t2 x2 x3 x5 V = some o → OK g LX V s H locs → lv_has ls 7 [(0, .ref (ad g 0)), (2, .int x2), (3, .int x3), (4, .ref (sa g 2)), (5, .int x5)] → W p l e rm_X6_answerTo_L0 s m args below meth c H locs 0 0 (MQ below (QQ g LX (some (.int o.1)) o.2) args s 0 0 (Ar g LX)) (F0 m 63 ls []) := by
  obtain ⟨hx, hb, hml, hown, hT, hr, hlk, hK, hJ, hZ, hN⟩ := id hB
  intro x2 x3 x5 V H locs ls hE hz hl
  unfold f_X6_answerTo_L0_63_t2 at hE
  refine lv_aload_n hx hb dX6_answerTo_63 rfl (lv_at hl 0 rfl) ?_
  refine lv_aload hx hb dX6_answerTo_64 (lv_at hl 3 rfl) ?_
  refine lv_iload hx hb dX6_answerTo_66 (lv_at hl 4 rfl) ?_
  obtain ⟨hi68, hE⟩ := x_chk hE
  refine x_sti (k := 2) (by decide) rfl hB hz hi68 dX6_answerTo_68 ?_
  refine lv_iload_n hx hb dX6_answerTo_69 rfl (lv_at hl 1 rfl) ?_
  refine lv_iload_n hx hb dX6_answerTo_70 rfl (lv_at hl 2 rfl) ?_
  refine lv_iconst (v := (1 : Int32)) hx hb dX6_answerTo_71 (by decide) ?_
  refine lv_iadd hx hb dX6_answerTo_72 ?_
  obtain ⟨q73, hq73, hE⟩ := x_bind hE
  refine i_X6_320_L0 hB hz kdX_0 (c_X6_answerOf_L0 l g  hq73) ⟨(Nat.le_of_ble_eq_true rfl), (Nat.le_of_ble_eq_true rfl)⟩ hl.1 (Nat.le_of_ble_eq_true rfl) dX6_answerTo_73 (fun H locs hz => ?_)
  exact x_iret hB hz hE dX6_answerTo_76

set_option maxHeartbeats 4000000 in
set_option maxRecDepth 100000 in
theorem w_X6_answerTo_L0_29_t2 {p : Program} {l : Launch} {e : Env} {s : State} {m : MethodId} {args : Array Value} {below : List Frame} {meth : Method} {c : Code} {g : GP} (hB : BX p s m args meth c g LX cX6_answerTo 7 RX6 (some .int)) {o : Int32 × Mem} : ∀ (n : Nat), ∀ (x2 : Int32) (x3 : Int32) (x5 : Int32) (x6 : Int32) (V : Mem) (H : Heap) (locs : List Loc) (ls : Array Slot), f_X6_answerTo_L0_29_t2 n x2 x3 x5 x6 V = some o → OK g LX V s H locs → lv_has ls 7 [(0, .ref (ad g 0)), (2, .int x2), (3, .int x3), (4, .ref (sa g 2)), (5, .int x5), (6, .int x6)] → W p l e rm_X6_answerTo_L0 s m args below meth c H locs 0 0 (MQ below (QQ g LX (some (.int o.1)) o.2) args s 0 0 (Ar g LX)) (F0 m 29 ls []) := by
  obtain ⟨hx, hb, hml, hown, hT, hr, hlk, hK, hJ, hZ, hN⟩ := id hB
  intro n
  induction n with
  | zero =>
    intro x2 x3 x5 x6 V H locs ls hE hz hl
    exact absurd (show (none : Option (Int32 × Mem)) = some o from hE) (by simp)
  | succ n ih =>
    intro x2 x3 x5 x6 V H locs ls hE hz hl
    unfold f_X6_answerTo_L0_29_t2 at hE
    refine lv_iload hx hb dX6_answerTo_29 (lv_at hl 5 rfl) ?_
    refine lv_bipush (v := (6 : Int32)) hx hb dX6_answerTo_31 (by decide) ?_
    refine lv_icmp_ge (tgt := 63) hx hb dX6_answerTo_33 (by decide) (fun c33 => ?_) (fun c33 => ?_)
    · have hE := (if_pos c33).symm.trans hE
      exact w_X6_answerTo_L0_63_t2 hB  _ _ _ _ _ _ _  hE hz (lv_sub hl [0, 1, 2, 3, 4] rfl)
    · have hE := (if_neg c33).symm.trans hE
      refine lv_iload hx hb dX6_answerTo_36 (lv_at hl 4 rfl) ?_
      refine lv_if_eq (tgt := 63) hx hb dX6_answerTo_38 (by decide) (fun c38 => ?_) (fun c38 => ?_)
      · have hE := (if_pos c38).symm.trans hE
        exact w_X6_answerTo_L0_63_t2 hB  _ _ _ _ _ _ _  hE hz (lv_sub hl [0, 1, 2, 3, 4] rfl)
      · have hE := (if_neg c38).symm.trans hE
        refine lv_aload hx hb dX6_answerTo_41 (lv_at hl 3 rfl) ?_
        refine lv_iload hx hb dX6_answerTo_43 (lv_at hl 4 rfl) ?_
        obtain ⟨hi45, hE⟩ := x_chk hE
        refine x_sti (k := 2) (by decide) rfl hB hz hi45 dX6_answerTo_45 ?_
        refine lv_if_ne (tgt := 63) hx hb dX6_answerTo_46 (by decide) (fun c46 => ?_) (fun c46 => ?_)
        · have hE := (if_neg c46).symm.trans hE
          exact w_X6_answerTo_L0_63_t2 hB  _ _ _ _ _ _ _  hE hz (lv_sub hl [0, 1, 2, 3, 4] rfl)
        · have hE := (if_pos c46).symm.trans hE
          refine x_gst (k := 0) (by decide) hB hz kw_678 dX6_answerTo_49 ?_
          refine lv_iload hx hb dX6_answerTo_52 (lv_at hl 4 rfl) ?_
          obtain ⟨hi54, hE⟩ := x_chk hE
          refine x_sti (k := 0) (by decide) rfl hB hz hi54 dX6_answerTo_54 ?_
          refine lv_istore (lv' := [(5, .int (tba 0 (x5).toNatClampNeg)), (0, .ref (ad g 0)), (2, .int x2), (3, .int x3), (4, .ref (sa g 2)), (6, .int x6)]) hx hb dX6_answerTo_55 hl (by decide) rfl (fun ls hl => ?_)
          refine lv_iinc (v := (x6 + 1)) (lv' := [(6, .int (x6 + 1)), (5, .int (tba 0 (x5).toNatClampNeg)), (0, .ref (ad g 0)), (2, .int x2), (3, .int x3), (4, .ref (sa g 2))]) hx hb dX6_answerTo_57 hl (k := 5) rfl rfl (by decide) rfl (fun ls hl => ?_)
          refine lv_goto (tgt := 29) hx hb dX6_answerTo_60 (by decide) ?_
          exact ih _ _ _ _ _ _ _ _  hE hz (lv_sub hl [2, 3, 4, 5, 1, 0] rfl)

set_option maxHeartbeats 4000000 in
set_option maxRecDepth 100000 in
theorem w_X6_answerTo_L0_13_u2 {p : Program} {l : Launch} {e : Env} {s : State} {m : MethodId} {args : Array Value} {below : List Frame} {meth : Method} {c : Code} {g : GP} (hB : BX p s m args meth c g LX cX6_answerTo 7 RX6 (some .int)) {o : Int32 × Mem} : ∀ (x2 : Int32) (x3 : Int32) (V : Mem) (H : Heap) (locs : List Loc) (ls : Array Slot), f_X6_answerTo_L0_13_u2 x2 x3 V = some o → OK g LX V s H locs → lv_has ls 7 [(0, .ref (ad g 0)), (2, .int x2), (3, .int x3)] → W p l e rm_X6_answerTo_L0 s m args below meth c H locs 0 0 (MQ below (QQ g LX (some (.int o.1)) o.2) args s 0 0 (Ar g LX)) (F0 m 13 ls [.ref (sa g 2)]) := by
  obtain ⟨hx, hb, hml, hown, hT, hr, hlk, hK, hJ, hZ, hN⟩ := id hB
  intro x2 x3 V H locs ls hE hz hl
  unfold f_X6_answerTo_L0_13_u2 at hE
  refine lv_astore (lv' := [(4, .ref (sa g 2)), (0, .ref (ad g 0)), (2, .int x2), (3, .int x3)]) hx hb dX6_answerTo_13 hl (by decide) rfl (fun ls hl => ?_)
  refine lv_aload_n hx hb dX6_answerTo_15 rfl (lv_at hl 1 rfl) ?_
  refine g_X6_25 hB hz kdX_0 dX6_answerTo_16 ?_
  refine g_X6_183 hB hz kdX_4 dX6_answerTo_19 ?_
  refine lv_iload_n hx hb dX6_answerTo_22 rfl (lv_at hl 2 rfl) ?_
  obtain ⟨hi23, hE⟩ := x_chk hE
  refine x_iald (n := 24) hB hz kdX_6 hi23 dX6_answerTo_23 ?_
  refine lv_istore (lv' := [(5, .int (V 6 (x2).toNatClampNeg)), (4, .ref (sa g 2)), (0, .ref (ad g 0)), (2, .int x2), (3, .int x3)]) hx hb dX6_answerTo_24 hl (by decide) rfl (fun ls hl => ?_)
  refine lv_iconst (v := (0 : Int32)) hx hb dX6_answerTo_26 (by decide) ?_
  refine lv_istore (lv' := [(6, .int (0 : Int32)), (5, .int (V 6 (x2).toNatClampNeg)), (4, .ref (sa g 2)), (0, .ref (ad g 0)), (2, .int x2), (3, .int x3)]) hx hb dX6_answerTo_27 hl (by decide) rfl (fun ls hl => ?_)
  exact w_X6_answerTo_L0_29_t2 hB  _ _ _ _ _ _ _ _ _  hE hz (lv_sub hl [3, 4, 5, 2, 1, 0] rfl)

set_option maxHeartbeats 4000000 in
set_option maxRecDepth 100000 in
theorem w_X6_answerTo_L0 {p : Program} {l : Launch} {e : Env} {s : State} {m : MethodId} {args : Array Value} {below : List Frame} {meth : Method} {c : Code} {g : GP} (hB : BX p s m args meth c g LX cX6_answerTo 7 RX6 (some .int)) {o : Int32 × Mem} : ∀ (x1 : Int32) (x2 : Int32) (x3 : Int32) (V : Mem) (H : Heap) (locs : List Loc) (ls : Array Slot), f_X6_answerTo_L0 x1 x2 x3 V = some o → OK g LX V s H locs → lv_has ls 7 [(0, .ref (ad g 0)), (1, .int x1), (2, .int x2), (3, .int x3)] → W p l e rm_X6_answerTo_L0 s m args below meth c H locs 0 0 (MQ below (QQ g LX (some (.int o.1)) o.2) args s 0 0 (Ar g LX)) (F0 m 0 ls []) := by
  obtain ⟨hx, hb, hml, hown, hT, hr, hlk, hK, hJ, hZ, hN⟩ := id hB
  intro x1 x2 x3 V H locs ls hE hz hl
  unfold f_X6_answerTo_L0 at hE
  refine lv_iload_n hx hb dX6_answerTo_0 rfl (lv_at hl 1 rfl) ?_
  refine lv_if_ne (tgt := 10) hx hb dX6_answerTo_1 (by decide) (fun c1 => ?_) (fun c1 => ?_)
  · have hE := (if_neg c1).symm.trans hE
    refine x_gst (k := 3) (by decide) hB hz kw_690 dX6_answerTo_10 ?_
    exact w_X6_answerTo_L0_13_u3 hB  _ _ _ _ _ _  hE hz (lv_sub hl [0, 2, 3] rfl)
  · have hE := (if_pos c1).symm.trans hE
    refine x_gst (k := 2) (by decide) hB hz kw_688 dX6_answerTo_4 ?_
    refine lv_goto (tgt := 13) hx hb dX6_answerTo_7 (by decide) ?_
    exact w_X6_answerTo_L0_13_u2 hB  _ _ _ _ _ _  hE hz (lv_sub hl [0, 2, 3] rfl)
theorem c_X6_answerTo_L0 (l : Launch) (g : GP) {x1 : Int32} {x2 : Int32} {x3 : Int32} {V : Mem} {o : Int32 × Mem} (hE : f_X6_answerTo_L0 x1 x2 x3 V = some o) : CT l g LX yX6_answerTo cX6_answerTo 7 (some .int) rm_X6_answerTo_L0 [.ref (ad g 0), .int x1, .int x2, .int x3] V (some (.int o.1)) o.2 := by
  refine ct_of (by decide) (Nat.le_of_ble_eq_true rfl) ?_
  intro p e s m args below meth c ls hB hz hl
  exact w_X6_answerTo_L0 hB _ _ _ _ _ _ _  hE hz hl
def rm_X6_answerOf_L1 : Room := { frames := 4, cells := 0, slots := 0, locals := 167 }
theorem i_X6_323 {p : Program} {l : Launch} {e : Env} {R : Room} {s : State} {m : MethodId} {args : Array Value} {below : List Frame} {meth : Method} {c : Code} {H : Heap} {locs : List Loc} {Q : State → Prop} {cc : ByteArray} {pc : Nat} {ls : Array Slot} {rest : List Value} {g : GP} {V : Mem} {nL : Nat} {ret : Option FieldType} (hB : BX p s m args meth c g LX cc nL RX6 ret) (hz : OK g LX V s H locs) {i : Nat} (hk : KD LX i 5) {a0 : Int32} {V1 : Mem} (hM : CT l g LX yX6_leaveTrace cX6_leaveTrace 2 none rm_X6_leaveTrace [.ref (ad g i), .int a0] V none V1) (hR : rm_X6_leaveTrace.frames + 1 ≤ R.frames ∧ 8 + (2 + 11) + rm_X6_leaveTrace.locals ≤ R.locals) (hsz : ls.size = nL) (hrest : (rest.map fun v => v.category).sum ≤ 8) (hdg : decode cc pc = .ok (.invokevirtual 323, 3)) (kk : ∀ (H1 : Heap) (locs1 : List Loc), OK g LX V1 s H1 locs1 → W p l e R s m args below meth c H1 locs1 0 0 Q (F0 m (pc + 3) ls (rest))) : W p l e R s m args below meth c H locs 0 0 Q (F0 m pc ls (.int a0 :: .ref (ad g i) :: rest)) :=
  x_cv (As := [.int a0]) (n := 1) (T := TX6) (N := 14) hB hz hM hk rfl rfl rfl rfl kw_699 kw_62 kw_696 kw_698 kw_21 (by decide +kernel) rfl hR hsz hrest hdg kk
theorem i_X6_295_L0 {p : Program} {l : Launch} {e : Env} {R : Room} {s : State} {m : MethodId} {args : Array Value} {below : List Frame} {meth : Method} {c : Code} {H : Heap} {locs : List Loc} {Q : State → Prop} {cc : ByteArray} {pc : Nat} {ls : Array Slot} {rest : List Value} {g : GP} {V : Mem} {nL : Nat} {ret : Option FieldType} (hB : BX p s m args meth c g LX cc nL RX6 ret) (hz : OK g LX V s H locs) {i : Nat} (hk : KD LX i 5) {a0 : Int32} {a1 : Int32} {a2 : Int32} {r : Int32} {V1 : Mem} (hM : CT l g LX yX6_answerTo cX6_answerTo 7 (some .int) rm_X6_answerTo_L0 [.ref (ad g i), .int a0, .int a1, .int a2] V (some (.int r)) V1) (hR : rm_X6_answerTo_L0.frames + 1 ≤ R.frames ∧ 8 + (7 + 11) + rm_X6_answerTo_L0.locals ≤ R.locals) (hsz : ls.size = nL) (hrest : (rest.map fun v => v.category).sum ≤ 8) (hdg : decode cc pc = .ok (.invokevirtual 295, 3)) (kk : ∀ (H1 : Heap) (locs1 : List Loc), OK g LX V1 s H1 locs1 → W p l e R s m args below meth c H1 locs1 0 0 Q (F0 m (pc + 3) ls (.int r :: rest))) : W p l e R s m args below meth c H locs 0 0 Q (F0 m pc ls (.int a2 :: .int a1 :: .int a0 :: .ref (ad g i) :: rest)) :=
  x_cv (As := [.int a0, .int a1, .int a2]) (n := 3) (T := TX6) (N := 14) hB hz hM hk rfl rfl rfl rfl kw_687 kw_62 kw_684 kw_686 kw_19 (by decide +kernel) rfl hR hsz hrest hdg kk
set_option maxHeartbeats 4000000 in
set_option maxRecDepth 100000 in
theorem w_X6_answerOf_L1 {p : Program} {l : Launch} {e : Env} {s : State} {m : MethodId} {args : Array Value} {below : List Frame} {meth : Method} {c : Code} {g : GP} (hB : BX p s m args meth c g LX cX6_answerOf 5 RX6 (some .int)) {o : Int32 × Mem} : ∀ (x1 : Int32) (x2 : Int32) (x3 : Int32) (V : Mem) (H : Heap) (locs : List Loc) (ls : Array Slot), f_X6_answerOf_L1 x1 x2 x3 V = some o → OK g LX V s H locs → lv_has ls 5 [(0, .ref (ad g 0)), (1, .int x1), (2, .int x2), (3, .int x3)] → W p l e rm_X6_answerOf_L1 s m args below meth c H locs 0 0 (MQ below (QQ g LX (some (.int o.1)) o.2) args s 0 0 (Ar g LX)) (F0 m 0 ls []) := by
  obtain ⟨hx, hb, hml, hown, hT, hr, hlk, hK, hJ, hZ, hN⟩ := id hB
  intro x1 x2 x3 V H locs ls hE hz hl
  unfold f_X6_answerOf_L1 at hE
  refine lv_iload_n hx hb dX6_answerOf_0 rfl (lv_at hl 3 rfl) ?_
  refine lv_bipush (v := (20 : Int32)) hx hb dX6_answerOf_1 (by decide) ?_
  refine lv_icmp_le (tgt := 8) hx hb dX6_answerOf_3 (by decide) (fun c3 => ?_) (fun c3 => ?_)
  · have hE := (if_pos c3).symm.trans hE
    refine lv_aload_n hx hb dX6_answerOf_8 rfl (lv_at hl 0 rfl) ?_
    refine lv_iload_n hx hb dX6_answerOf_9 rfl (lv_at hl 1 rfl) ?_
    obtain ⟨q10, hq10, hE⟩ := x_bind hE
    refine i_X6_323 hB hz kdX_0 (c_X6_leaveTrace l g  hq10) ⟨(Nat.le_of_ble_eq_true rfl), (Nat.le_of_ble_eq_true rfl)⟩ hl.1 (Nat.le_of_ble_eq_true rfl) dX6_answerOf_10 (fun H locs hz => ?_)
    refine lv_iload_n hx hb dX6_answerOf_13 rfl (lv_at hl 3 rfl) ?_
    refine lv_iconst (v := (1 : Int32)) hx hb dX6_answerOf_14 (by decide) ?_
    refine lv_iadd hx hb dX6_answerOf_15 ?_
    refine lv_istore (lv' := [(4, .int (x3 + (1 : Int32))), (0, .ref (ad g 0)), (1, .int x1), (2, .int x2), (3, .int x3)]) hx hb dX6_answerOf_16 hl (by decide) rfl (fun ls hl => ?_)
    refine lv_iload_n hx hb dX6_answerOf_18 rfl (lv_at hl 2 rfl) ?_
    by_cases c19_10 : x1 = (10 : Int32)
    · have hE := (if_pos c19_10).symm.trans hE
      refine lv_tableIn (tgt := 92) hx hb dX6_answerOf_19 (by rw [c19_10]; decide) (by rw [c19_10]; decide) (by rw [c19_10]; rfl) (by decide) ?_
      refine lv_aload_n hx hb dX6_answerOf_92 rfl (lv_at hl 1 rfl) ?_
      refine g_X6_25 hB hz kdX_0 dX6_answerOf_93 ?_
      refine g_X6_195 hB hz kdX_4 dX6_answerOf_96 ?_
      refine lv_iload_n hx hb dX6_answerOf_99 rfl (lv_at hl 3 rfl) ?_
      obtain ⟨hi100, hE⟩ := x_chk hE
      refine x_iald (n := 24) hB hz kdX_8 hi100 dX6_answerOf_100 ?_
      exact x_iret hB hz hE dX6_answerOf_101
    have hE := (if_neg c19_10).symm.trans hE
    by_cases c19_11 : x1 = (11 : Int32)
    · have hE := (if_pos c19_11).symm.trans hE
      refine lv_tableIn (tgt := 102) hx hb dX6_answerOf_19 (by rw [c19_11]; decide) (by rw [c19_11]; decide) (by rw [c19_11]; rfl) (by decide) ?_
      refine lv_aload_n hx hb dX6_answerOf_102 rfl (lv_at hl 1 rfl) ?_
      refine lv_bipush (v := (10 : Int32)) hx hb dX6_answerOf_103 (by decide) ?_
      refine lv_iload_n hx hb dX6_answerOf_105 rfl (lv_at hl 3 rfl) ?_
      refine lv_iload hx hb dX6_answerOf_106 (lv_at hl 0 rfl) ?_
      obtain ⟨q108, hq108, hE⟩ := x_bind hE
      refine i_X6_320_L0 hB hz kdX_0 (c_X6_answerOf_L0 l g  hq108) ⟨(Nat.le_of_ble_eq_true rfl), (Nat.le_of_ble_eq_true rfl)⟩ hl.1 (Nat.le_of_ble_eq_true rfl) dX6_answerOf_108 (fun H locs hz => ?_)
      refine lv_aload_n hx hb dX6_answerOf_111 rfl (lv_at hl 1 rfl) ?_
      refine lv_iconst (v := (1 : Int32)) hx hb dX6_answerOf_112 (by decide) ?_
      refine lv_iload_n hx hb dX6_answerOf_113 rfl (lv_at hl 3 rfl) ?_
      refine lv_iload hx hb dX6_answerOf_114 (lv_at hl 0 rfl) ?_
      obtain ⟨q116, hq116, hE⟩ := x_bind hE
      refine i_X6_295_L0 hB hz kdX_0 (c_X6_answerTo_L0 l g  hq116) ⟨(Nat.le_of_ble_eq_true rfl), (Nat.le_of_ble_eq_true rfl)⟩ hl.1 (Nat.le_of_ble_eq_true rfl) dX6_answerOf_116 (fun H locs hz => ?_)
      refine lv_iadd hx hb dX6_answerOf_119 ?_
      exact x_iret hB hz hE dX6_answerOf_120
    have hE := (if_neg c19_11).symm.trans hE
    by_cases c19_12 : x1 = (12 : Int32)
    · have hE := (if_pos c19_12).symm.trans hE
      refine lv_tableIn (tgt := 121) hx hb dX6_answerOf_19 (by rw [c19_12]; decide) (by rw [c19_12]; decide) (by rw [c19_12]; rfl) (by decide) ?_
      refine lv_aload_n hx hb dX6_answerOf_121 rfl (lv_at hl 1 rfl) ?_
      refine lv_bipush (v := (11 : Int32)) hx hb dX6_answerOf_122 (by decide) ?_
      refine lv_iload_n hx hb dX6_answerOf_124 rfl (lv_at hl 3 rfl) ?_
      refine lv_iload hx hb dX6_answerOf_125 (lv_at hl 0 rfl) ?_
      obtain ⟨q127, hq127, hE⟩ := x_bind hE
      refine i_X6_320_L0 hB hz kdX_0 (c_X6_answerOf_L0 l g  hq127) ⟨(Nat.le_of_ble_eq_true rfl), (Nat.le_of_ble_eq_true rfl)⟩ hl.1 (Nat.le_of_ble_eq_true rfl) dX6_answerOf_127 (fun H locs hz => ?_)
      refine lv_ineg hx hb dX6_answerOf_130 ?_
      exact x_iret hB hz hE dX6_answerOf_131
    have hE := (if_neg c19_12).symm.trans hE
    by_cases c19_13 : x1 = (13 : Int32)
    · have hE := (if_pos c19_13).symm.trans hE
      refine lv_tableIn (tgt := 132) hx hb dX6_answerOf_19 (by rw [c19_13]; decide) (by rw [c19_13]; decide) (by rw [c19_13]; rfl) (by decide) ?_
      refine lv_aload_n hx hb dX6_answerOf_132 rfl (lv_at hl 1 rfl) ?_
      refine lv_bipush (v := (10 : Int32)) hx hb dX6_answerOf_133 (by decide) ?_
      refine lv_iload_n hx hb dX6_answerOf_135 rfl (lv_at hl 3 rfl) ?_
      refine lv_iload hx hb dX6_answerOf_136 (lv_at hl 0 rfl) ?_
      obtain ⟨q138, hq138, hE⟩ := x_bind hE
      refine i_X6_320_L0 hB hz kdX_0 (c_X6_answerOf_L0 l g  hq138) ⟨(Nat.le_of_ble_eq_true rfl), (Nat.le_of_ble_eq_true rfl)⟩ hl.1 (Nat.le_of_ble_eq_true rfl) dX6_answerOf_138 (fun H locs hz => ?_)
      refine lv_bipush (v := (100 : Int32)) hx hb dX6_answerOf_141 (by decide) ?_
      refine lv_isub hx hb dX6_answerOf_143 ?_
      exact x_iret hB hz hE dX6_answerOf_144
    have hE := (if_neg c19_13).symm.trans hE
    by_cases c19_14 : x1 = (14 : Int32)
    · have hE := (if_pos c19_14).symm.trans hE
      refine lv_tableIn (tgt := 145) hx hb dX6_answerOf_19 (by rw [c19_14]; decide) (by rw [c19_14]; decide) (by rw [c19_14]; rfl) (by decide) ?_
      refine lv_iconst (v := (2 : Int32)) hx hb dX6_answerOf_145 (by decide) ?_
      refine lv_aload_n hx hb dX6_answerOf_146 rfl (lv_at hl 1 rfl) ?_
      refine lv_bipush (v := (13 : Int32)) hx hb dX6_answerOf_147 (by decide) ?_
      refine lv_iload_n hx hb dX6_answerOf_149 rfl (lv_at hl 3 rfl) ?_
      refine lv_iload hx hb dX6_answerOf_150 (lv_at hl 0 rfl) ?_
      obtain ⟨q152, hq152, hE⟩ := x_bind hE
      refine i_X6_320_L0 hB hz kdX_0 (c_X6_answerOf_L0 l g  hq152) ⟨(Nat.le_of_ble_eq_true rfl), (Nat.le_of_ble_eq_true rfl)⟩ hl.1 (Nat.le_of_ble_eq_true rfl) dX6_answerOf_152 (fun H locs hz => ?_)
      refine lv_imul hx hb dX6_answerOf_155 ?_
      exact x_iret hB hz hE dX6_answerOf_156
    have hE := (if_neg c19_14).symm.trans hE
    by_cases c19_15 : x1 = (15 : Int32)
    · have hE := (if_pos c19_15).symm.trans hE
      refine lv_tableIn (tgt := 223) hx hb dX6_answerOf_19 (by rw [c19_15]; decide) (by rw [c19_15]; decide) (by rw [c19_15]; rfl) (by decide) ?_
      refine lv_iconst (v := (0 : Int32)) hx hb dX6_answerOf_223 (by decide) ?_
      exact x_iret hB hz hE dX6_answerOf_224
    have hE := (if_neg c19_15).symm.trans hE
    by_cases c19_16 : x1 = (16 : Int32)
    · have hE := (if_pos c19_16).symm.trans hE
      refine lv_tableIn (tgt := 223) hx hb dX6_answerOf_19 (by rw [c19_16]; decide) (by rw [c19_16]; decide) (by rw [c19_16]; rfl) (by decide) ?_
      refine lv_iconst (v := (0 : Int32)) hx hb dX6_answerOf_223 (by decide) ?_
      exact x_iret hB hz hE dX6_answerOf_224
    have hE := (if_neg c19_16).symm.trans hE
    by_cases c19_17 : x1 = (17 : Int32)
    · have hE := (if_pos c19_17).symm.trans hE
      refine lv_tableIn (tgt := 223) hx hb dX6_answerOf_19 (by rw [c19_17]; decide) (by rw [c19_17]; decide) (by rw [c19_17]; rfl) (by decide) ?_
      refine lv_iconst (v := (0 : Int32)) hx hb dX6_answerOf_223 (by decide) ?_
      exact x_iret hB hz hE dX6_answerOf_224
    have hE := (if_neg c19_17).symm.trans hE
    by_cases c19_18 : x1 = (18 : Int32)
    · have hE := (if_pos c19_18).symm.trans hE
      refine lv_tableIn (tgt := 223) hx hb dX6_answerOf_19 (by rw [c19_18]; decide) (by rw [c19_18]; decide) (by rw [c19_18]; rfl) (by decide) ?_
      refine lv_iconst (v := (0 : Int32)) hx hb dX6_answerOf_223 (by decide) ?_
      exact x_iret hB hz hE dX6_answerOf_224
    have hE := (if_neg c19_18).symm.trans hE
    by_cases c19_19 : x1 = (19 : Int32)
    · have hE := (if_pos c19_19).symm.trans hE
      refine lv_tableIn (tgt := 223) hx hb dX6_answerOf_19 (by rw [c19_19]; decide) (by rw [c19_19]; decide) (by rw [c19_19]; rfl) (by decide) ?_
      refine lv_iconst (v := (0 : Int32)) hx hb dX6_answerOf_223 (by decide) ?_
      exact x_iret hB hz hE dX6_answerOf_224
    have hE := (if_neg c19_19).symm.trans hE
    by_cases c19_20 : x1 = (20 : Int32)
    · have hE := (if_pos c19_20).symm.trans hE
      refine lv_tableIn (tgt := 157) hx hb dX6_answerOf_19 (by rw [c19_20]; decide) (by rw [c19_20]; decide) (by rw [c19_20]; rfl) (by decide) ?_
      refine lv_iload_n hx hb dX6_answerOf_157 rfl (lv_at hl 3 rfl) ?_
      exact x_iret hB hz hE dX6_answerOf_158
    have hE := (if_neg c19_20).symm.trans hE
    by_cases c19_21 : x1 = (21 : Int32)
    · have hE := (if_pos c19_21).symm.trans hE
      refine lv_tableIn (tgt := 159) hx hb dX6_answerOf_19 (by rw [c19_21]; decide) (by rw [c19_21]; decide) (by rw [c19_21]; rfl) (by decide) ?_
      refine lv_aload_n hx hb dX6_answerOf_159 rfl (lv_at hl 1 rfl) ?_
      refine lv_bipush (v := (20 : Int32)) hx hb dX6_answerOf_160 (by decide) ?_
      refine lv_iload_n hx hb dX6_answerOf_162 rfl (lv_at hl 3 rfl) ?_
      refine lv_iload hx hb dX6_answerOf_163 (lv_at hl 0 rfl) ?_
      obtain ⟨q165, hq165, hE⟩ := x_bind hE
      refine i_X6_320_L0 hB hz kdX_0 (c_X6_answerOf_L0 l g  hq165) ⟨(Nat.le_of_ble_eq_true rfl), (Nat.le_of_ble_eq_true rfl)⟩ hl.1 (Nat.le_of_ble_eq_true rfl) dX6_answerOf_165 (fun H locs hz => ?_)
      refine lv_aload_n hx hb dX6_answerOf_168 rfl (lv_at hl 1 rfl) ?_
      refine g_X6_25 hB hz kdX_0 dX6_answerOf_169 ?_
      refine lv_iload_n hx hb dX6_answerOf_172 rfl (lv_at hl 3 rfl) ?_
      obtain ⟨q173, hq173, hE⟩ := x_bind hE
      refine i_X6_245 hB hz kdX_4 (c_X3_ownCount l g kdX_4 hq173) ⟨(Nat.le_of_ble_eq_true rfl), (Nat.le_of_ble_eq_true rfl)⟩ hl.1 (Nat.le_of_ble_eq_true rfl) dX6_answerOf_173 (fun H locs hz => ?_)
      refine lv_iadd hx hb dX6_answerOf_176 ?_
      exact x_iret hB hz hE dX6_answerOf_177
    have hE := (if_neg c19_21).symm.trans hE
    by_cases c19_22 : x1 = (22 : Int32)
    · have hE := (if_pos c19_22).symm.trans hE
      refine lv_tableIn (tgt := 178) hx hb dX6_answerOf_19 (by rw [c19_22]; decide) (by rw [c19_22]; decide) (by rw [c19_22]; rfl) (by decide) ?_
      refine lv_aload_n hx hb dX6_answerOf_178 rfl (lv_at hl 1 rfl) ?_
      refine lv_bipush (v := (21 : Int32)) hx hb dX6_answerOf_179 (by decide) ?_
      refine lv_iload_n hx hb dX6_answerOf_181 rfl (lv_at hl 3 rfl) ?_
      refine lv_iload hx hb dX6_answerOf_182 (lv_at hl 0 rfl) ?_
      obtain ⟨q184, hq184, hE⟩ := x_bind hE
      refine i_X6_320_L0 hB hz kdX_0 (c_X6_answerOf_L0 l g  hq184) ⟨(Nat.le_of_ble_eq_true rfl), (Nat.le_of_ble_eq_true rfl)⟩ hl.1 (Nat.le_of_ble_eq_true rfl) dX6_answerOf_184 (fun H locs hz => ?_)
      refine lv_sipush (v := (1000 : Int32)) hx hb dX6_answerOf_187 (by decide) ?_
      refine lv_isub hx hb dX6_answerOf_190 ?_
      exact x_iret hB hz hE dX6_answerOf_191
    have hE := (if_neg c19_22).symm.trans hE
    by_cases c19_23 : x1 = (23 : Int32)
    · have hE := (if_pos c19_23).symm.trans hE
      refine lv_tableIn (tgt := 192) hx hb dX6_answerOf_19 (by rw [c19_23]; decide) (by rw [c19_23]; decide) (by rw [c19_23]; rfl) (by decide) ?_
      refine lv_aload_n hx hb dX6_answerOf_192 rfl (lv_at hl 1 rfl) ?_
      refine lv_bipush (v := (20 : Int32)) hx hb dX6_answerOf_193 (by decide) ?_
      refine lv_iload_n hx hb dX6_answerOf_195 rfl (lv_at hl 3 rfl) ?_
      refine lv_iload hx hb dX6_answerOf_196 (lv_at hl 0 rfl) ?_
      obtain ⟨q198, hq198, hE⟩ := x_bind hE
      refine i_X6_320_L0 hB hz kdX_0 (c_X6_answerOf_L0 l g  hq198) ⟨(Nat.le_of_ble_eq_true rfl), (Nat.le_of_ble_eq_true rfl)⟩ hl.1 (Nat.le_of_ble_eq_true rfl) dX6_answerOf_198 (fun H locs hz => ?_)
      refine lv_aload_n hx hb dX6_answerOf_201 rfl (lv_at hl 1 rfl) ?_
      refine lv_iconst (v := (0 : Int32)) hx hb dX6_answerOf_202 (by decide) ?_
      refine lv_iload_n hx hb dX6_answerOf_203 rfl (lv_at hl 3 rfl) ?_
      refine lv_iload hx hb dX6_answerOf_204 (lv_at hl 0 rfl) ?_
      obtain ⟨q206, hq206, hE⟩ := x_bind hE
      refine i_X6_295_L0 hB hz kdX_0 (c_X6_answerTo_L0 l g  hq206) ⟨(Nat.le_of_ble_eq_true rfl), (Nat.le_of_ble_eq_true rfl)⟩ hl.1 (Nat.le_of_ble_eq_true rfl) dX6_answerOf_206 (fun H locs hz => ?_)
      refine lv_isub hx hb dX6_answerOf_209 ?_
      exact x_iret hB hz hE dX6_answerOf_210
    have hE := (if_neg c19_23).symm.trans hE
    by_cases c19_24 : x1 = (24 : Int32)
    · have hE := (if_pos c19_24).symm.trans hE
      refine lv_tableIn (tgt := 211) hx hb dX6_answerOf_19 (by rw [c19_24]; decide) (by rw [c19_24]; decide) (by rw [c19_24]; rfl) (by decide) ?_
      refine lv_iconst (v := (2 : Int32)) hx hb dX6_answerOf_211 (by decide) ?_
      refine lv_aload_n hx hb dX6_answerOf_212 rfl (lv_at hl 1 rfl) ?_
      refine lv_bipush (v := (21 : Int32)) hx hb dX6_answerOf_213 (by decide) ?_
      refine lv_iload_n hx hb dX6_answerOf_215 rfl (lv_at hl 3 rfl) ?_
      refine lv_iload hx hb dX6_answerOf_216 (lv_at hl 0 rfl) ?_
      obtain ⟨q218, hq218, hE⟩ := x_bind hE
      refine i_X6_320_L0 hB hz kdX_0 (c_X6_answerOf_L0 l g  hq218) ⟨(Nat.le_of_ble_eq_true rfl), (Nat.le_of_ble_eq_true rfl)⟩ hl.1 (Nat.le_of_ble_eq_true rfl) dX6_answerOf_218 (fun H locs hz => ?_)
      refine lv_imul hx hb dX6_answerOf_221 ?_
      exact x_iret hB hz hE dX6_answerOf_222
    have hE := (if_neg c19_24).symm.trans hE
    have nc19_10 := x_nei c19_10 (k := 10) (by decide)
    have nc19_11 := x_nei c19_11 (k := 11) (by decide)
    have nc19_12 := x_nei c19_12 (k := 12) (by decide)
    have nc19_13 := x_nei c19_13 (k := 13) (by decide)
    have nc19_14 := x_nei c19_14 (k := 14) (by decide)
    have nc19_15 := x_nei c19_15 (k := 15) (by decide)
    have nc19_16 := x_nei c19_16 (k := 16) (by decide)
    have nc19_17 := x_nei c19_17 (k := 17) (by decide)
    have nc19_18 := x_nei c19_18 (k := 18) (by decide)
    have nc19_19 := x_nei c19_19 (k := 19) (by decide)
    have nc19_20 := x_nei c19_20 (k := 20) (by decide)
    have nc19_21 := x_nei c19_21 (k := 21) (by decide)
    have nc19_22 := x_nei c19_22 (k := 22) (by decide)
    have nc19_23 := x_nei c19_23 (k := 23) (by decide)
    have nc19_24 := x_nei c19_24 (k := 24) (by decide)
    refine lv_tableOut (tgt := 223) hx hb dX6_answerOf_19 (by omega) (by decide) ?_
    refine lv_iconst (v := (0 : Int32)) hx hb dX6_answerOf_223 (by decide) ?_
    exact x_iret hB hz hE dX6_answerOf_224
  · have hE := (if_neg c3).symm.trans hE
    refine lv_iconst (v := (0 : Int32)) hx hb dX6_answerOf_6 (by decide) ?_
    exact x_iret hB hz hE dX6_answerOf_7
theorem c_X6_answerOf_L1 (l : Launch) (g : GP) {x1 : Int32} {x2 : Int32} {x3 : Int32} {V : Mem} {o : Int32 × Mem} (hE : f_X6_answerOf_L1 x1 x2 x3 V = some o) : CT l g LX yX6_answerOf cX6_answerOf 5 (some .int) rm_X6_answerOf_L1 [.ref (ad g 0), .int x1, .int x2, .int x3] V (some (.int o.1)) o.2 := by
  refine ct_of (by decide) (Nat.le_of_ble_eq_true rfl) ?_
  intro p e s m args below meth c ls hB hz hl
  exact w_X6_answerOf_L1 hB _ _ _ _ _ _ _  hE hz hl
def rm_X6_answerTo_L1 : Room := { frames := 5, cells := 0, slots := 0, locals := 191 }
theorem i_X6_320_L1 {p : Program} {l : Launch} {e : Env} {R : Room} {s : State} {m : MethodId} {args : Array Value} {below : List Frame} {meth : Method} {c : Code} {H : Heap} {locs : List Loc} {Q : State → Prop} {cc : ByteArray} {pc : Nat} {ls : Array Slot} {rest : List Value} {g : GP} {V : Mem} {nL : Nat} {ret : Option FieldType} (hB : BX p s m args meth c g LX cc nL RX6 ret) (hz : OK g LX V s H locs) {i : Nat} (hk : KD LX i 5) {a0 : Int32} {a1 : Int32} {a2 : Int32} {r : Int32} {V1 : Mem} (hM : CT l g LX yX6_answerOf cX6_answerOf 5 (some .int) rm_X6_answerOf_L1 [.ref (ad g i), .int a0, .int a1, .int a2] V (some (.int r)) V1) (hR : rm_X6_answerOf_L1.frames + 1 ≤ R.frames ∧ 8 + (5 + 11) + rm_X6_answerOf_L1.locals ≤ R.locals) (hsz : ls.size = nL) (hrest : (rest.map fun v => v.category).sum ≤ 8) (hdg : decode cc pc = .ok (.invokevirtual 320, 3)) (kk : ∀ (H1 : Heap) (locs1 : List Loc), OK g LX V1 s H1 locs1 → W p l e R s m args below meth c H1 locs1 0 0 Q (F0 m (pc + 3) ls (.int r :: rest))) : W p l e R s m args below meth c H locs 0 0 Q (F0 m pc ls (.int a2 :: .int a1 :: .int a0 :: .ref (ad g i) :: rest)) :=
  x_cv (As := [.int a0, .int a1, .int a2]) (n := 3) (T := TX6) (N := 14) hB hz hM hk rfl rfl rfl rfl kw_695 kw_62 kw_692 kw_694 kw_20 (by decide +kernel) rfl hR hsz hrest hdg kk
set_option maxHeartbeats 4000000 in
set_option maxRecDepth 100000 in
theorem w_X6_answerTo_L1_63_t3 {p : Program} {l : Launch} {e : Env} {s : State} {m : MethodId} {args : Array Value} {below : List Frame} {meth : Method} {c : Code} {g : GP} (hB : BX p s m args meth c g LX cX6_answerTo 7 RX6 (some .int)) {o : Int32 × Mem} : ∀ (x2 : Int32) (x3 : Int32) (x5 : Int32) (V : Mem) (H : Heap) (locs : List Loc) (ls : Array Slot), f_X6_answerTo_L1_63_t3 x2 x3 x5 V = some o → OK g LX V s H locs → lv_has ls 7 [(0, .ref (ad g 0)), (2, .int x2), (3, .int x3), (4, .ref (sa g 3)), (5, .int x5)] → W p l e rm_X6_answerTo_L1 s m args below meth c H locs 0 0 (MQ below (QQ g LX (some (.int o.1)) o.2) args s 0 0 (Ar g LX)) (F0 m 63 ls []) := by
  obtain ⟨hx, hb, hml, hown, hT, hr, hlk, hK, hJ, hZ, hN⟩ := id hB
  intro x2 x3 x5 V H locs ls hE hz hl
  unfold f_X6_answerTo_L1_63_t3 at hE
  refine lv_aload_n hx hb dX6_answerTo_63 rfl (lv_at hl 0 rfl) ?_
  refine lv_aload hx hb dX6_answerTo_64 (lv_at hl 3 rfl) ?_
  refine lv_iload hx hb dX6_answerTo_66 (lv_at hl 4 rfl) ?_
  obtain ⟨hi68, hE⟩ := x_chk hE
  refine x_sti (k := 3) (by decide) rfl hB hz hi68 dX6_answerTo_68 ?_
  refine lv_iload_n hx hb dX6_answerTo_69 rfl (lv_at hl 1 rfl) ?_
  refine lv_iload_n hx hb dX6_answerTo_70 rfl (lv_at hl 2 rfl) ?_
  refine lv_iconst (v := (1 : Int32)) hx hb dX6_answerTo_71 (by decide) ?_
  refine lv_iadd hx hb dX6_answerTo_72 ?_
  obtain ⟨q73, hq73, hE⟩ := x_bind hE
  refine i_X6_320_L1 hB hz kdX_0 (c_X6_answerOf_L1 l g  hq73) ⟨(Nat.le_of_ble_eq_true rfl), (Nat.le_of_ble_eq_true rfl)⟩ hl.1 (Nat.le_of_ble_eq_true rfl) dX6_answerTo_73 (fun H locs hz => ?_)
  exact x_iret hB hz hE dX6_answerTo_76

set_option maxHeartbeats 4000000 in
set_option maxRecDepth 100000 in
theorem w_X6_answerTo_L1_29_t3 {p : Program} {l : Launch} {e : Env} {s : State} {m : MethodId} {args : Array Value} {below : List Frame} {meth : Method} {c : Code} {g : GP} (hB : BX p s m args meth c g LX cX6_answerTo 7 RX6 (some .int)) {o : Int32 × Mem} : ∀ (n : Nat), ∀ (x2 : Int32) (x3 : Int32) (x5 : Int32) (x6 : Int32) (V : Mem) (H : Heap) (locs : List Loc) (ls : Array Slot), f_X6_answerTo_L1_29_t3 n x2 x3 x5 x6 V = some o → OK g LX V s H locs → lv_has ls 7 [(0, .ref (ad g 0)), (2, .int x2), (3, .int x3), (4, .ref (sa g 3)), (5, .int x5), (6, .int x6)] → W p l e rm_X6_answerTo_L1 s m args below meth c H locs 0 0 (MQ below (QQ g LX (some (.int o.1)) o.2) args s 0 0 (Ar g LX)) (F0 m 29 ls []) := by
  obtain ⟨hx, hb, hml, hown, hT, hr, hlk, hK, hJ, hZ, hN⟩ := id hB
  intro n
  induction n with
  | zero =>
    intro x2 x3 x5 x6 V H locs ls hE hz hl
    exact absurd (show (none : Option (Int32 × Mem)) = some o from hE) (by simp)
  | succ n ih =>
    intro x2 x3 x5 x6 V H locs ls hE hz hl
    unfold f_X6_answerTo_L1_29_t3 at hE
    refine lv_iload hx hb dX6_answerTo_29 (lv_at hl 5 rfl) ?_
    refine lv_bipush (v := (6 : Int32)) hx hb dX6_answerTo_31 (by decide) ?_
    refine lv_icmp_ge (tgt := 63) hx hb dX6_answerTo_33 (by decide) (fun c33 => ?_) (fun c33 => ?_)
    · have hE := (if_pos c33).symm.trans hE
      exact w_X6_answerTo_L1_63_t3 hB  _ _ _ _ _ _ _  hE hz (lv_sub hl [0, 1, 2, 3, 4] rfl)
    · have hE := (if_neg c33).symm.trans hE
      refine lv_iload hx hb dX6_answerTo_36 (lv_at hl 4 rfl) ?_
      refine lv_if_eq (tgt := 63) hx hb dX6_answerTo_38 (by decide) (fun c38 => ?_) (fun c38 => ?_)
      · have hE := (if_pos c38).symm.trans hE
        exact w_X6_answerTo_L1_63_t3 hB  _ _ _ _ _ _ _  hE hz (lv_sub hl [0, 1, 2, 3, 4] rfl)
      · have hE := (if_neg c38).symm.trans hE
        refine lv_aload hx hb dX6_answerTo_41 (lv_at hl 3 rfl) ?_
        refine lv_iload hx hb dX6_answerTo_43 (lv_at hl 4 rfl) ?_
        obtain ⟨hi45, hE⟩ := x_chk hE
        refine x_sti (k := 3) (by decide) rfl hB hz hi45 dX6_answerTo_45 ?_
        refine lv_if_ne (tgt := 63) hx hb dX6_answerTo_46 (by decide) (fun c46 => ?_) (fun c46 => ?_)
        · have hE := (if_neg c46).symm.trans hE
          exact w_X6_answerTo_L1_63_t3 hB  _ _ _ _ _ _ _  hE hz (lv_sub hl [0, 1, 2, 3, 4] rfl)
        · have hE := (if_pos c46).symm.trans hE
          refine x_gst (k := 0) (by decide) hB hz kw_678 dX6_answerTo_49 ?_
          refine lv_iload hx hb dX6_answerTo_52 (lv_at hl 4 rfl) ?_
          obtain ⟨hi54, hE⟩ := x_chk hE
          refine x_sti (k := 0) (by decide) rfl hB hz hi54 dX6_answerTo_54 ?_
          refine lv_istore (lv' := [(5, .int (tba 0 (x5).toNatClampNeg)), (0, .ref (ad g 0)), (2, .int x2), (3, .int x3), (4, .ref (sa g 3)), (6, .int x6)]) hx hb dX6_answerTo_55 hl (by decide) rfl (fun ls hl => ?_)
          refine lv_iinc (v := (x6 + 1)) (lv' := [(6, .int (x6 + 1)), (5, .int (tba 0 (x5).toNatClampNeg)), (0, .ref (ad g 0)), (2, .int x2), (3, .int x3), (4, .ref (sa g 3))]) hx hb dX6_answerTo_57 hl (k := 5) rfl rfl (by decide) rfl (fun ls hl => ?_)
          refine lv_goto (tgt := 29) hx hb dX6_answerTo_60 (by decide) ?_
          exact ih _ _ _ _ _ _ _ _  hE hz (lv_sub hl [2, 3, 4, 5, 1, 0] rfl)

set_option maxHeartbeats 4000000 in
set_option maxRecDepth 100000 in
theorem w_X6_answerTo_L1_13_u3 {p : Program} {l : Launch} {e : Env} {s : State} {m : MethodId} {args : Array Value} {below : List Frame} {meth : Method} {c : Code} {g : GP} (hB : BX p s m args meth c g LX cX6_answerTo 7 RX6 (some .int)) {o : Int32 × Mem} : ∀ (x2 : Int32) (x3 : Int32) (V : Mem) (H : Heap) (locs : List Loc) (ls : Array Slot), f_X6_answerTo_L1_13_u3 x2 x3 V = some o → OK g LX V s H locs → lv_has ls 7 [(0, .ref (ad g 0)), (2, .int x2), (3, .int x3)] → W p l e rm_X6_answerTo_L1 s m args below meth c H locs 0 0 (MQ below (QQ g LX (some (.int o.1)) o.2) args s 0 0 (Ar g LX)) (F0 m 13 ls [.ref (sa g 3)]) := by
  obtain ⟨hx, hb, hml, hown, hT, hr, hlk, hK, hJ, hZ, hN⟩ := id hB
  intro x2 x3 V H locs ls hE hz hl
  unfold f_X6_answerTo_L1_13_u3 at hE
  refine lv_astore (lv' := [(4, .ref (sa g 3)), (0, .ref (ad g 0)), (2, .int x2), (3, .int x3)]) hx hb dX6_answerTo_13 hl (by decide) rfl (fun ls hl => ?_)
  refine lv_aload_n hx hb dX6_answerTo_15 rfl (lv_at hl 1 rfl) ?_
  refine g_X6_25 hB hz kdX_0 dX6_answerTo_16 ?_
  refine g_X6_183 hB hz kdX_4 dX6_answerTo_19 ?_
  refine lv_iload_n hx hb dX6_answerTo_22 rfl (lv_at hl 2 rfl) ?_
  obtain ⟨hi23, hE⟩ := x_chk hE
  refine x_iald (n := 24) hB hz kdX_6 hi23 dX6_answerTo_23 ?_
  refine lv_istore (lv' := [(5, .int (V 6 (x2).toNatClampNeg)), (4, .ref (sa g 3)), (0, .ref (ad g 0)), (2, .int x2), (3, .int x3)]) hx hb dX6_answerTo_24 hl (by decide) rfl (fun ls hl => ?_)
  refine lv_iconst (v := (0 : Int32)) hx hb dX6_answerTo_26 (by decide) ?_
  refine lv_istore (lv' := [(6, .int (0 : Int32)), (5, .int (V 6 (x2).toNatClampNeg)), (4, .ref (sa g 3)), (0, .ref (ad g 0)), (2, .int x2), (3, .int x3)]) hx hb dX6_answerTo_27 hl (by decide) rfl (fun ls hl => ?_)
  exact w_X6_answerTo_L1_29_t3 hB  _ _ _ _ _ _ _ _ _  hE hz (lv_sub hl [3, 4, 5, 2, 1, 0] rfl)

set_option maxHeartbeats 4000000 in
set_option maxRecDepth 100000 in
theorem w_X6_answerTo_L1_63_t2 {p : Program} {l : Launch} {e : Env} {s : State} {m : MethodId} {args : Array Value} {below : List Frame} {meth : Method} {c : Code} {g : GP} (hB : BX p s m args meth c g LX cX6_answerTo 7 RX6 (some .int)) {o : Int32 × Mem} : ∀ (x2 : Int32) (x3 : Int32) (x5 : Int32) (V : Mem) (H : Heap) (locs : List Loc) (ls : Array Slot), f_X6_answerTo_L1_63_t2 x2 x3 x5 V = some o → OK g LX V s H locs → lv_has ls 7 [(0, .ref (ad g 0)), (2, .int x2), (3, .int x3), (4, .ref (sa g 2)), (5, .int x5)] → W p l e rm_X6_answerTo_L1 s m args below meth c H locs 0 0 (MQ below (QQ g LX (some (.int o.1)) o.2) args s 0 0 (Ar g LX)) (F0 m 63 ls []) := by
  obtain ⟨hx, hb, hml, hown, hT, hr, hlk, hK, hJ, hZ, hN⟩ := id hB
  intro x2 x3 x5 V H locs ls hE hz hl
  unfold f_X6_answerTo_L1_63_t2 at hE
  refine lv_aload_n hx hb dX6_answerTo_63 rfl (lv_at hl 0 rfl) ?_
  refine lv_aload hx hb dX6_answerTo_64 (lv_at hl 3 rfl) ?_
  refine lv_iload hx hb dX6_answerTo_66 (lv_at hl 4 rfl) ?_
  obtain ⟨hi68, hE⟩ := x_chk hE
  refine x_sti (k := 2) (by decide) rfl hB hz hi68 dX6_answerTo_68 ?_
  refine lv_iload_n hx hb dX6_answerTo_69 rfl (lv_at hl 1 rfl) ?_
  refine lv_iload_n hx hb dX6_answerTo_70 rfl (lv_at hl 2 rfl) ?_
  refine lv_iconst (v := (1 : Int32)) hx hb dX6_answerTo_71 (by decide) ?_
  refine lv_iadd hx hb dX6_answerTo_72 ?_
  obtain ⟨q73, hq73, hE⟩ := x_bind hE
  refine i_X6_320_L1 hB hz kdX_0 (c_X6_answerOf_L1 l g  hq73) ⟨(Nat.le_of_ble_eq_true rfl), (Nat.le_of_ble_eq_true rfl)⟩ hl.1 (Nat.le_of_ble_eq_true rfl) dX6_answerTo_73 (fun H locs hz => ?_)
  exact x_iret hB hz hE dX6_answerTo_76

set_option maxHeartbeats 4000000 in
set_option maxRecDepth 100000 in
theorem w_X6_answerTo_L1_29_t2 {p : Program} {l : Launch} {e : Env} {s : State} {m : MethodId} {args : Array Value} {below : List Frame} {meth : Method} {c : Code} {g : GP} (hB : BX p s m args meth c g LX cX6_answerTo 7 RX6 (some .int)) {o : Int32 × Mem} : ∀ (n : Nat), ∀ (x2 : Int32) (x3 : Int32) (x5 : Int32) (x6 : Int32) (V : Mem) (H : Heap) (locs : List Loc) (ls : Array Slot), f_X6_answerTo_L1_29_t2 n x2 x3 x5 x6 V = some o → OK g LX V s H locs → lv_has ls 7 [(0, .ref (ad g 0)), (2, .int x2), (3, .int x3), (4, .ref (sa g 2)), (5, .int x5), (6, .int x6)] → W p l e rm_X6_answerTo_L1 s m args below meth c H locs 0 0 (MQ below (QQ g LX (some (.int o.1)) o.2) args s 0 0 (Ar g LX)) (F0 m 29 ls []) := by
  obtain ⟨hx, hb, hml, hown, hT, hr, hlk, hK, hJ, hZ, hN⟩ := id hB
  intro n
  induction n with
  | zero =>
    intro x2 x3 x5 x6 V H locs ls hE hz hl
    exact absurd (show (none : Option (Int32 × Mem)) = some o from hE) (by simp)
  | succ n ih =>
    intro x2 x3 x5 x6 V H locs ls hE hz hl
    unfold f_X6_answerTo_L1_29_t2 at hE
    refine lv_iload hx hb dX6_answerTo_29 (lv_at hl 5 rfl) ?_
    refine lv_bipush (v := (6 : Int32)) hx hb dX6_answerTo_31 (by decide) ?_
    refine lv_icmp_ge (tgt := 63) hx hb dX6_answerTo_33 (by decide) (fun c33 => ?_) (fun c33 => ?_)
    · have hE := (if_pos c33).symm.trans hE
      exact w_X6_answerTo_L1_63_t2 hB  _ _ _ _ _ _ _  hE hz (lv_sub hl [0, 1, 2, 3, 4] rfl)
    · have hE := (if_neg c33).symm.trans hE
      refine lv_iload hx hb dX6_answerTo_36 (lv_at hl 4 rfl) ?_
      refine lv_if_eq (tgt := 63) hx hb dX6_answerTo_38 (by decide) (fun c38 => ?_) (fun c38 => ?_)
      · have hE := (if_pos c38).symm.trans hE
        exact w_X6_answerTo_L1_63_t2 hB  _ _ _ _ _ _ _  hE hz (lv_sub hl [0, 1, 2, 3, 4] rfl)
      · have hE := (if_neg c38).symm.trans hE
        refine lv_aload hx hb dX6_answerTo_41 (lv_at hl 3 rfl) ?_
        refine lv_iload hx hb dX6_answerTo_43 (lv_at hl 4 rfl) ?_
        obtain ⟨hi45, hE⟩ := x_chk hE
        refine x_sti (k := 2) (by decide) rfl hB hz hi45 dX6_answerTo_45 ?_
        refine lv_if_ne (tgt := 63) hx hb dX6_answerTo_46 (by decide) (fun c46 => ?_) (fun c46 => ?_)
        · have hE := (if_neg c46).symm.trans hE
          exact w_X6_answerTo_L1_63_t2 hB  _ _ _ _ _ _ _  hE hz (lv_sub hl [0, 1, 2, 3, 4] rfl)
        · have hE := (if_pos c46).symm.trans hE
          refine x_gst (k := 0) (by decide) hB hz kw_678 dX6_answerTo_49 ?_
          refine lv_iload hx hb dX6_answerTo_52 (lv_at hl 4 rfl) ?_
          obtain ⟨hi54, hE⟩ := x_chk hE
          refine x_sti (k := 0) (by decide) rfl hB hz hi54 dX6_answerTo_54 ?_
          refine lv_istore (lv' := [(5, .int (tba 0 (x5).toNatClampNeg)), (0, .ref (ad g 0)), (2, .int x2), (3, .int x3), (4, .ref (sa g 2)), (6, .int x6)]) hx hb dX6_answerTo_55 hl (by decide) rfl (fun ls hl => ?_)
          refine lv_iinc (v := (x6 + 1)) (lv' := [(6, .int (x6 + 1)), (5, .int (tba 0 (x5).toNatClampNeg)), (0, .ref (ad g 0)), (2, .int x2), (3, .int x3), (4, .ref (sa g 2))]) hx hb dX6_answerTo_57 hl (k := 5) rfl rfl (by decide) rfl (fun ls hl => ?_)
          refine lv_goto (tgt := 29) hx hb dX6_answerTo_60 (by decide) ?_
          exact ih _ _ _ _ _ _ _ _  hE hz (lv_sub hl [2, 3, 4, 5, 1, 0] rfl)

set_option maxHeartbeats 4000000 in
set_option maxRecDepth 100000 in
theorem w_X6_answerTo_L1_13_u2 {p : Program} {l : Launch} {e : Env} {s : State} {m : MethodId} {args : Array Value} {below : List Frame} {meth : Method} {c : Code} {g : GP} (hB : BX p s m args meth c g LX cX6_answerTo 7 RX6 (some .int)) {o : Int32 × Mem} : ∀ (x2 : Int32) (x3 : Int32) (V : Mem) (H : Heap) (locs : List Loc) (ls : Array Slot), f_X6_answerTo_L1_13_u2 x2 x3 V = some o → OK g LX V s H locs → lv_has ls 7 [(0, .ref (ad g 0)), (2, .int x2), (3, .int x3)] → W p l e rm_X6_answerTo_L1 s m args below meth c H locs 0 0 (MQ below (QQ g LX (some (.int o.1)) o.2) args s 0 0 (Ar g LX)) (F0 m 13 ls [.ref (sa g 2)]) := by
  obtain ⟨hx, hb, hml, hown, hT, hr, hlk, hK, hJ, hZ, hN⟩ := id hB
  intro x2 x3 V H locs ls hE hz hl
  unfold f_X6_answerTo_L1_13_u2 at hE
  refine lv_astore (lv' := [(4, .ref (sa g 2)), (0, .ref (ad g 0)), (2, .int x2), (3, .int x3)]) hx hb dX6_answerTo_13 hl (by decide) rfl (fun ls hl => ?_)
  refine lv_aload_n hx hb dX6_answerTo_15 rfl (lv_at hl 1 rfl) ?_
  refine g_X6_25 hB hz kdX_0 dX6_answerTo_16 ?_
  refine g_X6_183 hB hz kdX_4 dX6_answerTo_19 ?_
  refine lv_iload_n hx hb dX6_answerTo_22 rfl (lv_at hl 2 rfl) ?_
  obtain ⟨hi23, hE⟩ := x_chk hE
  refine x_iald (n := 24) hB hz kdX_6 hi23 dX6_answerTo_23 ?_
  refine lv_istore (lv' := [(5, .int (V 6 (x2).toNatClampNeg)), (4, .ref (sa g 2)), (0, .ref (ad g 0)), (2, .int x2), (3, .int x3)]) hx hb dX6_answerTo_24 hl (by decide) rfl (fun ls hl => ?_)
  refine lv_iconst (v := (0 : Int32)) hx hb dX6_answerTo_26 (by decide) ?_
  refine lv_istore (lv' := [(6, .int (0 : Int32)), (5, .int (V 6 (x2).toNatClampNeg)), (4, .ref (sa g 2)), (0, .ref (ad g 0)), (2, .int x2), (3, .int x3)]) hx hb dX6_answerTo_27 hl (by decide) rfl (fun ls hl => ?_)
  exact w_X6_answerTo_L1_29_t2 hB  _ _ _ _ _ _ _ _ _  hE hz (lv_sub hl [3, 4, 5, 2, 1, 0] rfl)

set_option maxHeartbeats 4000000 in
set_option maxRecDepth 100000 in
theorem w_X6_answerTo_L1 {p : Program} {l : Launch} {e : Env} {s : State} {m : MethodId} {args : Array Value} {below : List Frame} {meth : Method} {c : Code} {g : GP} (hB : BX p s m args meth c g LX cX6_answerTo 7 RX6 (some .int)) {o : Int32 × Mem} : ∀ (x1 : Int32) (x2 : Int32) (x3 : Int32) (V : Mem) (H : Heap) (locs : List Loc) (ls : Array Slot), f_X6_answerTo_L1 x1 x2 x3 V = some o → OK g LX V s H locs → lv_has ls 7 [(0, .ref (ad g 0)), (1, .int x1), (2, .int x2), (3, .int x3)] → W p l e rm_X6_answerTo_L1 s m args below meth c H locs 0 0 (MQ below (QQ g LX (some (.int o.1)) o.2) args s 0 0 (Ar g LX)) (F0 m 0 ls []) := by
  obtain ⟨hx, hb, hml, hown, hT, hr, hlk, hK, hJ, hZ, hN⟩ := id hB
  intro x1 x2 x3 V H locs ls hE hz hl
  unfold f_X6_answerTo_L1 at hE
  refine lv_iload_n hx hb dX6_answerTo_0 rfl (lv_at hl 1 rfl) ?_
  refine lv_if_ne (tgt := 10) hx hb dX6_answerTo_1 (by decide) (fun c1 => ?_) (fun c1 => ?_)
  · have hE := (if_neg c1).symm.trans hE
    refine x_gst (k := 3) (by decide) hB hz kw_690 dX6_answerTo_10 ?_
    exact w_X6_answerTo_L1_13_u3 hB  _ _ _ _ _ _  hE hz (lv_sub hl [0, 2, 3] rfl)
  · have hE := (if_pos c1).symm.trans hE
    refine x_gst (k := 2) (by decide) hB hz kw_688 dX6_answerTo_4 ?_
    refine lv_goto (tgt := 13) hx hb dX6_answerTo_7 (by decide) ?_
    exact w_X6_answerTo_L1_13_u2 hB  _ _ _ _ _ _  hE hz (lv_sub hl [0, 2, 3] rfl)
theorem c_X6_answerTo_L1 (l : Launch) (g : GP) {x1 : Int32} {x2 : Int32} {x3 : Int32} {V : Mem} {o : Int32 × Mem} (hE : f_X6_answerTo_L1 x1 x2 x3 V = some o) : CT l g LX yX6_answerTo cX6_answerTo 7 (some .int) rm_X6_answerTo_L1 [.ref (ad g 0), .int x1, .int x2, .int x3] V (some (.int o.1)) o.2 := by
  refine ct_of (by decide) (Nat.le_of_ble_eq_true rfl) ?_
  intro p e s m args below meth c ls hB hz hl
  exact w_X6_answerTo_L1 hB _ _ _ _ _ _ _  hE hz hl
def rm_X6_answerOf_L2 : Room := { frames := 6, cells := 0, slots := 0, locals := 217 }
theorem i_X6_295_L1 {p : Program} {l : Launch} {e : Env} {R : Room} {s : State} {m : MethodId} {args : Array Value} {below : List Frame} {meth : Method} {c : Code} {H : Heap} {locs : List Loc} {Q : State → Prop} {cc : ByteArray} {pc : Nat} {ls : Array Slot} {rest : List Value} {g : GP} {V : Mem} {nL : Nat} {ret : Option FieldType} (hB : BX p s m args meth c g LX cc nL RX6 ret) (hz : OK g LX V s H locs) {i : Nat} (hk : KD LX i 5) {a0 : Int32} {a1 : Int32} {a2 : Int32} {r : Int32} {V1 : Mem} (hM : CT l g LX yX6_answerTo cX6_answerTo 7 (some .int) rm_X6_answerTo_L1 [.ref (ad g i), .int a0, .int a1, .int a2] V (some (.int r)) V1) (hR : rm_X6_answerTo_L1.frames + 1 ≤ R.frames ∧ 8 + (7 + 11) + rm_X6_answerTo_L1.locals ≤ R.locals) (hsz : ls.size = nL) (hrest : (rest.map fun v => v.category).sum ≤ 8) (hdg : decode cc pc = .ok (.invokevirtual 295, 3)) (kk : ∀ (H1 : Heap) (locs1 : List Loc), OK g LX V1 s H1 locs1 → W p l e R s m args below meth c H1 locs1 0 0 Q (F0 m (pc + 3) ls (.int r :: rest))) : W p l e R s m args below meth c H locs 0 0 Q (F0 m pc ls (.int a2 :: .int a1 :: .int a0 :: .ref (ad g i) :: rest)) :=
  x_cv (As := [.int a0, .int a1, .int a2]) (n := 3) (T := TX6) (N := 14) hB hz hM hk rfl rfl rfl rfl kw_687 kw_62 kw_684 kw_686 kw_19 (by decide +kernel) rfl hR hsz hrest hdg kk
set_option maxHeartbeats 4000000 in
set_option maxRecDepth 100000 in
theorem w_X6_answerOf_L2 {p : Program} {l : Launch} {e : Env} {s : State} {m : MethodId} {args : Array Value} {below : List Frame} {meth : Method} {c : Code} {g : GP} (hB : BX p s m args meth c g LX cX6_answerOf 5 RX6 (some .int)) {o : Int32 × Mem} : ∀ (x1 : Int32) (x2 : Int32) (x3 : Int32) (V : Mem) (H : Heap) (locs : List Loc) (ls : Array Slot), f_X6_answerOf_L2 x1 x2 x3 V = some o → OK g LX V s H locs → lv_has ls 5 [(0, .ref (ad g 0)), (1, .int x1), (2, .int x2), (3, .int x3)] → W p l e rm_X6_answerOf_L2 s m args below meth c H locs 0 0 (MQ below (QQ g LX (some (.int o.1)) o.2) args s 0 0 (Ar g LX)) (F0 m 0 ls []) := by
  obtain ⟨hx, hb, hml, hown, hT, hr, hlk, hK, hJ, hZ, hN⟩ := id hB
  intro x1 x2 x3 V H locs ls hE hz hl
  unfold f_X6_answerOf_L2 at hE
  refine lv_iload_n hx hb dX6_answerOf_0 rfl (lv_at hl 3 rfl) ?_
  refine lv_bipush (v := (20 : Int32)) hx hb dX6_answerOf_1 (by decide) ?_
  refine lv_icmp_le (tgt := 8) hx hb dX6_answerOf_3 (by decide) (fun c3 => ?_) (fun c3 => ?_)
  · have hE := (if_pos c3).symm.trans hE
    refine lv_aload_n hx hb dX6_answerOf_8 rfl (lv_at hl 0 rfl) ?_
    refine lv_iload_n hx hb dX6_answerOf_9 rfl (lv_at hl 1 rfl) ?_
    obtain ⟨q10, hq10, hE⟩ := x_bind hE
    refine i_X6_323 hB hz kdX_0 (c_X6_leaveTrace l g  hq10) ⟨(Nat.le_of_ble_eq_true rfl), (Nat.le_of_ble_eq_true rfl)⟩ hl.1 (Nat.le_of_ble_eq_true rfl) dX6_answerOf_10 (fun H locs hz => ?_)
    refine lv_iload_n hx hb dX6_answerOf_13 rfl (lv_at hl 3 rfl) ?_
    refine lv_iconst (v := (1 : Int32)) hx hb dX6_answerOf_14 (by decide) ?_
    refine lv_iadd hx hb dX6_answerOf_15 ?_
    refine lv_istore (lv' := [(4, .int (x3 + (1 : Int32))), (0, .ref (ad g 0)), (1, .int x1), (2, .int x2), (3, .int x3)]) hx hb dX6_answerOf_16 hl (by decide) rfl (fun ls hl => ?_)
    refine lv_iload_n hx hb dX6_answerOf_18 rfl (lv_at hl 2 rfl) ?_
    by_cases c19_10 : x1 = (10 : Int32)
    · have hE := (if_pos c19_10).symm.trans hE
      refine lv_tableIn (tgt := 92) hx hb dX6_answerOf_19 (by rw [c19_10]; decide) (by rw [c19_10]; decide) (by rw [c19_10]; rfl) (by decide) ?_
      refine lv_aload_n hx hb dX6_answerOf_92 rfl (lv_at hl 1 rfl) ?_
      refine g_X6_25 hB hz kdX_0 dX6_answerOf_93 ?_
      refine g_X6_195 hB hz kdX_4 dX6_answerOf_96 ?_
      refine lv_iload_n hx hb dX6_answerOf_99 rfl (lv_at hl 3 rfl) ?_
      obtain ⟨hi100, hE⟩ := x_chk hE
      refine x_iald (n := 24) hB hz kdX_8 hi100 dX6_answerOf_100 ?_
      exact x_iret hB hz hE dX6_answerOf_101
    have hE := (if_neg c19_10).symm.trans hE
    by_cases c19_11 : x1 = (11 : Int32)
    · have hE := (if_pos c19_11).symm.trans hE
      refine lv_tableIn (tgt := 102) hx hb dX6_answerOf_19 (by rw [c19_11]; decide) (by rw [c19_11]; decide) (by rw [c19_11]; rfl) (by decide) ?_
      refine lv_aload_n hx hb dX6_answerOf_102 rfl (lv_at hl 1 rfl) ?_
      refine lv_bipush (v := (10 : Int32)) hx hb dX6_answerOf_103 (by decide) ?_
      refine lv_iload_n hx hb dX6_answerOf_105 rfl (lv_at hl 3 rfl) ?_
      refine lv_iload hx hb dX6_answerOf_106 (lv_at hl 0 rfl) ?_
      obtain ⟨q108, hq108, hE⟩ := x_bind hE
      refine i_X6_320_L1 hB hz kdX_0 (c_X6_answerOf_L1 l g  hq108) ⟨(Nat.le_of_ble_eq_true rfl), (Nat.le_of_ble_eq_true rfl)⟩ hl.1 (Nat.le_of_ble_eq_true rfl) dX6_answerOf_108 (fun H locs hz => ?_)
      refine lv_aload_n hx hb dX6_answerOf_111 rfl (lv_at hl 1 rfl) ?_
      refine lv_iconst (v := (1 : Int32)) hx hb dX6_answerOf_112 (by decide) ?_
      refine lv_iload_n hx hb dX6_answerOf_113 rfl (lv_at hl 3 rfl) ?_
      refine lv_iload hx hb dX6_answerOf_114 (lv_at hl 0 rfl) ?_
      obtain ⟨q116, hq116, hE⟩ := x_bind hE
      refine i_X6_295_L1 hB hz kdX_0 (c_X6_answerTo_L1 l g  hq116) ⟨(Nat.le_of_ble_eq_true rfl), (Nat.le_of_ble_eq_true rfl)⟩ hl.1 (Nat.le_of_ble_eq_true rfl) dX6_answerOf_116 (fun H locs hz => ?_)
      refine lv_iadd hx hb dX6_answerOf_119 ?_
      exact x_iret hB hz hE dX6_answerOf_120
    have hE := (if_neg c19_11).symm.trans hE
    by_cases c19_12 : x1 = (12 : Int32)
    · have hE := (if_pos c19_12).symm.trans hE
      refine lv_tableIn (tgt := 121) hx hb dX6_answerOf_19 (by rw [c19_12]; decide) (by rw [c19_12]; decide) (by rw [c19_12]; rfl) (by decide) ?_
      refine lv_aload_n hx hb dX6_answerOf_121 rfl (lv_at hl 1 rfl) ?_
      refine lv_bipush (v := (11 : Int32)) hx hb dX6_answerOf_122 (by decide) ?_
      refine lv_iload_n hx hb dX6_answerOf_124 rfl (lv_at hl 3 rfl) ?_
      refine lv_iload hx hb dX6_answerOf_125 (lv_at hl 0 rfl) ?_
      obtain ⟨q127, hq127, hE⟩ := x_bind hE
      refine i_X6_320_L1 hB hz kdX_0 (c_X6_answerOf_L1 l g  hq127) ⟨(Nat.le_of_ble_eq_true rfl), (Nat.le_of_ble_eq_true rfl)⟩ hl.1 (Nat.le_of_ble_eq_true rfl) dX6_answerOf_127 (fun H locs hz => ?_)
      refine lv_ineg hx hb dX6_answerOf_130 ?_
      exact x_iret hB hz hE dX6_answerOf_131
    have hE := (if_neg c19_12).symm.trans hE
    by_cases c19_13 : x1 = (13 : Int32)
    · have hE := (if_pos c19_13).symm.trans hE
      refine lv_tableIn (tgt := 132) hx hb dX6_answerOf_19 (by rw [c19_13]; decide) (by rw [c19_13]; decide) (by rw [c19_13]; rfl) (by decide) ?_
      refine lv_aload_n hx hb dX6_answerOf_132 rfl (lv_at hl 1 rfl) ?_
      refine lv_bipush (v := (10 : Int32)) hx hb dX6_answerOf_133 (by decide) ?_
      refine lv_iload_n hx hb dX6_answerOf_135 rfl (lv_at hl 3 rfl) ?_
      refine lv_iload hx hb dX6_answerOf_136 (lv_at hl 0 rfl) ?_
      obtain ⟨q138, hq138, hE⟩ := x_bind hE
      refine i_X6_320_L1 hB hz kdX_0 (c_X6_answerOf_L1 l g  hq138) ⟨(Nat.le_of_ble_eq_true rfl), (Nat.le_of_ble_eq_true rfl)⟩ hl.1 (Nat.le_of_ble_eq_true rfl) dX6_answerOf_138 (fun H locs hz => ?_)
      refine lv_bipush (v := (100 : Int32)) hx hb dX6_answerOf_141 (by decide) ?_
      refine lv_isub hx hb dX6_answerOf_143 ?_
      exact x_iret hB hz hE dX6_answerOf_144
    have hE := (if_neg c19_13).symm.trans hE
    by_cases c19_14 : x1 = (14 : Int32)
    · have hE := (if_pos c19_14).symm.trans hE
      refine lv_tableIn (tgt := 145) hx hb dX6_answerOf_19 (by rw [c19_14]; decide) (by rw [c19_14]; decide) (by rw [c19_14]; rfl) (by decide) ?_
      refine lv_iconst (v := (2 : Int32)) hx hb dX6_answerOf_145 (by decide) ?_
      refine lv_aload_n hx hb dX6_answerOf_146 rfl (lv_at hl 1 rfl) ?_
      refine lv_bipush (v := (13 : Int32)) hx hb dX6_answerOf_147 (by decide) ?_
      refine lv_iload_n hx hb dX6_answerOf_149 rfl (lv_at hl 3 rfl) ?_
      refine lv_iload hx hb dX6_answerOf_150 (lv_at hl 0 rfl) ?_
      obtain ⟨q152, hq152, hE⟩ := x_bind hE
      refine i_X6_320_L1 hB hz kdX_0 (c_X6_answerOf_L1 l g  hq152) ⟨(Nat.le_of_ble_eq_true rfl), (Nat.le_of_ble_eq_true rfl)⟩ hl.1 (Nat.le_of_ble_eq_true rfl) dX6_answerOf_152 (fun H locs hz => ?_)
      refine lv_imul hx hb dX6_answerOf_155 ?_
      exact x_iret hB hz hE dX6_answerOf_156
    have hE := (if_neg c19_14).symm.trans hE
    by_cases c19_15 : x1 = (15 : Int32)
    · have hE := (if_pos c19_15).symm.trans hE
      refine lv_tableIn (tgt := 223) hx hb dX6_answerOf_19 (by rw [c19_15]; decide) (by rw [c19_15]; decide) (by rw [c19_15]; rfl) (by decide) ?_
      refine lv_iconst (v := (0 : Int32)) hx hb dX6_answerOf_223 (by decide) ?_
      exact x_iret hB hz hE dX6_answerOf_224
    have hE := (if_neg c19_15).symm.trans hE
    by_cases c19_16 : x1 = (16 : Int32)
    · have hE := (if_pos c19_16).symm.trans hE
      refine lv_tableIn (tgt := 223) hx hb dX6_answerOf_19 (by rw [c19_16]; decide) (by rw [c19_16]; decide) (by rw [c19_16]; rfl) (by decide) ?_
      refine lv_iconst (v := (0 : Int32)) hx hb dX6_answerOf_223 (by decide) ?_
      exact x_iret hB hz hE dX6_answerOf_224
    have hE := (if_neg c19_16).symm.trans hE
    by_cases c19_17 : x1 = (17 : Int32)
    · have hE := (if_pos c19_17).symm.trans hE
      refine lv_tableIn (tgt := 223) hx hb dX6_answerOf_19 (by rw [c19_17]; decide) (by rw [c19_17]; decide) (by rw [c19_17]; rfl) (by decide) ?_
      refine lv_iconst (v := (0 : Int32)) hx hb dX6_answerOf_223 (by decide) ?_
      exact x_iret hB hz hE dX6_answerOf_224
    have hE := (if_neg c19_17).symm.trans hE
    by_cases c19_18 : x1 = (18 : Int32)
    · have hE := (if_pos c19_18).symm.trans hE
      refine lv_tableIn (tgt := 223) hx hb dX6_answerOf_19 (by rw [c19_18]; decide) (by rw [c19_18]; decide) (by rw [c19_18]; rfl) (by decide) ?_
      refine lv_iconst (v := (0 : Int32)) hx hb dX6_answerOf_223 (by decide) ?_
      exact x_iret hB hz hE dX6_answerOf_224
    have hE := (if_neg c19_18).symm.trans hE
    by_cases c19_19 : x1 = (19 : Int32)
    · have hE := (if_pos c19_19).symm.trans hE
      refine lv_tableIn (tgt := 223) hx hb dX6_answerOf_19 (by rw [c19_19]; decide) (by rw [c19_19]; decide) (by rw [c19_19]; rfl) (by decide) ?_
      refine lv_iconst (v := (0 : Int32)) hx hb dX6_answerOf_223 (by decide) ?_
      exact x_iret hB hz hE dX6_answerOf_224
    have hE := (if_neg c19_19).symm.trans hE
    by_cases c19_20 : x1 = (20 : Int32)
    · have hE := (if_pos c19_20).symm.trans hE
      refine lv_tableIn (tgt := 157) hx hb dX6_answerOf_19 (by rw [c19_20]; decide) (by rw [c19_20]; decide) (by rw [c19_20]; rfl) (by decide) ?_
      refine lv_iload_n hx hb dX6_answerOf_157 rfl (lv_at hl 3 rfl) ?_
      exact x_iret hB hz hE dX6_answerOf_158
    have hE := (if_neg c19_20).symm.trans hE
    by_cases c19_21 : x1 = (21 : Int32)
    · have hE := (if_pos c19_21).symm.trans hE
      refine lv_tableIn (tgt := 159) hx hb dX6_answerOf_19 (by rw [c19_21]; decide) (by rw [c19_21]; decide) (by rw [c19_21]; rfl) (by decide) ?_
      refine lv_aload_n hx hb dX6_answerOf_159 rfl (lv_at hl 1 rfl) ?_
      refine lv_bipush (v := (20 : Int32)) hx hb dX6_answerOf_160 (by decide) ?_
      refine lv_iload_n hx hb dX6_answerOf_162 rfl (lv_at hl 3 rfl) ?_
      refine lv_iload hx hb dX6_answerOf_163 (lv_at hl 0 rfl) ?_
      obtain ⟨q165, hq165, hE⟩ := x_bind hE
      refine i_X6_320_L1 hB hz kdX_0 (c_X6_answerOf_L1 l g  hq165) ⟨(Nat.le_of_ble_eq_true rfl), (Nat.le_of_ble_eq_true rfl)⟩ hl.1 (Nat.le_of_ble_eq_true rfl) dX6_answerOf_165 (fun H locs hz => ?_)
      refine lv_aload_n hx hb dX6_answerOf_168 rfl (lv_at hl 1 rfl) ?_
      refine g_X6_25 hB hz kdX_0 dX6_answerOf_169 ?_
      refine lv_iload_n hx hb dX6_answerOf_172 rfl (lv_at hl 3 rfl) ?_
      obtain ⟨q173, hq173, hE⟩ := x_bind hE
      refine i_X6_245 hB hz kdX_4 (c_X3_ownCount l g kdX_4 hq173) ⟨(Nat.le_of_ble_eq_true rfl), (Nat.le_of_ble_eq_true rfl)⟩ hl.1 (Nat.le_of_ble_eq_true rfl) dX6_answerOf_173 (fun H locs hz => ?_)
      refine lv_iadd hx hb dX6_answerOf_176 ?_
      exact x_iret hB hz hE dX6_answerOf_177
    have hE := (if_neg c19_21).symm.trans hE
    by_cases c19_22 : x1 = (22 : Int32)
    · have hE := (if_pos c19_22).symm.trans hE
      refine lv_tableIn (tgt := 178) hx hb dX6_answerOf_19 (by rw [c19_22]; decide) (by rw [c19_22]; decide) (by rw [c19_22]; rfl) (by decide) ?_
      refine lv_aload_n hx hb dX6_answerOf_178 rfl (lv_at hl 1 rfl) ?_
      refine lv_bipush (v := (21 : Int32)) hx hb dX6_answerOf_179 (by decide) ?_
      refine lv_iload_n hx hb dX6_answerOf_181 rfl (lv_at hl 3 rfl) ?_
      refine lv_iload hx hb dX6_answerOf_182 (lv_at hl 0 rfl) ?_
      obtain ⟨q184, hq184, hE⟩ := x_bind hE
      refine i_X6_320_L1 hB hz kdX_0 (c_X6_answerOf_L1 l g  hq184) ⟨(Nat.le_of_ble_eq_true rfl), (Nat.le_of_ble_eq_true rfl)⟩ hl.1 (Nat.le_of_ble_eq_true rfl) dX6_answerOf_184 (fun H locs hz => ?_)
      refine lv_sipush (v := (1000 : Int32)) hx hb dX6_answerOf_187 (by decide) ?_
      refine lv_isub hx hb dX6_answerOf_190 ?_
      exact x_iret hB hz hE dX6_answerOf_191
    have hE := (if_neg c19_22).symm.trans hE
    by_cases c19_23 : x1 = (23 : Int32)
    · have hE := (if_pos c19_23).symm.trans hE
      refine lv_tableIn (tgt := 192) hx hb dX6_answerOf_19 (by rw [c19_23]; decide) (by rw [c19_23]; decide) (by rw [c19_23]; rfl) (by decide) ?_
      refine lv_aload_n hx hb dX6_answerOf_192 rfl (lv_at hl 1 rfl) ?_
      refine lv_bipush (v := (20 : Int32)) hx hb dX6_answerOf_193 (by decide) ?_
      refine lv_iload_n hx hb dX6_answerOf_195 rfl (lv_at hl 3 rfl) ?_
      refine lv_iload hx hb dX6_answerOf_196 (lv_at hl 0 rfl) ?_
      obtain ⟨q198, hq198, hE⟩ := x_bind hE
      refine i_X6_320_L1 hB hz kdX_0 (c_X6_answerOf_L1 l g  hq198) ⟨(Nat.le_of_ble_eq_true rfl), (Nat.le_of_ble_eq_true rfl)⟩ hl.1 (Nat.le_of_ble_eq_true rfl) dX6_answerOf_198 (fun H locs hz => ?_)
      refine lv_aload_n hx hb dX6_answerOf_201 rfl (lv_at hl 1 rfl) ?_
      refine lv_iconst (v := (0 : Int32)) hx hb dX6_answerOf_202 (by decide) ?_
      refine lv_iload_n hx hb dX6_answerOf_203 rfl (lv_at hl 3 rfl) ?_
      refine lv_iload hx hb dX6_answerOf_204 (lv_at hl 0 rfl) ?_
      obtain ⟨q206, hq206, hE⟩ := x_bind hE
      refine i_X6_295_L1 hB hz kdX_0 (c_X6_answerTo_L1 l g  hq206) ⟨(Nat.le_of_ble_eq_true rfl), (Nat.le_of_ble_eq_true rfl)⟩ hl.1 (Nat.le_of_ble_eq_true rfl) dX6_answerOf_206 (fun H locs hz => ?_)
      refine lv_isub hx hb dX6_answerOf_209 ?_
      exact x_iret hB hz hE dX6_answerOf_210
    have hE := (if_neg c19_23).symm.trans hE
    by_cases c19_24 : x1 = (24 : Int32)
    · have hE := (if_pos c19_24).symm.trans hE
      refine lv_tableIn (tgt := 211) hx hb dX6_answerOf_19 (by rw [c19_24]; decide) (by rw [c19_24]; decide) (by rw [c19_24]; rfl) (by decide) ?_
      refine lv_iconst (v := (2 : Int32)) hx hb dX6_answerOf_211 (by decide) ?_
      refine lv_aload_n hx hb dX6_answerOf_212 rfl (lv_at hl 1 rfl) ?_
      refine lv_bipush (v := (21 : Int32)) hx hb dX6_answerOf_213 (by decide) ?_
      refine lv_iload_n hx hb dX6_answerOf_215 rfl (lv_at hl 3 rfl) ?_
      refine lv_iload hx hb dX6_answerOf_216 (lv_at hl 0 rfl) ?_
      obtain ⟨q218, hq218, hE⟩ := x_bind hE
      refine i_X6_320_L1 hB hz kdX_0 (c_X6_answerOf_L1 l g  hq218) ⟨(Nat.le_of_ble_eq_true rfl), (Nat.le_of_ble_eq_true rfl)⟩ hl.1 (Nat.le_of_ble_eq_true rfl) dX6_answerOf_218 (fun H locs hz => ?_)
      refine lv_imul hx hb dX6_answerOf_221 ?_
      exact x_iret hB hz hE dX6_answerOf_222
    have hE := (if_neg c19_24).symm.trans hE
    have nc19_10 := x_nei c19_10 (k := 10) (by decide)
    have nc19_11 := x_nei c19_11 (k := 11) (by decide)
    have nc19_12 := x_nei c19_12 (k := 12) (by decide)
    have nc19_13 := x_nei c19_13 (k := 13) (by decide)
    have nc19_14 := x_nei c19_14 (k := 14) (by decide)
    have nc19_15 := x_nei c19_15 (k := 15) (by decide)
    have nc19_16 := x_nei c19_16 (k := 16) (by decide)
    have nc19_17 := x_nei c19_17 (k := 17) (by decide)
    have nc19_18 := x_nei c19_18 (k := 18) (by decide)
    have nc19_19 := x_nei c19_19 (k := 19) (by decide)
    have nc19_20 := x_nei c19_20 (k := 20) (by decide)
    have nc19_21 := x_nei c19_21 (k := 21) (by decide)
    have nc19_22 := x_nei c19_22 (k := 22) (by decide)
    have nc19_23 := x_nei c19_23 (k := 23) (by decide)
    have nc19_24 := x_nei c19_24 (k := 24) (by decide)
    refine lv_tableOut (tgt := 223) hx hb dX6_answerOf_19 (by omega) (by decide) ?_
    refine lv_iconst (v := (0 : Int32)) hx hb dX6_answerOf_223 (by decide) ?_
    exact x_iret hB hz hE dX6_answerOf_224
  · have hE := (if_neg c3).symm.trans hE
    refine lv_iconst (v := (0 : Int32)) hx hb dX6_answerOf_6 (by decide) ?_
    exact x_iret hB hz hE dX6_answerOf_7
theorem c_X6_answerOf_L2 (l : Launch) (g : GP) {x1 : Int32} {x2 : Int32} {x3 : Int32} {V : Mem} {o : Int32 × Mem} (hE : f_X6_answerOf_L2 x1 x2 x3 V = some o) : CT l g LX yX6_answerOf cX6_answerOf 5 (some .int) rm_X6_answerOf_L2 [.ref (ad g 0), .int x1, .int x2, .int x3] V (some (.int o.1)) o.2 := by
  refine ct_of (by decide) (Nat.le_of_ble_eq_true rfl) ?_
  intro p e s m args below meth c ls hB hz hl
  exact w_X6_answerOf_L2 hB _ _ _ _ _ _ _  hE hz hl
def rm_X6_answerTo_L2 : Room := { frames := 7, cells := 0, slots := 0, locals := 241 }
theorem i_X6_320_L2 {p : Program} {l : Launch} {e : Env} {R : Room} {s : State} {m : MethodId} {args : Array Value} {below : List Frame} {meth : Method} {c : Code} {H : Heap} {locs : List Loc} {Q : State → Prop} {cc : ByteArray} {pc : Nat} {ls : Array Slot} {rest : List Value} {g : GP} {V : Mem} {nL : Nat} {ret : Option FieldType} (hB : BX p s m args meth c g LX cc nL RX6 ret) (hz : OK g LX V s H locs) {i : Nat} (hk : KD LX i 5) {a0 : Int32} {a1 : Int32} {a2 : Int32} {r : Int32} {V1 : Mem} (hM : CT l g LX yX6_answerOf cX6_answerOf 5 (some .int) rm_X6_answerOf_L2 [.ref (ad g i), .int a0, .int a1, .int a2] V (some (.int r)) V1) (hR : rm_X6_answerOf_L2.frames + 1 ≤ R.frames ∧ 8 + (5 + 11) + rm_X6_answerOf_L2.locals ≤ R.locals) (hsz : ls.size = nL) (hrest : (rest.map fun v => v.category).sum ≤ 8) (hdg : decode cc pc = .ok (.invokevirtual 320, 3)) (kk : ∀ (H1 : Heap) (locs1 : List Loc), OK g LX V1 s H1 locs1 → W p l e R s m args below meth c H1 locs1 0 0 Q (F0 m (pc + 3) ls (.int r :: rest))) : W p l e R s m args below meth c H locs 0 0 Q (F0 m pc ls (.int a2 :: .int a1 :: .int a0 :: .ref (ad g i) :: rest)) :=
  x_cv (As := [.int a0, .int a1, .int a2]) (n := 3) (T := TX6) (N := 14) hB hz hM hk rfl rfl rfl rfl kw_695 kw_62 kw_692 kw_694 kw_20 (by decide +kernel) rfl hR hsz hrest hdg kk
set_option maxHeartbeats 4000000 in
set_option maxRecDepth 100000 in
theorem w_X6_answerTo_L2_63_t3 {p : Program} {l : Launch} {e : Env} {s : State} {m : MethodId} {args : Array Value} {below : List Frame} {meth : Method} {c : Code} {g : GP} (hB : BX p s m args meth c g LX cX6_answerTo 7 RX6 (some .int)) {o : Int32 × Mem} : ∀ (x2 : Int32) (x3 : Int32) (x5 : Int32) (V : Mem) (H : Heap) (locs : List Loc) (ls : Array Slot), f_X6_answerTo_L2_63_t3 x2 x3 x5 V = some o → OK g LX V s H locs → lv_has ls 7 [(0, .ref (ad g 0)), (2, .int x2), (3, .int x3), (4, .ref (sa g 3)), (5, .int x5)] → W p l e rm_X6_answerTo_L2 s m args below meth c H locs 0 0 (MQ below (QQ g LX (some (.int o.1)) o.2) args s 0 0 (Ar g LX)) (F0 m 63 ls []) := by
  obtain ⟨hx, hb, hml, hown, hT, hr, hlk, hK, hJ, hZ, hN⟩ := id hB
  intro x2 x3 x5 V H locs ls hE hz hl
  unfold f_X6_answerTo_L2_63_t3 at hE
  refine lv_aload_n hx hb dX6_answerTo_63 rfl (lv_at hl 0 rfl) ?_
  refine lv_aload hx hb dX6_answerTo_64 (lv_at hl 3 rfl) ?_
  refine lv_iload hx hb dX6_answerTo_66 (lv_at hl 4 rfl) ?_
  obtain ⟨hi68, hE⟩ := x_chk hE
  refine x_sti (k := 3) (by decide) rfl hB hz hi68 dX6_answerTo_68 ?_
  refine lv_iload_n hx hb dX6_answerTo_69 rfl (lv_at hl 1 rfl) ?_
  refine lv_iload_n hx hb dX6_answerTo_70 rfl (lv_at hl 2 rfl) ?_
  refine lv_iconst (v := (1 : Int32)) hx hb dX6_answerTo_71 (by decide) ?_
  refine lv_iadd hx hb dX6_answerTo_72 ?_
  obtain ⟨q73, hq73, hE⟩ := x_bind hE
  refine i_X6_320_L2 hB hz kdX_0 (c_X6_answerOf_L2 l g  hq73) ⟨(Nat.le_of_ble_eq_true rfl), (Nat.le_of_ble_eq_true rfl)⟩ hl.1 (Nat.le_of_ble_eq_true rfl) dX6_answerTo_73 (fun H locs hz => ?_)
  exact x_iret hB hz hE dX6_answerTo_76

set_option maxHeartbeats 4000000 in
set_option maxRecDepth 100000 in
theorem w_X6_answerTo_L2_29_t3 {p : Program} {l : Launch} {e : Env} {s : State} {m : MethodId} {args : Array Value} {below : List Frame} {meth : Method} {c : Code} {g : GP} (hB : BX p s m args meth c g LX cX6_answerTo 7 RX6 (some .int)) {o : Int32 × Mem} : ∀ (n : Nat), ∀ (x2 : Int32) (x3 : Int32) (x5 : Int32) (x6 : Int32) (V : Mem) (H : Heap) (locs : List Loc) (ls : Array Slot), f_X6_answerTo_L2_29_t3 n x2 x3 x5 x6 V = some o → OK g LX V s H locs → lv_has ls 7 [(0, .ref (ad g 0)), (2, .int x2), (3, .int x3), (4, .ref (sa g 3)), (5, .int x5), (6, .int x6)] → W p l e rm_X6_answerTo_L2 s m args below meth c H locs 0 0 (MQ below (QQ g LX (some (.int o.1)) o.2) args s 0 0 (Ar g LX)) (F0 m 29 ls []) := by
  obtain ⟨hx, hb, hml, hown, hT, hr, hlk, hK, hJ, hZ, hN⟩ := id hB
  intro n
  induction n with
  | zero =>
    intro x2 x3 x5 x6 V H locs ls hE hz hl
    exact absurd (show (none : Option (Int32 × Mem)) = some o from hE) (by simp)
  | succ n ih =>
    intro x2 x3 x5 x6 V H locs ls hE hz hl
    unfold f_X6_answerTo_L2_29_t3 at hE
    refine lv_iload hx hb dX6_answerTo_29 (lv_at hl 5 rfl) ?_
    refine lv_bipush (v := (6 : Int32)) hx hb dX6_answerTo_31 (by decide) ?_
    refine lv_icmp_ge (tgt := 63) hx hb dX6_answerTo_33 (by decide) (fun c33 => ?_) (fun c33 => ?_)
    · have hE := (if_pos c33).symm.trans hE
      exact w_X6_answerTo_L2_63_t3 hB  _ _ _ _ _ _ _  hE hz (lv_sub hl [0, 1, 2, 3, 4] rfl)
    · have hE := (if_neg c33).symm.trans hE
      refine lv_iload hx hb dX6_answerTo_36 (lv_at hl 4 rfl) ?_
      refine lv_if_eq (tgt := 63) hx hb dX6_answerTo_38 (by decide) (fun c38 => ?_) (fun c38 => ?_)
      · have hE := (if_pos c38).symm.trans hE
        exact w_X6_answerTo_L2_63_t3 hB  _ _ _ _ _ _ _  hE hz (lv_sub hl [0, 1, 2, 3, 4] rfl)
      · have hE := (if_neg c38).symm.trans hE
        refine lv_aload hx hb dX6_answerTo_41 (lv_at hl 3 rfl) ?_
        refine lv_iload hx hb dX6_answerTo_43 (lv_at hl 4 rfl) ?_
        obtain ⟨hi45, hE⟩ := x_chk hE
        refine x_sti (k := 3) (by decide) rfl hB hz hi45 dX6_answerTo_45 ?_
        refine lv_if_ne (tgt := 63) hx hb dX6_answerTo_46 (by decide) (fun c46 => ?_) (fun c46 => ?_)
        · have hE := (if_neg c46).symm.trans hE
          exact w_X6_answerTo_L2_63_t3 hB  _ _ _ _ _ _ _  hE hz (lv_sub hl [0, 1, 2, 3, 4] rfl)
        · have hE := (if_pos c46).symm.trans hE
          refine x_gst (k := 0) (by decide) hB hz kw_678 dX6_answerTo_49 ?_
          refine lv_iload hx hb dX6_answerTo_52 (lv_at hl 4 rfl) ?_
          obtain ⟨hi54, hE⟩ := x_chk hE
          refine x_sti (k := 0) (by decide) rfl hB hz hi54 dX6_answerTo_54 ?_
          refine lv_istore (lv' := [(5, .int (tba 0 (x5).toNatClampNeg)), (0, .ref (ad g 0)), (2, .int x2), (3, .int x3), (4, .ref (sa g 3)), (6, .int x6)]) hx hb dX6_answerTo_55 hl (by decide) rfl (fun ls hl => ?_)
          refine lv_iinc (v := (x6 + 1)) (lv' := [(6, .int (x6 + 1)), (5, .int (tba 0 (x5).toNatClampNeg)), (0, .ref (ad g 0)), (2, .int x2), (3, .int x3), (4, .ref (sa g 3))]) hx hb dX6_answerTo_57 hl (k := 5) rfl rfl (by decide) rfl (fun ls hl => ?_)
          refine lv_goto (tgt := 29) hx hb dX6_answerTo_60 (by decide) ?_
          exact ih _ _ _ _ _ _ _ _  hE hz (lv_sub hl [2, 3, 4, 5, 1, 0] rfl)

set_option maxHeartbeats 4000000 in
set_option maxRecDepth 100000 in
theorem w_X6_answerTo_L2_13_u3 {p : Program} {l : Launch} {e : Env} {s : State} {m : MethodId} {args : Array Value} {below : List Frame} {meth : Method} {c : Code} {g : GP} (hB : BX p s m args meth c g LX cX6_answerTo 7 RX6 (some .int)) {o : Int32 × Mem} : ∀ (x2 : Int32) (x3 : Int32) (V : Mem) (H : Heap) (locs : List Loc) (ls : Array Slot), f_X6_answerTo_L2_13_u3 x2 x3 V = some o → OK g LX V s H locs → lv_has ls 7 [(0, .ref (ad g 0)), (2, .int x2), (3, .int x3)] → W p l e rm_X6_answerTo_L2 s m args below meth c H locs 0 0 (MQ below (QQ g LX (some (.int o.1)) o.2) args s 0 0 (Ar g LX)) (F0 m 13 ls [.ref (sa g 3)]) := by
  obtain ⟨hx, hb, hml, hown, hT, hr, hlk, hK, hJ, hZ, hN⟩ := id hB
  intro x2 x3 V H locs ls hE hz hl
  unfold f_X6_answerTo_L2_13_u3 at hE
  refine lv_astore (lv' := [(4, .ref (sa g 3)), (0, .ref (ad g 0)), (2, .int x2), (3, .int x3)]) hx hb dX6_answerTo_13 hl (by decide) rfl (fun ls hl => ?_)
  refine lv_aload_n hx hb dX6_answerTo_15 rfl (lv_at hl 1 rfl) ?_
  refine g_X6_25 hB hz kdX_0 dX6_answerTo_16 ?_
  refine g_X6_183 hB hz kdX_4 dX6_answerTo_19 ?_
  refine lv_iload_n hx hb dX6_answerTo_22 rfl (lv_at hl 2 rfl) ?_
  obtain ⟨hi23, hE⟩ := x_chk hE
  refine x_iald (n := 24) hB hz kdX_6 hi23 dX6_answerTo_23 ?_
  refine lv_istore (lv' := [(5, .int (V 6 (x2).toNatClampNeg)), (4, .ref (sa g 3)), (0, .ref (ad g 0)), (2, .int x2), (3, .int x3)]) hx hb dX6_answerTo_24 hl (by decide) rfl (fun ls hl => ?_)
  refine lv_iconst (v := (0 : Int32)) hx hb dX6_answerTo_26 (by decide) ?_
  refine lv_istore (lv' := [(6, .int (0 : Int32)), (5, .int (V 6 (x2).toNatClampNeg)), (4, .ref (sa g 3)), (0, .ref (ad g 0)), (2, .int x2), (3, .int x3)]) hx hb dX6_answerTo_27 hl (by decide) rfl (fun ls hl => ?_)
  exact w_X6_answerTo_L2_29_t3 hB  _ _ _ _ _ _ _ _ _  hE hz (lv_sub hl [3, 4, 5, 2, 1, 0] rfl)

set_option maxHeartbeats 4000000 in
set_option maxRecDepth 100000 in
theorem w_X6_answerTo_L2_63_t2 {p : Program} {l : Launch} {e : Env} {s : State} {m : MethodId} {args : Array Value} {below : List Frame} {meth : Method} {c : Code} {g : GP} (hB : BX p s m args meth c g LX cX6_answerTo 7 RX6 (some .int)) {o : Int32 × Mem} : ∀ (x2 : Int32) (x3 : Int32) (x5 : Int32) (V : Mem) (H : Heap) (locs : List Loc) (ls : Array Slot), f_X6_answerTo_L2_63_t2 x2 x3 x5 V = some o → OK g LX V s H locs → lv_has ls 7 [(0, .ref (ad g 0)), (2, .int x2), (3, .int x3), (4, .ref (sa g 2)), (5, .int x5)] → W p l e rm_X6_answerTo_L2 s m args below meth c H locs 0 0 (MQ below (QQ g LX (some (.int o.1)) o.2) args s 0 0 (Ar g LX)) (F0 m 63 ls []) := by
  obtain ⟨hx, hb, hml, hown, hT, hr, hlk, hK, hJ, hZ, hN⟩ := id hB
  intro x2 x3 x5 V H locs ls hE hz hl
  unfold f_X6_answerTo_L2_63_t2 at hE
  refine lv_aload_n hx hb dX6_answerTo_63 rfl (lv_at hl 0 rfl) ?_
  refine lv_aload hx hb dX6_answerTo_64 (lv_at hl 3 rfl) ?_
  refine lv_iload hx hb dX6_answerTo_66 (lv_at hl 4 rfl) ?_
  obtain ⟨hi68, hE⟩ := x_chk hE
  refine x_sti (k := 2) (by decide) rfl hB hz hi68 dX6_answerTo_68 ?_
  refine lv_iload_n hx hb dX6_answerTo_69 rfl (lv_at hl 1 rfl) ?_
  refine lv_iload_n hx hb dX6_answerTo_70 rfl (lv_at hl 2 rfl) ?_
  refine lv_iconst (v := (1 : Int32)) hx hb dX6_answerTo_71 (by decide) ?_
  refine lv_iadd hx hb dX6_answerTo_72 ?_
  obtain ⟨q73, hq73, hE⟩ := x_bind hE
  refine i_X6_320_L2 hB hz kdX_0 (c_X6_answerOf_L2 l g  hq73) ⟨(Nat.le_of_ble_eq_true rfl), (Nat.le_of_ble_eq_true rfl)⟩ hl.1 (Nat.le_of_ble_eq_true rfl) dX6_answerTo_73 (fun H locs hz => ?_)
  exact x_iret hB hz hE dX6_answerTo_76

set_option maxHeartbeats 4000000 in
set_option maxRecDepth 100000 in
theorem w_X6_answerTo_L2_29_t2 {p : Program} {l : Launch} {e : Env} {s : State} {m : MethodId} {args : Array Value} {below : List Frame} {meth : Method} {c : Code} {g : GP} (hB : BX p s m args meth c g LX cX6_answerTo 7 RX6 (some .int)) {o : Int32 × Mem} : ∀ (n : Nat), ∀ (x2 : Int32) (x3 : Int32) (x5 : Int32) (x6 : Int32) (V : Mem) (H : Heap) (locs : List Loc) (ls : Array Slot), f_X6_answerTo_L2_29_t2 n x2 x3 x5 x6 V = some o → OK g LX V s H locs → lv_has ls 7 [(0, .ref (ad g 0)), (2, .int x2), (3, .int x3), (4, .ref (sa g 2)), (5, .int x5), (6, .int x6)] → W p l e rm_X6_answerTo_L2 s m args below meth c H locs 0 0 (MQ below (QQ g LX (some (.int o.1)) o.2) args s 0 0 (Ar g LX)) (F0 m 29 ls []) := by
  obtain ⟨hx, hb, hml, hown, hT, hr, hlk, hK, hJ, hZ, hN⟩ := id hB
  intro n
  induction n with
  | zero =>
    intro x2 x3 x5 x6 V H locs ls hE hz hl
    exact absurd (show (none : Option (Int32 × Mem)) = some o from hE) (by simp)
  | succ n ih =>
    intro x2 x3 x5 x6 V H locs ls hE hz hl
    unfold f_X6_answerTo_L2_29_t2 at hE
    refine lv_iload hx hb dX6_answerTo_29 (lv_at hl 5 rfl) ?_
    refine lv_bipush (v := (6 : Int32)) hx hb dX6_answerTo_31 (by decide) ?_
    refine lv_icmp_ge (tgt := 63) hx hb dX6_answerTo_33 (by decide) (fun c33 => ?_) (fun c33 => ?_)
    · have hE := (if_pos c33).symm.trans hE
      exact w_X6_answerTo_L2_63_t2 hB  _ _ _ _ _ _ _  hE hz (lv_sub hl [0, 1, 2, 3, 4] rfl)
    · have hE := (if_neg c33).symm.trans hE
      refine lv_iload hx hb dX6_answerTo_36 (lv_at hl 4 rfl) ?_
      refine lv_if_eq (tgt := 63) hx hb dX6_answerTo_38 (by decide) (fun c38 => ?_) (fun c38 => ?_)
      · have hE := (if_pos c38).symm.trans hE
        exact w_X6_answerTo_L2_63_t2 hB  _ _ _ _ _ _ _  hE hz (lv_sub hl [0, 1, 2, 3, 4] rfl)
      · have hE := (if_neg c38).symm.trans hE
        refine lv_aload hx hb dX6_answerTo_41 (lv_at hl 3 rfl) ?_
        refine lv_iload hx hb dX6_answerTo_43 (lv_at hl 4 rfl) ?_
        obtain ⟨hi45, hE⟩ := x_chk hE
        refine x_sti (k := 2) (by decide) rfl hB hz hi45 dX6_answerTo_45 ?_
        refine lv_if_ne (tgt := 63) hx hb dX6_answerTo_46 (by decide) (fun c46 => ?_) (fun c46 => ?_)
        · have hE := (if_neg c46).symm.trans hE
          exact w_X6_answerTo_L2_63_t2 hB  _ _ _ _ _ _ _  hE hz (lv_sub hl [0, 1, 2, 3, 4] rfl)
        · have hE := (if_pos c46).symm.trans hE
          refine x_gst (k := 0) (by decide) hB hz kw_678 dX6_answerTo_49 ?_
          refine lv_iload hx hb dX6_answerTo_52 (lv_at hl 4 rfl) ?_
          obtain ⟨hi54, hE⟩ := x_chk hE
          refine x_sti (k := 0) (by decide) rfl hB hz hi54 dX6_answerTo_54 ?_
          refine lv_istore (lv' := [(5, .int (tba 0 (x5).toNatClampNeg)), (0, .ref (ad g 0)), (2, .int x2), (3, .int x3), (4, .ref (sa g 2)), (6, .int x6)]) hx hb dX6_answerTo_55 hl (by decide) rfl (fun ls hl => ?_)
          refine lv_iinc (v := (x6 + 1)) (lv' := [(6, .int (x6 + 1)), (5, .int (tba 0 (x5).toNatClampNeg)), (0, .ref (ad g 0)), (2, .int x2), (3, .int x3), (4, .ref (sa g 2))]) hx hb dX6_answerTo_57 hl (k := 5) rfl rfl (by decide) rfl (fun ls hl => ?_)
          refine lv_goto (tgt := 29) hx hb dX6_answerTo_60 (by decide) ?_
          exact ih _ _ _ _ _ _ _ _  hE hz (lv_sub hl [2, 3, 4, 5, 1, 0] rfl)

set_option maxHeartbeats 4000000 in
set_option maxRecDepth 100000 in
theorem w_X6_answerTo_L2_13_u2 {p : Program} {l : Launch} {e : Env} {s : State} {m : MethodId} {args : Array Value} {below : List Frame} {meth : Method} {c : Code} {g : GP} (hB : BX p s m args meth c g LX cX6_answerTo 7 RX6 (some .int)) {o : Int32 × Mem} : ∀ (x2 : Int32) (x3 : Int32) (V : Mem) (H : Heap) (locs : List Loc) (ls : Array Slot), f_X6_answerTo_L2_13_u2 x2 x3 V = some o → OK g LX V s H locs → lv_has ls 7 [(0, .ref (ad g 0)), (2, .int x2), (3, .int x3)] → W p l e rm_X6_answerTo_L2 s m args below meth c H locs 0 0 (MQ below (QQ g LX (some (.int o.1)) o.2) args s 0 0 (Ar g LX)) (F0 m 13 ls [.ref (sa g 2)]) := by
  obtain ⟨hx, hb, hml, hown, hT, hr, hlk, hK, hJ, hZ, hN⟩ := id hB
  intro x2 x3 V H locs ls hE hz hl
  unfold f_X6_answerTo_L2_13_u2 at hE
  refine lv_astore (lv' := [(4, .ref (sa g 2)), (0, .ref (ad g 0)), (2, .int x2), (3, .int x3)]) hx hb dX6_answerTo_13 hl (by decide) rfl (fun ls hl => ?_)
  refine lv_aload_n hx hb dX6_answerTo_15 rfl (lv_at hl 1 rfl) ?_
  refine g_X6_25 hB hz kdX_0 dX6_answerTo_16 ?_
  refine g_X6_183 hB hz kdX_4 dX6_answerTo_19 ?_
  refine lv_iload_n hx hb dX6_answerTo_22 rfl (lv_at hl 2 rfl) ?_
  obtain ⟨hi23, hE⟩ := x_chk hE
  refine x_iald (n := 24) hB hz kdX_6 hi23 dX6_answerTo_23 ?_
  refine lv_istore (lv' := [(5, .int (V 6 (x2).toNatClampNeg)), (4, .ref (sa g 2)), (0, .ref (ad g 0)), (2, .int x2), (3, .int x3)]) hx hb dX6_answerTo_24 hl (by decide) rfl (fun ls hl => ?_)
  refine lv_iconst (v := (0 : Int32)) hx hb dX6_answerTo_26 (by decide) ?_
  refine lv_istore (lv' := [(6, .int (0 : Int32)), (5, .int (V 6 (x2).toNatClampNeg)), (4, .ref (sa g 2)), (0, .ref (ad g 0)), (2, .int x2), (3, .int x3)]) hx hb dX6_answerTo_27 hl (by decide) rfl (fun ls hl => ?_)
  exact w_X6_answerTo_L2_29_t2 hB  _ _ _ _ _ _ _ _ _  hE hz (lv_sub hl [3, 4, 5, 2, 1, 0] rfl)

set_option maxHeartbeats 4000000 in
set_option maxRecDepth 100000 in
theorem w_X6_answerTo_L2 {p : Program} {l : Launch} {e : Env} {s : State} {m : MethodId} {args : Array Value} {below : List Frame} {meth : Method} {c : Code} {g : GP} (hB : BX p s m args meth c g LX cX6_answerTo 7 RX6 (some .int)) {o : Int32 × Mem} : ∀ (x1 : Int32) (x2 : Int32) (x3 : Int32) (V : Mem) (H : Heap) (locs : List Loc) (ls : Array Slot), f_X6_answerTo_L2 x1 x2 x3 V = some o → OK g LX V s H locs → lv_has ls 7 [(0, .ref (ad g 0)), (1, .int x1), (2, .int x2), (3, .int x3)] → W p l e rm_X6_answerTo_L2 s m args below meth c H locs 0 0 (MQ below (QQ g LX (some (.int o.1)) o.2) args s 0 0 (Ar g LX)) (F0 m 0 ls []) := by
  obtain ⟨hx, hb, hml, hown, hT, hr, hlk, hK, hJ, hZ, hN⟩ := id hB
  intro x1 x2 x3 V H locs ls hE hz hl
  unfold f_X6_answerTo_L2 at hE
  refine lv_iload_n hx hb dX6_answerTo_0 rfl (lv_at hl 1 rfl) ?_
  refine lv_if_ne (tgt := 10) hx hb dX6_answerTo_1 (by decide) (fun c1 => ?_) (fun c1 => ?_)
  · have hE := (if_neg c1).symm.trans hE
    refine x_gst (k := 3) (by decide) hB hz kw_690 dX6_answerTo_10 ?_
    exact w_X6_answerTo_L2_13_u3 hB  _ _ _ _ _ _  hE hz (lv_sub hl [0, 2, 3] rfl)
  · have hE := (if_pos c1).symm.trans hE
    refine x_gst (k := 2) (by decide) hB hz kw_688 dX6_answerTo_4 ?_
    refine lv_goto (tgt := 13) hx hb dX6_answerTo_7 (by decide) ?_
    exact w_X6_answerTo_L2_13_u2 hB  _ _ _ _ _ _  hE hz (lv_sub hl [0, 2, 3] rfl)
theorem c_X6_answerTo_L2 (l : Launch) (g : GP) {x1 : Int32} {x2 : Int32} {x3 : Int32} {V : Mem} {o : Int32 × Mem} (hE : f_X6_answerTo_L2 x1 x2 x3 V = some o) : CT l g LX yX6_answerTo cX6_answerTo 7 (some .int) rm_X6_answerTo_L2 [.ref (ad g 0), .int x1, .int x2, .int x3] V (some (.int o.1)) o.2 := by
  refine ct_of (by decide) (Nat.le_of_ble_eq_true rfl) ?_
  intro p e s m args below meth c ls hB hz hl
  exact w_X6_answerTo_L2 hB _ _ _ _ _ _ _  hE hz hl
def rm_X6_answerOf_L3 : Room := { frames := 8, cells := 0, slots := 0, locals := 267 }
theorem i_X6_295_L2 {p : Program} {l : Launch} {e : Env} {R : Room} {s : State} {m : MethodId} {args : Array Value} {below : List Frame} {meth : Method} {c : Code} {H : Heap} {locs : List Loc} {Q : State → Prop} {cc : ByteArray} {pc : Nat} {ls : Array Slot} {rest : List Value} {g : GP} {V : Mem} {nL : Nat} {ret : Option FieldType} (hB : BX p s m args meth c g LX cc nL RX6 ret) (hz : OK g LX V s H locs) {i : Nat} (hk : KD LX i 5) {a0 : Int32} {a1 : Int32} {a2 : Int32} {r : Int32} {V1 : Mem} (hM : CT l g LX yX6_answerTo cX6_answerTo 7 (some .int) rm_X6_answerTo_L2 [.ref (ad g i), .int a0, .int a1, .int a2] V (some (.int r)) V1) (hR : rm_X6_answerTo_L2.frames + 1 ≤ R.frames ∧ 8 + (7 + 11) + rm_X6_answerTo_L2.locals ≤ R.locals) (hsz : ls.size = nL) (hrest : (rest.map fun v => v.category).sum ≤ 8) (hdg : decode cc pc = .ok (.invokevirtual 295, 3)) (kk : ∀ (H1 : Heap) (locs1 : List Loc), OK g LX V1 s H1 locs1 → W p l e R s m args below meth c H1 locs1 0 0 Q (F0 m (pc + 3) ls (.int r :: rest))) : W p l e R s m args below meth c H locs 0 0 Q (F0 m pc ls (.int a2 :: .int a1 :: .int a0 :: .ref (ad g i) :: rest)) :=
  x_cv (As := [.int a0, .int a1, .int a2]) (n := 3) (T := TX6) (N := 14) hB hz hM hk rfl rfl rfl rfl kw_687 kw_62 kw_684 kw_686 kw_19 (by decide +kernel) rfl hR hsz hrest hdg kk
set_option maxHeartbeats 4000000 in
set_option maxRecDepth 100000 in
theorem w_X6_answerOf_L3 {p : Program} {l : Launch} {e : Env} {s : State} {m : MethodId} {args : Array Value} {below : List Frame} {meth : Method} {c : Code} {g : GP} (hB : BX p s m args meth c g LX cX6_answerOf 5 RX6 (some .int)) {o : Int32 × Mem} : ∀ (x1 : Int32) (x2 : Int32) (x3 : Int32) (V : Mem) (H : Heap) (locs : List Loc) (ls : Array Slot), f_X6_answerOf_L3 x1 x2 x3 V = some o → OK g LX V s H locs → lv_has ls 5 [(0, .ref (ad g 0)), (1, .int x1), (2, .int x2), (3, .int x3)] → W p l e rm_X6_answerOf_L3 s m args below meth c H locs 0 0 (MQ below (QQ g LX (some (.int o.1)) o.2) args s 0 0 (Ar g LX)) (F0 m 0 ls []) := by
  obtain ⟨hx, hb, hml, hown, hT, hr, hlk, hK, hJ, hZ, hN⟩ := id hB
  intro x1 x2 x3 V H locs ls hE hz hl
  unfold f_X6_answerOf_L3 at hE
  refine lv_iload_n hx hb dX6_answerOf_0 rfl (lv_at hl 3 rfl) ?_
  refine lv_bipush (v := (20 : Int32)) hx hb dX6_answerOf_1 (by decide) ?_
  refine lv_icmp_le (tgt := 8) hx hb dX6_answerOf_3 (by decide) (fun c3 => ?_) (fun c3 => ?_)
  · have hE := (if_pos c3).symm.trans hE
    refine lv_aload_n hx hb dX6_answerOf_8 rfl (lv_at hl 0 rfl) ?_
    refine lv_iload_n hx hb dX6_answerOf_9 rfl (lv_at hl 1 rfl) ?_
    obtain ⟨q10, hq10, hE⟩ := x_bind hE
    refine i_X6_323 hB hz kdX_0 (c_X6_leaveTrace l g  hq10) ⟨(Nat.le_of_ble_eq_true rfl), (Nat.le_of_ble_eq_true rfl)⟩ hl.1 (Nat.le_of_ble_eq_true rfl) dX6_answerOf_10 (fun H locs hz => ?_)
    refine lv_iload_n hx hb dX6_answerOf_13 rfl (lv_at hl 3 rfl) ?_
    refine lv_iconst (v := (1 : Int32)) hx hb dX6_answerOf_14 (by decide) ?_
    refine lv_iadd hx hb dX6_answerOf_15 ?_
    refine lv_istore (lv' := [(4, .int (x3 + (1 : Int32))), (0, .ref (ad g 0)), (1, .int x1), (2, .int x2), (3, .int x3)]) hx hb dX6_answerOf_16 hl (by decide) rfl (fun ls hl => ?_)
    refine lv_iload_n hx hb dX6_answerOf_18 rfl (lv_at hl 2 rfl) ?_
    by_cases c19_10 : x1 = (10 : Int32)
    · have hE := (if_pos c19_10).symm.trans hE
      refine lv_tableIn (tgt := 92) hx hb dX6_answerOf_19 (by rw [c19_10]; decide) (by rw [c19_10]; decide) (by rw [c19_10]; rfl) (by decide) ?_
      refine lv_aload_n hx hb dX6_answerOf_92 rfl (lv_at hl 1 rfl) ?_
      refine g_X6_25 hB hz kdX_0 dX6_answerOf_93 ?_
      refine g_X6_195 hB hz kdX_4 dX6_answerOf_96 ?_
      refine lv_iload_n hx hb dX6_answerOf_99 rfl (lv_at hl 3 rfl) ?_
      obtain ⟨hi100, hE⟩ := x_chk hE
      refine x_iald (n := 24) hB hz kdX_8 hi100 dX6_answerOf_100 ?_
      exact x_iret hB hz hE dX6_answerOf_101
    have hE := (if_neg c19_10).symm.trans hE
    by_cases c19_11 : x1 = (11 : Int32)
    · have hE := (if_pos c19_11).symm.trans hE
      refine lv_tableIn (tgt := 102) hx hb dX6_answerOf_19 (by rw [c19_11]; decide) (by rw [c19_11]; decide) (by rw [c19_11]; rfl) (by decide) ?_
      refine lv_aload_n hx hb dX6_answerOf_102 rfl (lv_at hl 1 rfl) ?_
      refine lv_bipush (v := (10 : Int32)) hx hb dX6_answerOf_103 (by decide) ?_
      refine lv_iload_n hx hb dX6_answerOf_105 rfl (lv_at hl 3 rfl) ?_
      refine lv_iload hx hb dX6_answerOf_106 (lv_at hl 0 rfl) ?_
      obtain ⟨q108, hq108, hE⟩ := x_bind hE
      refine i_X6_320_L2 hB hz kdX_0 (c_X6_answerOf_L2 l g  hq108) ⟨(Nat.le_of_ble_eq_true rfl), (Nat.le_of_ble_eq_true rfl)⟩ hl.1 (Nat.le_of_ble_eq_true rfl) dX6_answerOf_108 (fun H locs hz => ?_)
      refine lv_aload_n hx hb dX6_answerOf_111 rfl (lv_at hl 1 rfl) ?_
      refine lv_iconst (v := (1 : Int32)) hx hb dX6_answerOf_112 (by decide) ?_
      refine lv_iload_n hx hb dX6_answerOf_113 rfl (lv_at hl 3 rfl) ?_
      refine lv_iload hx hb dX6_answerOf_114 (lv_at hl 0 rfl) ?_
      obtain ⟨q116, hq116, hE⟩ := x_bind hE
      refine i_X6_295_L2 hB hz kdX_0 (c_X6_answerTo_L2 l g  hq116) ⟨(Nat.le_of_ble_eq_true rfl), (Nat.le_of_ble_eq_true rfl)⟩ hl.1 (Nat.le_of_ble_eq_true rfl) dX6_answerOf_116 (fun H locs hz => ?_)
      refine lv_iadd hx hb dX6_answerOf_119 ?_
      exact x_iret hB hz hE dX6_answerOf_120
    have hE := (if_neg c19_11).symm.trans hE
    by_cases c19_12 : x1 = (12 : Int32)
    · have hE := (if_pos c19_12).symm.trans hE
      refine lv_tableIn (tgt := 121) hx hb dX6_answerOf_19 (by rw [c19_12]; decide) (by rw [c19_12]; decide) (by rw [c19_12]; rfl) (by decide) ?_
      refine lv_aload_n hx hb dX6_answerOf_121 rfl (lv_at hl 1 rfl) ?_
      refine lv_bipush (v := (11 : Int32)) hx hb dX6_answerOf_122 (by decide) ?_
      refine lv_iload_n hx hb dX6_answerOf_124 rfl (lv_at hl 3 rfl) ?_
      refine lv_iload hx hb dX6_answerOf_125 (lv_at hl 0 rfl) ?_
      obtain ⟨q127, hq127, hE⟩ := x_bind hE
      refine i_X6_320_L2 hB hz kdX_0 (c_X6_answerOf_L2 l g  hq127) ⟨(Nat.le_of_ble_eq_true rfl), (Nat.le_of_ble_eq_true rfl)⟩ hl.1 (Nat.le_of_ble_eq_true rfl) dX6_answerOf_127 (fun H locs hz => ?_)
      refine lv_ineg hx hb dX6_answerOf_130 ?_
      exact x_iret hB hz hE dX6_answerOf_131
    have hE := (if_neg c19_12).symm.trans hE
    by_cases c19_13 : x1 = (13 : Int32)
    · have hE := (if_pos c19_13).symm.trans hE
      refine lv_tableIn (tgt := 132) hx hb dX6_answerOf_19 (by rw [c19_13]; decide) (by rw [c19_13]; decide) (by rw [c19_13]; rfl) (by decide) ?_
      refine lv_aload_n hx hb dX6_answerOf_132 rfl (lv_at hl 1 rfl) ?_
      refine lv_bipush (v := (10 : Int32)) hx hb dX6_answerOf_133 (by decide) ?_
      refine lv_iload_n hx hb dX6_answerOf_135 rfl (lv_at hl 3 rfl) ?_
      refine lv_iload hx hb dX6_answerOf_136 (lv_at hl 0 rfl) ?_
      obtain ⟨q138, hq138, hE⟩ := x_bind hE
      refine i_X6_320_L2 hB hz kdX_0 (c_X6_answerOf_L2 l g  hq138) ⟨(Nat.le_of_ble_eq_true rfl), (Nat.le_of_ble_eq_true rfl)⟩ hl.1 (Nat.le_of_ble_eq_true rfl) dX6_answerOf_138 (fun H locs hz => ?_)
      refine lv_bipush (v := (100 : Int32)) hx hb dX6_answerOf_141 (by decide) ?_
      refine lv_isub hx hb dX6_answerOf_143 ?_
      exact x_iret hB hz hE dX6_answerOf_144
    have hE := (if_neg c19_13).symm.trans hE
    by_cases c19_14 : x1 = (14 : Int32)
    · have hE := (if_pos c19_14).symm.trans hE
      refine lv_tableIn (tgt := 145) hx hb dX6_answerOf_19 (by rw [c19_14]; decide) (by rw [c19_14]; decide) (by rw [c19_14]; rfl) (by decide) ?_
      refine lv_iconst (v := (2 : Int32)) hx hb dX6_answerOf_145 (by decide) ?_
      refine lv_aload_n hx hb dX6_answerOf_146 rfl (lv_at hl 1 rfl) ?_
      refine lv_bipush (v := (13 : Int32)) hx hb dX6_answerOf_147 (by decide) ?_
      refine lv_iload_n hx hb dX6_answerOf_149 rfl (lv_at hl 3 rfl) ?_
      refine lv_iload hx hb dX6_answerOf_150 (lv_at hl 0 rfl) ?_
      obtain ⟨q152, hq152, hE⟩ := x_bind hE
      refine i_X6_320_L2 hB hz kdX_0 (c_X6_answerOf_L2 l g  hq152) ⟨(Nat.le_of_ble_eq_true rfl), (Nat.le_of_ble_eq_true rfl)⟩ hl.1 (Nat.le_of_ble_eq_true rfl) dX6_answerOf_152 (fun H locs hz => ?_)
      refine lv_imul hx hb dX6_answerOf_155 ?_
      exact x_iret hB hz hE dX6_answerOf_156
    have hE := (if_neg c19_14).symm.trans hE
    by_cases c19_15 : x1 = (15 : Int32)
    · have hE := (if_pos c19_15).symm.trans hE
      refine lv_tableIn (tgt := 223) hx hb dX6_answerOf_19 (by rw [c19_15]; decide) (by rw [c19_15]; decide) (by rw [c19_15]; rfl) (by decide) ?_
      refine lv_iconst (v := (0 : Int32)) hx hb dX6_answerOf_223 (by decide) ?_
      exact x_iret hB hz hE dX6_answerOf_224
    have hE := (if_neg c19_15).symm.trans hE
    by_cases c19_16 : x1 = (16 : Int32)
    · have hE := (if_pos c19_16).symm.trans hE
      refine lv_tableIn (tgt := 223) hx hb dX6_answerOf_19 (by rw [c19_16]; decide) (by rw [c19_16]; decide) (by rw [c19_16]; rfl) (by decide) ?_
      refine lv_iconst (v := (0 : Int32)) hx hb dX6_answerOf_223 (by decide) ?_
      exact x_iret hB hz hE dX6_answerOf_224
    have hE := (if_neg c19_16).symm.trans hE
    by_cases c19_17 : x1 = (17 : Int32)
    · have hE := (if_pos c19_17).symm.trans hE
      refine lv_tableIn (tgt := 223) hx hb dX6_answerOf_19 (by rw [c19_17]; decide) (by rw [c19_17]; decide) (by rw [c19_17]; rfl) (by decide) ?_
      refine lv_iconst (v := (0 : Int32)) hx hb dX6_answerOf_223 (by decide) ?_
      exact x_iret hB hz hE dX6_answerOf_224
    have hE := (if_neg c19_17).symm.trans hE
    by_cases c19_18 : x1 = (18 : Int32)
    · have hE := (if_pos c19_18).symm.trans hE
      refine lv_tableIn (tgt := 223) hx hb dX6_answerOf_19 (by rw [c19_18]; decide) (by rw [c19_18]; decide) (by rw [c19_18]; rfl) (by decide) ?_
      refine lv_iconst (v := (0 : Int32)) hx hb dX6_answerOf_223 (by decide) ?_
      exact x_iret hB hz hE dX6_answerOf_224
    have hE := (if_neg c19_18).symm.trans hE
    by_cases c19_19 : x1 = (19 : Int32)
    · have hE := (if_pos c19_19).symm.trans hE
      refine lv_tableIn (tgt := 223) hx hb dX6_answerOf_19 (by rw [c19_19]; decide) (by rw [c19_19]; decide) (by rw [c19_19]; rfl) (by decide) ?_
      refine lv_iconst (v := (0 : Int32)) hx hb dX6_answerOf_223 (by decide) ?_
      exact x_iret hB hz hE dX6_answerOf_224
    have hE := (if_neg c19_19).symm.trans hE
    by_cases c19_20 : x1 = (20 : Int32)
    · have hE := (if_pos c19_20).symm.trans hE
      refine lv_tableIn (tgt := 157) hx hb dX6_answerOf_19 (by rw [c19_20]; decide) (by rw [c19_20]; decide) (by rw [c19_20]; rfl) (by decide) ?_
      refine lv_iload_n hx hb dX6_answerOf_157 rfl (lv_at hl 3 rfl) ?_
      exact x_iret hB hz hE dX6_answerOf_158
    have hE := (if_neg c19_20).symm.trans hE
    by_cases c19_21 : x1 = (21 : Int32)
    · have hE := (if_pos c19_21).symm.trans hE
      refine lv_tableIn (tgt := 159) hx hb dX6_answerOf_19 (by rw [c19_21]; decide) (by rw [c19_21]; decide) (by rw [c19_21]; rfl) (by decide) ?_
      refine lv_aload_n hx hb dX6_answerOf_159 rfl (lv_at hl 1 rfl) ?_
      refine lv_bipush (v := (20 : Int32)) hx hb dX6_answerOf_160 (by decide) ?_
      refine lv_iload_n hx hb dX6_answerOf_162 rfl (lv_at hl 3 rfl) ?_
      refine lv_iload hx hb dX6_answerOf_163 (lv_at hl 0 rfl) ?_
      obtain ⟨q165, hq165, hE⟩ := x_bind hE
      refine i_X6_320_L2 hB hz kdX_0 (c_X6_answerOf_L2 l g  hq165) ⟨(Nat.le_of_ble_eq_true rfl), (Nat.le_of_ble_eq_true rfl)⟩ hl.1 (Nat.le_of_ble_eq_true rfl) dX6_answerOf_165 (fun H locs hz => ?_)
      refine lv_aload_n hx hb dX6_answerOf_168 rfl (lv_at hl 1 rfl) ?_
      refine g_X6_25 hB hz kdX_0 dX6_answerOf_169 ?_
      refine lv_iload_n hx hb dX6_answerOf_172 rfl (lv_at hl 3 rfl) ?_
      obtain ⟨q173, hq173, hE⟩ := x_bind hE
      refine i_X6_245 hB hz kdX_4 (c_X3_ownCount l g kdX_4 hq173) ⟨(Nat.le_of_ble_eq_true rfl), (Nat.le_of_ble_eq_true rfl)⟩ hl.1 (Nat.le_of_ble_eq_true rfl) dX6_answerOf_173 (fun H locs hz => ?_)
      refine lv_iadd hx hb dX6_answerOf_176 ?_
      exact x_iret hB hz hE dX6_answerOf_177
    have hE := (if_neg c19_21).symm.trans hE
    by_cases c19_22 : x1 = (22 : Int32)
    · have hE := (if_pos c19_22).symm.trans hE
      refine lv_tableIn (tgt := 178) hx hb dX6_answerOf_19 (by rw [c19_22]; decide) (by rw [c19_22]; decide) (by rw [c19_22]; rfl) (by decide) ?_
      refine lv_aload_n hx hb dX6_answerOf_178 rfl (lv_at hl 1 rfl) ?_
      refine lv_bipush (v := (21 : Int32)) hx hb dX6_answerOf_179 (by decide) ?_
      refine lv_iload_n hx hb dX6_answerOf_181 rfl (lv_at hl 3 rfl) ?_
      refine lv_iload hx hb dX6_answerOf_182 (lv_at hl 0 rfl) ?_
      obtain ⟨q184, hq184, hE⟩ := x_bind hE
      refine i_X6_320_L2 hB hz kdX_0 (c_X6_answerOf_L2 l g  hq184) ⟨(Nat.le_of_ble_eq_true rfl), (Nat.le_of_ble_eq_true rfl)⟩ hl.1 (Nat.le_of_ble_eq_true rfl) dX6_answerOf_184 (fun H locs hz => ?_)
      refine lv_sipush (v := (1000 : Int32)) hx hb dX6_answerOf_187 (by decide) ?_
      refine lv_isub hx hb dX6_answerOf_190 ?_
      exact x_iret hB hz hE dX6_answerOf_191
    have hE := (if_neg c19_22).symm.trans hE
    by_cases c19_23 : x1 = (23 : Int32)
    · have hE := (if_pos c19_23).symm.trans hE
      refine lv_tableIn (tgt := 192) hx hb dX6_answerOf_19 (by rw [c19_23]; decide) (by rw [c19_23]; decide) (by rw [c19_23]; rfl) (by decide) ?_
      refine lv_aload_n hx hb dX6_answerOf_192 rfl (lv_at hl 1 rfl) ?_
      refine lv_bipush (v := (20 : Int32)) hx hb dX6_answerOf_193 (by decide) ?_
      refine lv_iload_n hx hb dX6_answerOf_195 rfl (lv_at hl 3 rfl) ?_
      refine lv_iload hx hb dX6_answerOf_196 (lv_at hl 0 rfl) ?_
      obtain ⟨q198, hq198, hE⟩ := x_bind hE
      refine i_X6_320_L2 hB hz kdX_0 (c_X6_answerOf_L2 l g  hq198) ⟨(Nat.le_of_ble_eq_true rfl), (Nat.le_of_ble_eq_true rfl)⟩ hl.1 (Nat.le_of_ble_eq_true rfl) dX6_answerOf_198 (fun H locs hz => ?_)
      refine lv_aload_n hx hb dX6_answerOf_201 rfl (lv_at hl 1 rfl) ?_
      refine lv_iconst (v := (0 : Int32)) hx hb dX6_answerOf_202 (by decide) ?_
      refine lv_iload_n hx hb dX6_answerOf_203 rfl (lv_at hl 3 rfl) ?_
      refine lv_iload hx hb dX6_answerOf_204 (lv_at hl 0 rfl) ?_
      obtain ⟨q206, hq206, hE⟩ := x_bind hE
      refine i_X6_295_L2 hB hz kdX_0 (c_X6_answerTo_L2 l g  hq206) ⟨(Nat.le_of_ble_eq_true rfl), (Nat.le_of_ble_eq_true rfl)⟩ hl.1 (Nat.le_of_ble_eq_true rfl) dX6_answerOf_206 (fun H locs hz => ?_)
      refine lv_isub hx hb dX6_answerOf_209 ?_
      exact x_iret hB hz hE dX6_answerOf_210
    have hE := (if_neg c19_23).symm.trans hE
    by_cases c19_24 : x1 = (24 : Int32)
    · have hE := (if_pos c19_24).symm.trans hE
      refine lv_tableIn (tgt := 211) hx hb dX6_answerOf_19 (by rw [c19_24]; decide) (by rw [c19_24]; decide) (by rw [c19_24]; rfl) (by decide) ?_
      refine lv_iconst (v := (2 : Int32)) hx hb dX6_answerOf_211 (by decide) ?_
      refine lv_aload_n hx hb dX6_answerOf_212 rfl (lv_at hl 1 rfl) ?_
      refine lv_bipush (v := (21 : Int32)) hx hb dX6_answerOf_213 (by decide) ?_
      refine lv_iload_n hx hb dX6_answerOf_215 rfl (lv_at hl 3 rfl) ?_
      refine lv_iload hx hb dX6_answerOf_216 (lv_at hl 0 rfl) ?_
      obtain ⟨q218, hq218, hE⟩ := x_bind hE
      refine i_X6_320_L2 hB hz kdX_0 (c_X6_answerOf_L2 l g  hq218) ⟨(Nat.le_of_ble_eq_true rfl), (Nat.le_of_ble_eq_true rfl)⟩ hl.1 (Nat.le_of_ble_eq_true rfl) dX6_answerOf_218 (fun H locs hz => ?_)
      refine lv_imul hx hb dX6_answerOf_221 ?_
      exact x_iret hB hz hE dX6_answerOf_222
    have hE := (if_neg c19_24).symm.trans hE
    have nc19_10 := x_nei c19_10 (k := 10) (by decide)
    have nc19_11 := x_nei c19_11 (k := 11) (by decide)
    have nc19_12 := x_nei c19_12 (k := 12) (by decide)
    have nc19_13 := x_nei c19_13 (k := 13) (by decide)
    have nc19_14 := x_nei c19_14 (k := 14) (by decide)
    have nc19_15 := x_nei c19_15 (k := 15) (by decide)
    have nc19_16 := x_nei c19_16 (k := 16) (by decide)
    have nc19_17 := x_nei c19_17 (k := 17) (by decide)
    have nc19_18 := x_nei c19_18 (k := 18) (by decide)
    have nc19_19 := x_nei c19_19 (k := 19) (by decide)
    have nc19_20 := x_nei c19_20 (k := 20) (by decide)
    have nc19_21 := x_nei c19_21 (k := 21) (by decide)
    have nc19_22 := x_nei c19_22 (k := 22) (by decide)
    have nc19_23 := x_nei c19_23 (k := 23) (by decide)
    have nc19_24 := x_nei c19_24 (k := 24) (by decide)
    refine lv_tableOut (tgt := 223) hx hb dX6_answerOf_19 (by omega) (by decide) ?_
    refine lv_iconst (v := (0 : Int32)) hx hb dX6_answerOf_223 (by decide) ?_
    exact x_iret hB hz hE dX6_answerOf_224
  · have hE := (if_neg c3).symm.trans hE
    refine lv_iconst (v := (0 : Int32)) hx hb dX6_answerOf_6 (by decide) ?_
    exact x_iret hB hz hE dX6_answerOf_7
theorem c_X6_answerOf_L3 (l : Launch) (g : GP) {x1 : Int32} {x2 : Int32} {x3 : Int32} {V : Mem} {o : Int32 × Mem} (hE : f_X6_answerOf_L3 x1 x2 x3 V = some o) : CT l g LX yX6_answerOf cX6_answerOf 5 (some .int) rm_X6_answerOf_L3 [.ref (ad g 0), .int x1, .int x2, .int x3] V (some (.int o.1)) o.2 := by
  refine ct_of (by decide) (Nat.le_of_ble_eq_true rfl) ?_
  intro p e s m args below meth c ls hB hz hl
  exact w_X6_answerOf_L3 hB _ _ _ _ _ _ _  hE hz hl
def rm_X6_answerTo_L3 : Room := { frames := 9, cells := 0, slots := 0, locals := 291 }
theorem i_X6_320_L3 {p : Program} {l : Launch} {e : Env} {R : Room} {s : State} {m : MethodId} {args : Array Value} {below : List Frame} {meth : Method} {c : Code} {H : Heap} {locs : List Loc} {Q : State → Prop} {cc : ByteArray} {pc : Nat} {ls : Array Slot} {rest : List Value} {g : GP} {V : Mem} {nL : Nat} {ret : Option FieldType} (hB : BX p s m args meth c g LX cc nL RX6 ret) (hz : OK g LX V s H locs) {i : Nat} (hk : KD LX i 5) {a0 : Int32} {a1 : Int32} {a2 : Int32} {r : Int32} {V1 : Mem} (hM : CT l g LX yX6_answerOf cX6_answerOf 5 (some .int) rm_X6_answerOf_L3 [.ref (ad g i), .int a0, .int a1, .int a2] V (some (.int r)) V1) (hR : rm_X6_answerOf_L3.frames + 1 ≤ R.frames ∧ 8 + (5 + 11) + rm_X6_answerOf_L3.locals ≤ R.locals) (hsz : ls.size = nL) (hrest : (rest.map fun v => v.category).sum ≤ 8) (hdg : decode cc pc = .ok (.invokevirtual 320, 3)) (kk : ∀ (H1 : Heap) (locs1 : List Loc), OK g LX V1 s H1 locs1 → W p l e R s m args below meth c H1 locs1 0 0 Q (F0 m (pc + 3) ls (.int r :: rest))) : W p l e R s m args below meth c H locs 0 0 Q (F0 m pc ls (.int a2 :: .int a1 :: .int a0 :: .ref (ad g i) :: rest)) :=
  x_cv (As := [.int a0, .int a1, .int a2]) (n := 3) (T := TX6) (N := 14) hB hz hM hk rfl rfl rfl rfl kw_695 kw_62 kw_692 kw_694 kw_20 (by decide +kernel) rfl hR hsz hrest hdg kk
set_option maxHeartbeats 4000000 in
set_option maxRecDepth 100000 in
theorem w_X6_answerTo_L3_63_t3 {p : Program} {l : Launch} {e : Env} {s : State} {m : MethodId} {args : Array Value} {below : List Frame} {meth : Method} {c : Code} {g : GP} (hB : BX p s m args meth c g LX cX6_answerTo 7 RX6 (some .int)) {o : Int32 × Mem} : ∀ (x2 : Int32) (x3 : Int32) (x5 : Int32) (V : Mem) (H : Heap) (locs : List Loc) (ls : Array Slot), f_X6_answerTo_L3_63_t3 x2 x3 x5 V = some o → OK g LX V s H locs → lv_has ls 7 [(0, .ref (ad g 0)), (2, .int x2), (3, .int x3), (4, .ref (sa g 3)), (5, .int x5)] → W p l e rm_X6_answerTo_L3 s m args below meth c H locs 0 0 (MQ below (QQ g LX (some (.int o.1)) o.2) args s 0 0 (Ar g LX)) (F0 m 63 ls []) := by
  obtain ⟨hx, hb, hml, hown, hT, hr, hlk, hK, hJ, hZ, hN⟩ := id hB
  intro x2 x3 x5 V H locs ls hE hz hl
  unfold f_X6_answerTo_L3_63_t3 at hE
  refine lv_aload_n hx hb dX6_answerTo_63 rfl (lv_at hl 0 rfl) ?_
  refine lv_aload hx hb dX6_answerTo_64 (lv_at hl 3 rfl) ?_
  refine lv_iload hx hb dX6_answerTo_66 (lv_at hl 4 rfl) ?_
  obtain ⟨hi68, hE⟩ := x_chk hE
  refine x_sti (k := 3) (by decide) rfl hB hz hi68 dX6_answerTo_68 ?_
  refine lv_iload_n hx hb dX6_answerTo_69 rfl (lv_at hl 1 rfl) ?_
  refine lv_iload_n hx hb dX6_answerTo_70 rfl (lv_at hl 2 rfl) ?_
  refine lv_iconst (v := (1 : Int32)) hx hb dX6_answerTo_71 (by decide) ?_
  refine lv_iadd hx hb dX6_answerTo_72 ?_
  obtain ⟨q73, hq73, hE⟩ := x_bind hE
  refine i_X6_320_L3 hB hz kdX_0 (c_X6_answerOf_L3 l g  hq73) ⟨(Nat.le_of_ble_eq_true rfl), (Nat.le_of_ble_eq_true rfl)⟩ hl.1 (Nat.le_of_ble_eq_true rfl) dX6_answerTo_73 (fun H locs hz => ?_)
  exact x_iret hB hz hE dX6_answerTo_76

set_option maxHeartbeats 4000000 in
set_option maxRecDepth 100000 in
theorem w_X6_answerTo_L3_29_t3 {p : Program} {l : Launch} {e : Env} {s : State} {m : MethodId} {args : Array Value} {below : List Frame} {meth : Method} {c : Code} {g : GP} (hB : BX p s m args meth c g LX cX6_answerTo 7 RX6 (some .int)) {o : Int32 × Mem} : ∀ (n : Nat), ∀ (x2 : Int32) (x3 : Int32) (x5 : Int32) (x6 : Int32) (V : Mem) (H : Heap) (locs : List Loc) (ls : Array Slot), f_X6_answerTo_L3_29_t3 n x2 x3 x5 x6 V = some o → OK g LX V s H locs → lv_has ls 7 [(0, .ref (ad g 0)), (2, .int x2), (3, .int x3), (4, .ref (sa g 3)), (5, .int x5), (6, .int x6)] → W p l e rm_X6_answerTo_L3 s m args below meth c H locs 0 0 (MQ below (QQ g LX (some (.int o.1)) o.2) args s 0 0 (Ar g LX)) (F0 m 29 ls []) := by
  obtain ⟨hx, hb, hml, hown, hT, hr, hlk, hK, hJ, hZ, hN⟩ := id hB
  intro n
  induction n with
  | zero =>
    intro x2 x3 x5 x6 V H locs ls hE hz hl
    exact absurd (show (none : Option (Int32 × Mem)) = some o from hE) (by simp)
  | succ n ih =>
    intro x2 x3 x5 x6 V H locs ls hE hz hl
    unfold f_X6_answerTo_L3_29_t3 at hE
    refine lv_iload hx hb dX6_answerTo_29 (lv_at hl 5 rfl) ?_
    refine lv_bipush (v := (6 : Int32)) hx hb dX6_answerTo_31 (by decide) ?_
    refine lv_icmp_ge (tgt := 63) hx hb dX6_answerTo_33 (by decide) (fun c33 => ?_) (fun c33 => ?_)
    · have hE := (if_pos c33).symm.trans hE
      exact w_X6_answerTo_L3_63_t3 hB  _ _ _ _ _ _ _  hE hz (lv_sub hl [0, 1, 2, 3, 4] rfl)
    · have hE := (if_neg c33).symm.trans hE
      refine lv_iload hx hb dX6_answerTo_36 (lv_at hl 4 rfl) ?_
      refine lv_if_eq (tgt := 63) hx hb dX6_answerTo_38 (by decide) (fun c38 => ?_) (fun c38 => ?_)
      · have hE := (if_pos c38).symm.trans hE
        exact w_X6_answerTo_L3_63_t3 hB  _ _ _ _ _ _ _  hE hz (lv_sub hl [0, 1, 2, 3, 4] rfl)
      · have hE := (if_neg c38).symm.trans hE
        refine lv_aload hx hb dX6_answerTo_41 (lv_at hl 3 rfl) ?_
        refine lv_iload hx hb dX6_answerTo_43 (lv_at hl 4 rfl) ?_
        obtain ⟨hi45, hE⟩ := x_chk hE
        refine x_sti (k := 3) (by decide) rfl hB hz hi45 dX6_answerTo_45 ?_
        refine lv_if_ne (tgt := 63) hx hb dX6_answerTo_46 (by decide) (fun c46 => ?_) (fun c46 => ?_)
        · have hE := (if_neg c46).symm.trans hE
          exact w_X6_answerTo_L3_63_t3 hB  _ _ _ _ _ _ _  hE hz (lv_sub hl [0, 1, 2, 3, 4] rfl)
        · have hE := (if_pos c46).symm.trans hE
          refine x_gst (k := 0) (by decide) hB hz kw_678 dX6_answerTo_49 ?_
          refine lv_iload hx hb dX6_answerTo_52 (lv_at hl 4 rfl) ?_
          obtain ⟨hi54, hE⟩ := x_chk hE
          refine x_sti (k := 0) (by decide) rfl hB hz hi54 dX6_answerTo_54 ?_
          refine lv_istore (lv' := [(5, .int (tba 0 (x5).toNatClampNeg)), (0, .ref (ad g 0)), (2, .int x2), (3, .int x3), (4, .ref (sa g 3)), (6, .int x6)]) hx hb dX6_answerTo_55 hl (by decide) rfl (fun ls hl => ?_)
          refine lv_iinc (v := (x6 + 1)) (lv' := [(6, .int (x6 + 1)), (5, .int (tba 0 (x5).toNatClampNeg)), (0, .ref (ad g 0)), (2, .int x2), (3, .int x3), (4, .ref (sa g 3))]) hx hb dX6_answerTo_57 hl (k := 5) rfl rfl (by decide) rfl (fun ls hl => ?_)
          refine lv_goto (tgt := 29) hx hb dX6_answerTo_60 (by decide) ?_
          exact ih _ _ _ _ _ _ _ _  hE hz (lv_sub hl [2, 3, 4, 5, 1, 0] rfl)

set_option maxHeartbeats 4000000 in
set_option maxRecDepth 100000 in
theorem w_X6_answerTo_L3_13_u3 {p : Program} {l : Launch} {e : Env} {s : State} {m : MethodId} {args : Array Value} {below : List Frame} {meth : Method} {c : Code} {g : GP} (hB : BX p s m args meth c g LX cX6_answerTo 7 RX6 (some .int)) {o : Int32 × Mem} : ∀ (x2 : Int32) (x3 : Int32) (V : Mem) (H : Heap) (locs : List Loc) (ls : Array Slot), f_X6_answerTo_L3_13_u3 x2 x3 V = some o → OK g LX V s H locs → lv_has ls 7 [(0, .ref (ad g 0)), (2, .int x2), (3, .int x3)] → W p l e rm_X6_answerTo_L3 s m args below meth c H locs 0 0 (MQ below (QQ g LX (some (.int o.1)) o.2) args s 0 0 (Ar g LX)) (F0 m 13 ls [.ref (sa g 3)]) := by
  obtain ⟨hx, hb, hml, hown, hT, hr, hlk, hK, hJ, hZ, hN⟩ := id hB
  intro x2 x3 V H locs ls hE hz hl
  unfold f_X6_answerTo_L3_13_u3 at hE
  refine lv_astore (lv' := [(4, .ref (sa g 3)), (0, .ref (ad g 0)), (2, .int x2), (3, .int x3)]) hx hb dX6_answerTo_13 hl (by decide) rfl (fun ls hl => ?_)
  refine lv_aload_n hx hb dX6_answerTo_15 rfl (lv_at hl 1 rfl) ?_
  refine g_X6_25 hB hz kdX_0 dX6_answerTo_16 ?_
  refine g_X6_183 hB hz kdX_4 dX6_answerTo_19 ?_
  refine lv_iload_n hx hb dX6_answerTo_22 rfl (lv_at hl 2 rfl) ?_
  obtain ⟨hi23, hE⟩ := x_chk hE
  refine x_iald (n := 24) hB hz kdX_6 hi23 dX6_answerTo_23 ?_
  refine lv_istore (lv' := [(5, .int (V 6 (x2).toNatClampNeg)), (4, .ref (sa g 3)), (0, .ref (ad g 0)), (2, .int x2), (3, .int x3)]) hx hb dX6_answerTo_24 hl (by decide) rfl (fun ls hl => ?_)
  refine lv_iconst (v := (0 : Int32)) hx hb dX6_answerTo_26 (by decide) ?_
  refine lv_istore (lv' := [(6, .int (0 : Int32)), (5, .int (V 6 (x2).toNatClampNeg)), (4, .ref (sa g 3)), (0, .ref (ad g 0)), (2, .int x2), (3, .int x3)]) hx hb dX6_answerTo_27 hl (by decide) rfl (fun ls hl => ?_)
  exact w_X6_answerTo_L3_29_t3 hB  _ _ _ _ _ _ _ _ _  hE hz (lv_sub hl [3, 4, 5, 2, 1, 0] rfl)

set_option maxHeartbeats 4000000 in
set_option maxRecDepth 100000 in
theorem w_X6_answerTo_L3_63_t2 {p : Program} {l : Launch} {e : Env} {s : State} {m : MethodId} {args : Array Value} {below : List Frame} {meth : Method} {c : Code} {g : GP} (hB : BX p s m args meth c g LX cX6_answerTo 7 RX6 (some .int)) {o : Int32 × Mem} : ∀ (x2 : Int32) (x3 : Int32) (x5 : Int32) (V : Mem) (H : Heap) (locs : List Loc) (ls : Array Slot), f_X6_answerTo_L3_63_t2 x2 x3 x5 V = some o → OK g LX V s H locs → lv_has ls 7 [(0, .ref (ad g 0)), (2, .int x2), (3, .int x3), (4, .ref (sa g 2)), (5, .int x5)] → W p l e rm_X6_answerTo_L3 s m args below meth c H locs 0 0 (MQ below (QQ g LX (some (.int o.1)) o.2) args s 0 0 (Ar g LX)) (F0 m 63 ls []) := by
  obtain ⟨hx, hb, hml, hown, hT, hr, hlk, hK, hJ, hZ, hN⟩ := id hB
  intro x2 x3 x5 V H locs ls hE hz hl
  unfold f_X6_answerTo_L3_63_t2 at hE
  refine lv_aload_n hx hb dX6_answerTo_63 rfl (lv_at hl 0 rfl) ?_
  refine lv_aload hx hb dX6_answerTo_64 (lv_at hl 3 rfl) ?_
  refine lv_iload hx hb dX6_answerTo_66 (lv_at hl 4 rfl) ?_
  obtain ⟨hi68, hE⟩ := x_chk hE
  refine x_sti (k := 2) (by decide) rfl hB hz hi68 dX6_answerTo_68 ?_
  refine lv_iload_n hx hb dX6_answerTo_69 rfl (lv_at hl 1 rfl) ?_
  refine lv_iload_n hx hb dX6_answerTo_70 rfl (lv_at hl 2 rfl) ?_
  refine lv_iconst (v := (1 : Int32)) hx hb dX6_answerTo_71 (by decide) ?_
  refine lv_iadd hx hb dX6_answerTo_72 ?_
  obtain ⟨q73, hq73, hE⟩ := x_bind hE
  refine i_X6_320_L3 hB hz kdX_0 (c_X6_answerOf_L3 l g  hq73) ⟨(Nat.le_of_ble_eq_true rfl), (Nat.le_of_ble_eq_true rfl)⟩ hl.1 (Nat.le_of_ble_eq_true rfl) dX6_answerTo_73 (fun H locs hz => ?_)
  exact x_iret hB hz hE dX6_answerTo_76

set_option maxHeartbeats 4000000 in
set_option maxRecDepth 100000 in
theorem w_X6_answerTo_L3_29_t2 {p : Program} {l : Launch} {e : Env} {s : State} {m : MethodId} {args : Array Value} {below : List Frame} {meth : Method} {c : Code} {g : GP} (hB : BX p s m args meth c g LX cX6_answerTo 7 RX6 (some .int)) {o : Int32 × Mem} : ∀ (n : Nat), ∀ (x2 : Int32) (x3 : Int32) (x5 : Int32) (x6 : Int32) (V : Mem) (H : Heap) (locs : List Loc) (ls : Array Slot), f_X6_answerTo_L3_29_t2 n x2 x3 x5 x6 V = some o → OK g LX V s H locs → lv_has ls 7 [(0, .ref (ad g 0)), (2, .int x2), (3, .int x3), (4, .ref (sa g 2)), (5, .int x5), (6, .int x6)] → W p l e rm_X6_answerTo_L3 s m args below meth c H locs 0 0 (MQ below (QQ g LX (some (.int o.1)) o.2) args s 0 0 (Ar g LX)) (F0 m 29 ls []) := by
  obtain ⟨hx, hb, hml, hown, hT, hr, hlk, hK, hJ, hZ, hN⟩ := id hB
  intro n
  induction n with
  | zero =>
    intro x2 x3 x5 x6 V H locs ls hE hz hl
    exact absurd (show (none : Option (Int32 × Mem)) = some o from hE) (by simp)
  | succ n ih =>
    intro x2 x3 x5 x6 V H locs ls hE hz hl
    unfold f_X6_answerTo_L3_29_t2 at hE
    refine lv_iload hx hb dX6_answerTo_29 (lv_at hl 5 rfl) ?_
    refine lv_bipush (v := (6 : Int32)) hx hb dX6_answerTo_31 (by decide) ?_
    refine lv_icmp_ge (tgt := 63) hx hb dX6_answerTo_33 (by decide) (fun c33 => ?_) (fun c33 => ?_)
    · have hE := (if_pos c33).symm.trans hE
      exact w_X6_answerTo_L3_63_t2 hB  _ _ _ _ _ _ _  hE hz (lv_sub hl [0, 1, 2, 3, 4] rfl)
    · have hE := (if_neg c33).symm.trans hE
      refine lv_iload hx hb dX6_answerTo_36 (lv_at hl 4 rfl) ?_
      refine lv_if_eq (tgt := 63) hx hb dX6_answerTo_38 (by decide) (fun c38 => ?_) (fun c38 => ?_)
      · have hE := (if_pos c38).symm.trans hE
        exact w_X6_answerTo_L3_63_t2 hB  _ _ _ _ _ _ _  hE hz (lv_sub hl [0, 1, 2, 3, 4] rfl)
      · have hE := (if_neg c38).symm.trans hE
        refine lv_aload hx hb dX6_answerTo_41 (lv_at hl 3 rfl) ?_
        refine lv_iload hx hb dX6_answerTo_43 (lv_at hl 4 rfl) ?_
        obtain ⟨hi45, hE⟩ := x_chk hE
        refine x_sti (k := 2) (by decide) rfl hB hz hi45 dX6_answerTo_45 ?_
        refine lv_if_ne (tgt := 63) hx hb dX6_answerTo_46 (by decide) (fun c46 => ?_) (fun c46 => ?_)
        · have hE := (if_neg c46).symm.trans hE
          exact w_X6_answerTo_L3_63_t2 hB  _ _ _ _ _ _ _  hE hz (lv_sub hl [0, 1, 2, 3, 4] rfl)
        · have hE := (if_pos c46).symm.trans hE
          refine x_gst (k := 0) (by decide) hB hz kw_678 dX6_answerTo_49 ?_
          refine lv_iload hx hb dX6_answerTo_52 (lv_at hl 4 rfl) ?_
          obtain ⟨hi54, hE⟩ := x_chk hE
          refine x_sti (k := 0) (by decide) rfl hB hz hi54 dX6_answerTo_54 ?_
          refine lv_istore (lv' := [(5, .int (tba 0 (x5).toNatClampNeg)), (0, .ref (ad g 0)), (2, .int x2), (3, .int x3), (4, .ref (sa g 2)), (6, .int x6)]) hx hb dX6_answerTo_55 hl (by decide) rfl (fun ls hl => ?_)
          refine lv_iinc (v := (x6 + 1)) (lv' := [(6, .int (x6 + 1)), (5, .int (tba 0 (x5).toNatClampNeg)), (0, .ref (ad g 0)), (2, .int x2), (3, .int x3), (4, .ref (sa g 2))]) hx hb dX6_answerTo_57 hl (k := 5) rfl rfl (by decide) rfl (fun ls hl => ?_)
          refine lv_goto (tgt := 29) hx hb dX6_answerTo_60 (by decide) ?_
          exact ih _ _ _ _ _ _ _ _  hE hz (lv_sub hl [2, 3, 4, 5, 1, 0] rfl)

set_option maxHeartbeats 4000000 in
set_option maxRecDepth 100000 in
theorem w_X6_answerTo_L3_13_u2 {p : Program} {l : Launch} {e : Env} {s : State} {m : MethodId} {args : Array Value} {below : List Frame} {meth : Method} {c : Code} {g : GP} (hB : BX p s m args meth c g LX cX6_answerTo 7 RX6 (some .int)) {o : Int32 × Mem} : ∀ (x2 : Int32) (x3 : Int32) (V : Mem) (H : Heap) (locs : List Loc) (ls : Array Slot), f_X6_answerTo_L3_13_u2 x2 x3 V = some o → OK g LX V s H locs → lv_has ls 7 [(0, .ref (ad g 0)), (2, .int x2), (3, .int x3)] → W p l e rm_X6_answerTo_L3 s m args below meth c H locs 0 0 (MQ below (QQ g LX (some (.int o.1)) o.2) args s 0 0 (Ar g LX)) (F0 m 13 ls [.ref (sa g 2)]) := by
  obtain ⟨hx, hb, hml, hown, hT, hr, hlk, hK, hJ, hZ, hN⟩ := id hB
  intro x2 x3 V H locs ls hE hz hl
  unfold f_X6_answerTo_L3_13_u2 at hE
  refine lv_astore (lv' := [(4, .ref (sa g 2)), (0, .ref (ad g 0)), (2, .int x2), (3, .int x3)]) hx hb dX6_answerTo_13 hl (by decide) rfl (fun ls hl => ?_)
  refine lv_aload_n hx hb dX6_answerTo_15 rfl (lv_at hl 1 rfl) ?_
  refine g_X6_25 hB hz kdX_0 dX6_answerTo_16 ?_
  refine g_X6_183 hB hz kdX_4 dX6_answerTo_19 ?_
  refine lv_iload_n hx hb dX6_answerTo_22 rfl (lv_at hl 2 rfl) ?_
  obtain ⟨hi23, hE⟩ := x_chk hE
  refine x_iald (n := 24) hB hz kdX_6 hi23 dX6_answerTo_23 ?_
  refine lv_istore (lv' := [(5, .int (V 6 (x2).toNatClampNeg)), (4, .ref (sa g 2)), (0, .ref (ad g 0)), (2, .int x2), (3, .int x3)]) hx hb dX6_answerTo_24 hl (by decide) rfl (fun ls hl => ?_)
  refine lv_iconst (v := (0 : Int32)) hx hb dX6_answerTo_26 (by decide) ?_
  refine lv_istore (lv' := [(6, .int (0 : Int32)), (5, .int (V 6 (x2).toNatClampNeg)), (4, .ref (sa g 2)), (0, .ref (ad g 0)), (2, .int x2), (3, .int x3)]) hx hb dX6_answerTo_27 hl (by decide) rfl (fun ls hl => ?_)
  exact w_X6_answerTo_L3_29_t2 hB  _ _ _ _ _ _ _ _ _  hE hz (lv_sub hl [3, 4, 5, 2, 1, 0] rfl)

set_option maxHeartbeats 4000000 in
set_option maxRecDepth 100000 in
theorem w_X6_answerTo_L3 {p : Program} {l : Launch} {e : Env} {s : State} {m : MethodId} {args : Array Value} {below : List Frame} {meth : Method} {c : Code} {g : GP} (hB : BX p s m args meth c g LX cX6_answerTo 7 RX6 (some .int)) {o : Int32 × Mem} : ∀ (x1 : Int32) (x2 : Int32) (x3 : Int32) (V : Mem) (H : Heap) (locs : List Loc) (ls : Array Slot), f_X6_answerTo_L3 x1 x2 x3 V = some o → OK g LX V s H locs → lv_has ls 7 [(0, .ref (ad g 0)), (1, .int x1), (2, .int x2), (3, .int x3)] → W p l e rm_X6_answerTo_L3 s m args below meth c H locs 0 0 (MQ below (QQ g LX (some (.int o.1)) o.2) args s 0 0 (Ar g LX)) (F0 m 0 ls []) := by
  obtain ⟨hx, hb, hml, hown, hT, hr, hlk, hK, hJ, hZ, hN⟩ := id hB
  intro x1 x2 x3 V H locs ls hE hz hl
  unfold f_X6_answerTo_L3 at hE
  refine lv_iload_n hx hb dX6_answerTo_0 rfl (lv_at hl 1 rfl) ?_
  refine lv_if_ne (tgt := 10) hx hb dX6_answerTo_1 (by decide) (fun c1 => ?_) (fun c1 => ?_)
  · have hE := (if_neg c1).symm.trans hE
    refine x_gst (k := 3) (by decide) hB hz kw_690 dX6_answerTo_10 ?_
    exact w_X6_answerTo_L3_13_u3 hB  _ _ _ _ _ _  hE hz (lv_sub hl [0, 2, 3] rfl)
  · have hE := (if_pos c1).symm.trans hE
    refine x_gst (k := 2) (by decide) hB hz kw_688 dX6_answerTo_4 ?_
    refine lv_goto (tgt := 13) hx hb dX6_answerTo_7 (by decide) ?_
    exact w_X6_answerTo_L3_13_u2 hB  _ _ _ _ _ _  hE hz (lv_sub hl [0, 2, 3] rfl)
theorem c_X6_answerTo_L3 (l : Launch) (g : GP) {x1 : Int32} {x2 : Int32} {x3 : Int32} {V : Mem} {o : Int32 × Mem} (hE : f_X6_answerTo_L3 x1 x2 x3 V = some o) : CT l g LX yX6_answerTo cX6_answerTo 7 (some .int) rm_X6_answerTo_L3 [.ref (ad g 0), .int x1, .int x2, .int x3] V (some (.int o.1)) o.2 := by
  refine ct_of (by decide) (Nat.le_of_ble_eq_true rfl) ?_
  intro p e s m args below meth c ls hB hz hl
  exact w_X6_answerTo_L3 hB _ _ _ _ _ _ _  hE hz hl
def rm_X6_answerOf_L4 : Room := { frames := 10, cells := 0, slots := 0, locals := 317 }
theorem i_X6_295_L3 {p : Program} {l : Launch} {e : Env} {R : Room} {s : State} {m : MethodId} {args : Array Value} {below : List Frame} {meth : Method} {c : Code} {H : Heap} {locs : List Loc} {Q : State → Prop} {cc : ByteArray} {pc : Nat} {ls : Array Slot} {rest : List Value} {g : GP} {V : Mem} {nL : Nat} {ret : Option FieldType} (hB : BX p s m args meth c g LX cc nL RX6 ret) (hz : OK g LX V s H locs) {i : Nat} (hk : KD LX i 5) {a0 : Int32} {a1 : Int32} {a2 : Int32} {r : Int32} {V1 : Mem} (hM : CT l g LX yX6_answerTo cX6_answerTo 7 (some .int) rm_X6_answerTo_L3 [.ref (ad g i), .int a0, .int a1, .int a2] V (some (.int r)) V1) (hR : rm_X6_answerTo_L3.frames + 1 ≤ R.frames ∧ 8 + (7 + 11) + rm_X6_answerTo_L3.locals ≤ R.locals) (hsz : ls.size = nL) (hrest : (rest.map fun v => v.category).sum ≤ 8) (hdg : decode cc pc = .ok (.invokevirtual 295, 3)) (kk : ∀ (H1 : Heap) (locs1 : List Loc), OK g LX V1 s H1 locs1 → W p l e R s m args below meth c H1 locs1 0 0 Q (F0 m (pc + 3) ls (.int r :: rest))) : W p l e R s m args below meth c H locs 0 0 Q (F0 m pc ls (.int a2 :: .int a1 :: .int a0 :: .ref (ad g i) :: rest)) :=
  x_cv (As := [.int a0, .int a1, .int a2]) (n := 3) (T := TX6) (N := 14) hB hz hM hk rfl rfl rfl rfl kw_687 kw_62 kw_684 kw_686 kw_19 (by decide +kernel) rfl hR hsz hrest hdg kk
set_option maxHeartbeats 4000000 in
set_option maxRecDepth 100000 in
theorem w_X6_answerOf_L4 {p : Program} {l : Launch} {e : Env} {s : State} {m : MethodId} {args : Array Value} {below : List Frame} {meth : Method} {c : Code} {g : GP} (hB : BX p s m args meth c g LX cX6_answerOf 5 RX6 (some .int)) {o : Int32 × Mem} : ∀ (x1 : Int32) (x2 : Int32) (x3 : Int32) (V : Mem) (H : Heap) (locs : List Loc) (ls : Array Slot), f_X6_answerOf_L4 x1 x2 x3 V = some o → OK g LX V s H locs → lv_has ls 5 [(0, .ref (ad g 0)), (1, .int x1), (2, .int x2), (3, .int x3)] → W p l e rm_X6_answerOf_L4 s m args below meth c H locs 0 0 (MQ below (QQ g LX (some (.int o.1)) o.2) args s 0 0 (Ar g LX)) (F0 m 0 ls []) := by
  obtain ⟨hx, hb, hml, hown, hT, hr, hlk, hK, hJ, hZ, hN⟩ := id hB
  intro x1 x2 x3 V H locs ls hE hz hl
  unfold f_X6_answerOf_L4 at hE
  refine lv_iload_n hx hb dX6_answerOf_0 rfl (lv_at hl 3 rfl) ?_
  refine lv_bipush (v := (20 : Int32)) hx hb dX6_answerOf_1 (by decide) ?_
  refine lv_icmp_le (tgt := 8) hx hb dX6_answerOf_3 (by decide) (fun c3 => ?_) (fun c3 => ?_)
  · have hE := (if_pos c3).symm.trans hE
    refine lv_aload_n hx hb dX6_answerOf_8 rfl (lv_at hl 0 rfl) ?_
    refine lv_iload_n hx hb dX6_answerOf_9 rfl (lv_at hl 1 rfl) ?_
    obtain ⟨q10, hq10, hE⟩ := x_bind hE
    refine i_X6_323 hB hz kdX_0 (c_X6_leaveTrace l g  hq10) ⟨(Nat.le_of_ble_eq_true rfl), (Nat.le_of_ble_eq_true rfl)⟩ hl.1 (Nat.le_of_ble_eq_true rfl) dX6_answerOf_10 (fun H locs hz => ?_)
    refine lv_iload_n hx hb dX6_answerOf_13 rfl (lv_at hl 3 rfl) ?_
    refine lv_iconst (v := (1 : Int32)) hx hb dX6_answerOf_14 (by decide) ?_
    refine lv_iadd hx hb dX6_answerOf_15 ?_
    refine lv_istore (lv' := [(4, .int (x3 + (1 : Int32))), (0, .ref (ad g 0)), (1, .int x1), (2, .int x2), (3, .int x3)]) hx hb dX6_answerOf_16 hl (by decide) rfl (fun ls hl => ?_)
    refine lv_iload_n hx hb dX6_answerOf_18 rfl (lv_at hl 2 rfl) ?_
    by_cases c19_10 : x1 = (10 : Int32)
    · have hE := (if_pos c19_10).symm.trans hE
      refine lv_tableIn (tgt := 92) hx hb dX6_answerOf_19 (by rw [c19_10]; decide) (by rw [c19_10]; decide) (by rw [c19_10]; rfl) (by decide) ?_
      refine lv_aload_n hx hb dX6_answerOf_92 rfl (lv_at hl 1 rfl) ?_
      refine g_X6_25 hB hz kdX_0 dX6_answerOf_93 ?_
      refine g_X6_195 hB hz kdX_4 dX6_answerOf_96 ?_
      refine lv_iload_n hx hb dX6_answerOf_99 rfl (lv_at hl 3 rfl) ?_
      obtain ⟨hi100, hE⟩ := x_chk hE
      refine x_iald (n := 24) hB hz kdX_8 hi100 dX6_answerOf_100 ?_
      exact x_iret hB hz hE dX6_answerOf_101
    have hE := (if_neg c19_10).symm.trans hE
    by_cases c19_11 : x1 = (11 : Int32)
    · have hE := (if_pos c19_11).symm.trans hE
      refine lv_tableIn (tgt := 102) hx hb dX6_answerOf_19 (by rw [c19_11]; decide) (by rw [c19_11]; decide) (by rw [c19_11]; rfl) (by decide) ?_
      refine lv_aload_n hx hb dX6_answerOf_102 rfl (lv_at hl 1 rfl) ?_
      refine lv_bipush (v := (10 : Int32)) hx hb dX6_answerOf_103 (by decide) ?_
      refine lv_iload_n hx hb dX6_answerOf_105 rfl (lv_at hl 3 rfl) ?_
      refine lv_iload hx hb dX6_answerOf_106 (lv_at hl 0 rfl) ?_
      obtain ⟨q108, hq108, hE⟩ := x_bind hE
      refine i_X6_320_L3 hB hz kdX_0 (c_X6_answerOf_L3 l g  hq108) ⟨(Nat.le_of_ble_eq_true rfl), (Nat.le_of_ble_eq_true rfl)⟩ hl.1 (Nat.le_of_ble_eq_true rfl) dX6_answerOf_108 (fun H locs hz => ?_)
      refine lv_aload_n hx hb dX6_answerOf_111 rfl (lv_at hl 1 rfl) ?_
      refine lv_iconst (v := (1 : Int32)) hx hb dX6_answerOf_112 (by decide) ?_
      refine lv_iload_n hx hb dX6_answerOf_113 rfl (lv_at hl 3 rfl) ?_
      refine lv_iload hx hb dX6_answerOf_114 (lv_at hl 0 rfl) ?_
      obtain ⟨q116, hq116, hE⟩ := x_bind hE
      refine i_X6_295_L3 hB hz kdX_0 (c_X6_answerTo_L3 l g  hq116) ⟨(Nat.le_of_ble_eq_true rfl), (Nat.le_of_ble_eq_true rfl)⟩ hl.1 (Nat.le_of_ble_eq_true rfl) dX6_answerOf_116 (fun H locs hz => ?_)
      refine lv_iadd hx hb dX6_answerOf_119 ?_
      exact x_iret hB hz hE dX6_answerOf_120
    have hE := (if_neg c19_11).symm.trans hE
    by_cases c19_12 : x1 = (12 : Int32)
    · have hE := (if_pos c19_12).symm.trans hE
      refine lv_tableIn (tgt := 121) hx hb dX6_answerOf_19 (by rw [c19_12]; decide) (by rw [c19_12]; decide) (by rw [c19_12]; rfl) (by decide) ?_
      refine lv_aload_n hx hb dX6_answerOf_121 rfl (lv_at hl 1 rfl) ?_
      refine lv_bipush (v := (11 : Int32)) hx hb dX6_answerOf_122 (by decide) ?_
      refine lv_iload_n hx hb dX6_answerOf_124 rfl (lv_at hl 3 rfl) ?_
      refine lv_iload hx hb dX6_answerOf_125 (lv_at hl 0 rfl) ?_
      obtain ⟨q127, hq127, hE⟩ := x_bind hE
      refine i_X6_320_L3 hB hz kdX_0 (c_X6_answerOf_L3 l g  hq127) ⟨(Nat.le_of_ble_eq_true rfl), (Nat.le_of_ble_eq_true rfl)⟩ hl.1 (Nat.le_of_ble_eq_true rfl) dX6_answerOf_127 (fun H locs hz => ?_)
      refine lv_ineg hx hb dX6_answerOf_130 ?_
      exact x_iret hB hz hE dX6_answerOf_131
    have hE := (if_neg c19_12).symm.trans hE
    by_cases c19_13 : x1 = (13 : Int32)
    · have hE := (if_pos c19_13).symm.trans hE
      refine lv_tableIn (tgt := 132) hx hb dX6_answerOf_19 (by rw [c19_13]; decide) (by rw [c19_13]; decide) (by rw [c19_13]; rfl) (by decide) ?_
      refine lv_aload_n hx hb dX6_answerOf_132 rfl (lv_at hl 1 rfl) ?_
      refine lv_bipush (v := (10 : Int32)) hx hb dX6_answerOf_133 (by decide) ?_
      refine lv_iload_n hx hb dX6_answerOf_135 rfl (lv_at hl 3 rfl) ?_
      refine lv_iload hx hb dX6_answerOf_136 (lv_at hl 0 rfl) ?_
      obtain ⟨q138, hq138, hE⟩ := x_bind hE
      refine i_X6_320_L3 hB hz kdX_0 (c_X6_answerOf_L3 l g  hq138) ⟨(Nat.le_of_ble_eq_true rfl), (Nat.le_of_ble_eq_true rfl)⟩ hl.1 (Nat.le_of_ble_eq_true rfl) dX6_answerOf_138 (fun H locs hz => ?_)
      refine lv_bipush (v := (100 : Int32)) hx hb dX6_answerOf_141 (by decide) ?_
      refine lv_isub hx hb dX6_answerOf_143 ?_
      exact x_iret hB hz hE dX6_answerOf_144
    have hE := (if_neg c19_13).symm.trans hE
    by_cases c19_14 : x1 = (14 : Int32)
    · have hE := (if_pos c19_14).symm.trans hE
      refine lv_tableIn (tgt := 145) hx hb dX6_answerOf_19 (by rw [c19_14]; decide) (by rw [c19_14]; decide) (by rw [c19_14]; rfl) (by decide) ?_
      refine lv_iconst (v := (2 : Int32)) hx hb dX6_answerOf_145 (by decide) ?_
      refine lv_aload_n hx hb dX6_answerOf_146 rfl (lv_at hl 1 rfl) ?_
      refine lv_bipush (v := (13 : Int32)) hx hb dX6_answerOf_147 (by decide) ?_
      refine lv_iload_n hx hb dX6_answerOf_149 rfl (lv_at hl 3 rfl) ?_
      refine lv_iload hx hb dX6_answerOf_150 (lv_at hl 0 rfl) ?_
      obtain ⟨q152, hq152, hE⟩ := x_bind hE
      refine i_X6_320_L3 hB hz kdX_0 (c_X6_answerOf_L3 l g  hq152) ⟨(Nat.le_of_ble_eq_true rfl), (Nat.le_of_ble_eq_true rfl)⟩ hl.1 (Nat.le_of_ble_eq_true rfl) dX6_answerOf_152 (fun H locs hz => ?_)
      refine lv_imul hx hb dX6_answerOf_155 ?_
      exact x_iret hB hz hE dX6_answerOf_156
    have hE := (if_neg c19_14).symm.trans hE
    by_cases c19_15 : x1 = (15 : Int32)
    · have hE := (if_pos c19_15).symm.trans hE
      refine lv_tableIn (tgt := 223) hx hb dX6_answerOf_19 (by rw [c19_15]; decide) (by rw [c19_15]; decide) (by rw [c19_15]; rfl) (by decide) ?_
      refine lv_iconst (v := (0 : Int32)) hx hb dX6_answerOf_223 (by decide) ?_
      exact x_iret hB hz hE dX6_answerOf_224
    have hE := (if_neg c19_15).symm.trans hE
    by_cases c19_16 : x1 = (16 : Int32)
    · have hE := (if_pos c19_16).symm.trans hE
      refine lv_tableIn (tgt := 223) hx hb dX6_answerOf_19 (by rw [c19_16]; decide) (by rw [c19_16]; decide) (by rw [c19_16]; rfl) (by decide) ?_
      refine lv_iconst (v := (0 : Int32)) hx hb dX6_answerOf_223 (by decide) ?_
      exact x_iret hB hz hE dX6_answerOf_224
    have hE := (if_neg c19_16).symm.trans hE
    by_cases c19_17 : x1 = (17 : Int32)
    · have hE := (if_pos c19_17).symm.trans hE
      refine lv_tableIn (tgt := 223) hx hb dX6_answerOf_19 (by rw [c19_17]; decide) (by rw [c19_17]; decide) (by rw [c19_17]; rfl) (by decide) ?_
      refine lv_iconst (v := (0 : Int32)) hx hb dX6_answerOf_223 (by decide) ?_
      exact x_iret hB hz hE dX6_answerOf_224
    have hE := (if_neg c19_17).symm.trans hE
    by_cases c19_18 : x1 = (18 : Int32)
    · have hE := (if_pos c19_18).symm.trans hE
      refine lv_tableIn (tgt := 223) hx hb dX6_answerOf_19 (by rw [c19_18]; decide) (by rw [c19_18]; decide) (by rw [c19_18]; rfl) (by decide) ?_
      refine lv_iconst (v := (0 : Int32)) hx hb dX6_answerOf_223 (by decide) ?_
      exact x_iret hB hz hE dX6_answerOf_224
    have hE := (if_neg c19_18).symm.trans hE
    by_cases c19_19 : x1 = (19 : Int32)
    · have hE := (if_pos c19_19).symm.trans hE
      refine lv_tableIn (tgt := 223) hx hb dX6_answerOf_19 (by rw [c19_19]; decide) (by rw [c19_19]; decide) (by rw [c19_19]; rfl) (by decide) ?_
      refine lv_iconst (v := (0 : Int32)) hx hb dX6_answerOf_223 (by decide) ?_
      exact x_iret hB hz hE dX6_answerOf_224
    have hE := (if_neg c19_19).symm.trans hE
    by_cases c19_20 : x1 = (20 : Int32)
    · have hE := (if_pos c19_20).symm.trans hE
      refine lv_tableIn (tgt := 157) hx hb dX6_answerOf_19 (by rw [c19_20]; decide) (by rw [c19_20]; decide) (by rw [c19_20]; rfl) (by decide) ?_
      refine lv_iload_n hx hb dX6_answerOf_157 rfl (lv_at hl 3 rfl) ?_
      exact x_iret hB hz hE dX6_answerOf_158
    have hE := (if_neg c19_20).symm.trans hE
    by_cases c19_21 : x1 = (21 : Int32)
    · have hE := (if_pos c19_21).symm.trans hE
      refine lv_tableIn (tgt := 159) hx hb dX6_answerOf_19 (by rw [c19_21]; decide) (by rw [c19_21]; decide) (by rw [c19_21]; rfl) (by decide) ?_
      refine lv_aload_n hx hb dX6_answerOf_159 rfl (lv_at hl 1 rfl) ?_
      refine lv_bipush (v := (20 : Int32)) hx hb dX6_answerOf_160 (by decide) ?_
      refine lv_iload_n hx hb dX6_answerOf_162 rfl (lv_at hl 3 rfl) ?_
      refine lv_iload hx hb dX6_answerOf_163 (lv_at hl 0 rfl) ?_
      obtain ⟨q165, hq165, hE⟩ := x_bind hE
      refine i_X6_320_L3 hB hz kdX_0 (c_X6_answerOf_L3 l g  hq165) ⟨(Nat.le_of_ble_eq_true rfl), (Nat.le_of_ble_eq_true rfl)⟩ hl.1 (Nat.le_of_ble_eq_true rfl) dX6_answerOf_165 (fun H locs hz => ?_)
      refine lv_aload_n hx hb dX6_answerOf_168 rfl (lv_at hl 1 rfl) ?_
      refine g_X6_25 hB hz kdX_0 dX6_answerOf_169 ?_
      refine lv_iload_n hx hb dX6_answerOf_172 rfl (lv_at hl 3 rfl) ?_
      obtain ⟨q173, hq173, hE⟩ := x_bind hE
      refine i_X6_245 hB hz kdX_4 (c_X3_ownCount l g kdX_4 hq173) ⟨(Nat.le_of_ble_eq_true rfl), (Nat.le_of_ble_eq_true rfl)⟩ hl.1 (Nat.le_of_ble_eq_true rfl) dX6_answerOf_173 (fun H locs hz => ?_)
      refine lv_iadd hx hb dX6_answerOf_176 ?_
      exact x_iret hB hz hE dX6_answerOf_177
    have hE := (if_neg c19_21).symm.trans hE
    by_cases c19_22 : x1 = (22 : Int32)
    · have hE := (if_pos c19_22).symm.trans hE
      refine lv_tableIn (tgt := 178) hx hb dX6_answerOf_19 (by rw [c19_22]; decide) (by rw [c19_22]; decide) (by rw [c19_22]; rfl) (by decide) ?_
      refine lv_aload_n hx hb dX6_answerOf_178 rfl (lv_at hl 1 rfl) ?_
      refine lv_bipush (v := (21 : Int32)) hx hb dX6_answerOf_179 (by decide) ?_
      refine lv_iload_n hx hb dX6_answerOf_181 rfl (lv_at hl 3 rfl) ?_
      refine lv_iload hx hb dX6_answerOf_182 (lv_at hl 0 rfl) ?_
      obtain ⟨q184, hq184, hE⟩ := x_bind hE
      refine i_X6_320_L3 hB hz kdX_0 (c_X6_answerOf_L3 l g  hq184) ⟨(Nat.le_of_ble_eq_true rfl), (Nat.le_of_ble_eq_true rfl)⟩ hl.1 (Nat.le_of_ble_eq_true rfl) dX6_answerOf_184 (fun H locs hz => ?_)
      refine lv_sipush (v := (1000 : Int32)) hx hb dX6_answerOf_187 (by decide) ?_
      refine lv_isub hx hb dX6_answerOf_190 ?_
      exact x_iret hB hz hE dX6_answerOf_191
    have hE := (if_neg c19_22).symm.trans hE
    by_cases c19_23 : x1 = (23 : Int32)
    · have hE := (if_pos c19_23).symm.trans hE
      refine lv_tableIn (tgt := 192) hx hb dX6_answerOf_19 (by rw [c19_23]; decide) (by rw [c19_23]; decide) (by rw [c19_23]; rfl) (by decide) ?_
      refine lv_aload_n hx hb dX6_answerOf_192 rfl (lv_at hl 1 rfl) ?_
      refine lv_bipush (v := (20 : Int32)) hx hb dX6_answerOf_193 (by decide) ?_
      refine lv_iload_n hx hb dX6_answerOf_195 rfl (lv_at hl 3 rfl) ?_
      refine lv_iload hx hb dX6_answerOf_196 (lv_at hl 0 rfl) ?_
      obtain ⟨q198, hq198, hE⟩ := x_bind hE
      refine i_X6_320_L3 hB hz kdX_0 (c_X6_answerOf_L3 l g  hq198) ⟨(Nat.le_of_ble_eq_true rfl), (Nat.le_of_ble_eq_true rfl)⟩ hl.1 (Nat.le_of_ble_eq_true rfl) dX6_answerOf_198 (fun H locs hz => ?_)
      refine lv_aload_n hx hb dX6_answerOf_201 rfl (lv_at hl 1 rfl) ?_
      refine lv_iconst (v := (0 : Int32)) hx hb dX6_answerOf_202 (by decide) ?_
      refine lv_iload_n hx hb dX6_answerOf_203 rfl (lv_at hl 3 rfl) ?_
      refine lv_iload hx hb dX6_answerOf_204 (lv_at hl 0 rfl) ?_
      obtain ⟨q206, hq206, hE⟩ := x_bind hE
      refine i_X6_295_L3 hB hz kdX_0 (c_X6_answerTo_L3 l g  hq206) ⟨(Nat.le_of_ble_eq_true rfl), (Nat.le_of_ble_eq_true rfl)⟩ hl.1 (Nat.le_of_ble_eq_true rfl) dX6_answerOf_206 (fun H locs hz => ?_)
      refine lv_isub hx hb dX6_answerOf_209 ?_
      exact x_iret hB hz hE dX6_answerOf_210
    have hE := (if_neg c19_23).symm.trans hE
    by_cases c19_24 : x1 = (24 : Int32)
    · have hE := (if_pos c19_24).symm.trans hE
      refine lv_tableIn (tgt := 211) hx hb dX6_answerOf_19 (by rw [c19_24]; decide) (by rw [c19_24]; decide) (by rw [c19_24]; rfl) (by decide) ?_
      refine lv_iconst (v := (2 : Int32)) hx hb dX6_answerOf_211 (by decide) ?_
      refine lv_aload_n hx hb dX6_answerOf_212 rfl (lv_at hl 1 rfl) ?_
      refine lv_bipush (v := (21 : Int32)) hx hb dX6_answerOf_213 (by decide) ?_
      refine lv_iload_n hx hb dX6_answerOf_215 rfl (lv_at hl 3 rfl) ?_
      refine lv_iload hx hb dX6_answerOf_216 (lv_at hl 0 rfl) ?_
      obtain ⟨q218, hq218, hE⟩ := x_bind hE
      refine i_X6_320_L3 hB hz kdX_0 (c_X6_answerOf_L3 l g  hq218) ⟨(Nat.le_of_ble_eq_true rfl), (Nat.le_of_ble_eq_true rfl)⟩ hl.1 (Nat.le_of_ble_eq_true rfl) dX6_answerOf_218 (fun H locs hz => ?_)
      refine lv_imul hx hb dX6_answerOf_221 ?_
      exact x_iret hB hz hE dX6_answerOf_222
    have hE := (if_neg c19_24).symm.trans hE
    have nc19_10 := x_nei c19_10 (k := 10) (by decide)
    have nc19_11 := x_nei c19_11 (k := 11) (by decide)
    have nc19_12 := x_nei c19_12 (k := 12) (by decide)
    have nc19_13 := x_nei c19_13 (k := 13) (by decide)
    have nc19_14 := x_nei c19_14 (k := 14) (by decide)
    have nc19_15 := x_nei c19_15 (k := 15) (by decide)
    have nc19_16 := x_nei c19_16 (k := 16) (by decide)
    have nc19_17 := x_nei c19_17 (k := 17) (by decide)
    have nc19_18 := x_nei c19_18 (k := 18) (by decide)
    have nc19_19 := x_nei c19_19 (k := 19) (by decide)
    have nc19_20 := x_nei c19_20 (k := 20) (by decide)
    have nc19_21 := x_nei c19_21 (k := 21) (by decide)
    have nc19_22 := x_nei c19_22 (k := 22) (by decide)
    have nc19_23 := x_nei c19_23 (k := 23) (by decide)
    have nc19_24 := x_nei c19_24 (k := 24) (by decide)
    refine lv_tableOut (tgt := 223) hx hb dX6_answerOf_19 (by omega) (by decide) ?_
    refine lv_iconst (v := (0 : Int32)) hx hb dX6_answerOf_223 (by decide) ?_
    exact x_iret hB hz hE dX6_answerOf_224
  · have hE := (if_neg c3).symm.trans hE
    refine lv_iconst (v := (0 : Int32)) hx hb dX6_answerOf_6 (by decide) ?_
    exact x_iret hB hz hE dX6_answerOf_7
theorem c_X6_answerOf_L4 (l : Launch) (g : GP) {x1 : Int32} {x2 : Int32} {x3 : Int32} {V : Mem} {o : Int32 × Mem} (hE : f_X6_answerOf_L4 x1 x2 x3 V = some o) : CT l g LX yX6_answerOf cX6_answerOf 5 (some .int) rm_X6_answerOf_L4 [.ref (ad g 0), .int x1, .int x2, .int x3] V (some (.int o.1)) o.2 := by
  refine ct_of (by decide) (Nat.le_of_ble_eq_true rfl) ?_
  intro p e s m args below meth c ls hB hz hl
  exact w_X6_answerOf_L4 hB _ _ _ _ _ _ _  hE hz hl
def rm_X6_answerTo_L4 : Room := { frames := 11, cells := 0, slots := 0, locals := 341 }
theorem i_X6_320_L4 {p : Program} {l : Launch} {e : Env} {R : Room} {s : State} {m : MethodId} {args : Array Value} {below : List Frame} {meth : Method} {c : Code} {H : Heap} {locs : List Loc} {Q : State → Prop} {cc : ByteArray} {pc : Nat} {ls : Array Slot} {rest : List Value} {g : GP} {V : Mem} {nL : Nat} {ret : Option FieldType} (hB : BX p s m args meth c g LX cc nL RX6 ret) (hz : OK g LX V s H locs) {i : Nat} (hk : KD LX i 5) {a0 : Int32} {a1 : Int32} {a2 : Int32} {r : Int32} {V1 : Mem} (hM : CT l g LX yX6_answerOf cX6_answerOf 5 (some .int) rm_X6_answerOf_L4 [.ref (ad g i), .int a0, .int a1, .int a2] V (some (.int r)) V1) (hR : rm_X6_answerOf_L4.frames + 1 ≤ R.frames ∧ 8 + (5 + 11) + rm_X6_answerOf_L4.locals ≤ R.locals) (hsz : ls.size = nL) (hrest : (rest.map fun v => v.category).sum ≤ 8) (hdg : decode cc pc = .ok (.invokevirtual 320, 3)) (kk : ∀ (H1 : Heap) (locs1 : List Loc), OK g LX V1 s H1 locs1 → W p l e R s m args below meth c H1 locs1 0 0 Q (F0 m (pc + 3) ls (.int r :: rest))) : W p l e R s m args below meth c H locs 0 0 Q (F0 m pc ls (.int a2 :: .int a1 :: .int a0 :: .ref (ad g i) :: rest)) :=
  x_cv (As := [.int a0, .int a1, .int a2]) (n := 3) (T := TX6) (N := 14) hB hz hM hk rfl rfl rfl rfl kw_695 kw_62 kw_692 kw_694 kw_20 (by decide +kernel) rfl hR hsz hrest hdg kk
set_option maxHeartbeats 4000000 in
set_option maxRecDepth 100000 in
theorem w_X6_answerTo_L4_63_t3 {p : Program} {l : Launch} {e : Env} {s : State} {m : MethodId} {args : Array Value} {below : List Frame} {meth : Method} {c : Code} {g : GP} (hB : BX p s m args meth c g LX cX6_answerTo 7 RX6 (some .int)) {o : Int32 × Mem} : ∀ (x2 : Int32) (x3 : Int32) (x5 : Int32) (V : Mem) (H : Heap) (locs : List Loc) (ls : Array Slot), f_X6_answerTo_L4_63_t3 x2 x3 x5 V = some o → OK g LX V s H locs → lv_has ls 7 [(0, .ref (ad g 0)), (2, .int x2), (3, .int x3), (4, .ref (sa g 3)), (5, .int x5)] → W p l e rm_X6_answerTo_L4 s m args below meth c H locs 0 0 (MQ below (QQ g LX (some (.int o.1)) o.2) args s 0 0 (Ar g LX)) (F0 m 63 ls []) := by
  obtain ⟨hx, hb, hml, hown, hT, hr, hlk, hK, hJ, hZ, hN⟩ := id hB
  intro x2 x3 x5 V H locs ls hE hz hl
  unfold f_X6_answerTo_L4_63_t3 at hE
  refine lv_aload_n hx hb dX6_answerTo_63 rfl (lv_at hl 0 rfl) ?_
  refine lv_aload hx hb dX6_answerTo_64 (lv_at hl 3 rfl) ?_
  refine lv_iload hx hb dX6_answerTo_66 (lv_at hl 4 rfl) ?_
  obtain ⟨hi68, hE⟩ := x_chk hE
  refine x_sti (k := 3) (by decide) rfl hB hz hi68 dX6_answerTo_68 ?_
  refine lv_iload_n hx hb dX6_answerTo_69 rfl (lv_at hl 1 rfl) ?_
  refine lv_iload_n hx hb dX6_answerTo_70 rfl (lv_at hl 2 rfl) ?_
  refine lv_iconst (v := (1 : Int32)) hx hb dX6_answerTo_71 (by decide) ?_
  refine lv_iadd hx hb dX6_answerTo_72 ?_
  obtain ⟨q73, hq73, hE⟩ := x_bind hE
  refine i_X6_320_L4 hB hz kdX_0 (c_X6_answerOf_L4 l g  hq73) ⟨(Nat.le_of_ble_eq_true rfl), (Nat.le_of_ble_eq_true rfl)⟩ hl.1 (Nat.le_of_ble_eq_true rfl) dX6_answerTo_73 (fun H locs hz => ?_)
  exact x_iret hB hz hE dX6_answerTo_76

set_option maxHeartbeats 4000000 in
set_option maxRecDepth 100000 in
theorem w_X6_answerTo_L4_29_t3 {p : Program} {l : Launch} {e : Env} {s : State} {m : MethodId} {args : Array Value} {below : List Frame} {meth : Method} {c : Code} {g : GP} (hB : BX p s m args meth c g LX cX6_answerTo 7 RX6 (some .int)) {o : Int32 × Mem} : ∀ (n : Nat), ∀ (x2 : Int32) (x3 : Int32) (x5 : Int32) (x6 : Int32) (V : Mem) (H : Heap) (locs : List Loc) (ls : Array Slot), f_X6_answerTo_L4_29_t3 n x2 x3 x5 x6 V = some o → OK g LX V s H locs → lv_has ls 7 [(0, .ref (ad g 0)), (2, .int x2), (3, .int x3), (4, .ref (sa g 3)), (5, .int x5), (6, .int x6)] → W p l e rm_X6_answerTo_L4 s m args below meth c H locs 0 0 (MQ below (QQ g LX (some (.int o.1)) o.2) args s 0 0 (Ar g LX)) (F0 m 29 ls []) := by
  obtain ⟨hx, hb, hml, hown, hT, hr, hlk, hK, hJ, hZ, hN⟩ := id hB
  intro n
  induction n with
  | zero =>
    intro x2 x3 x5 x6 V H locs ls hE hz hl
    exact absurd (show (none : Option (Int32 × Mem)) = some o from hE) (by simp)
  | succ n ih =>
    intro x2 x3 x5 x6 V H locs ls hE hz hl
    unfold f_X6_answerTo_L4_29_t3 at hE
    refine lv_iload hx hb dX6_answerTo_29 (lv_at hl 5 rfl) ?_
    refine lv_bipush (v := (6 : Int32)) hx hb dX6_answerTo_31 (by decide) ?_
    refine lv_icmp_ge (tgt := 63) hx hb dX6_answerTo_33 (by decide) (fun c33 => ?_) (fun c33 => ?_)
    · have hE := (if_pos c33).symm.trans hE
      exact w_X6_answerTo_L4_63_t3 hB  _ _ _ _ _ _ _  hE hz (lv_sub hl [0, 1, 2, 3, 4] rfl)
    · have hE := (if_neg c33).symm.trans hE
      refine lv_iload hx hb dX6_answerTo_36 (lv_at hl 4 rfl) ?_
      refine lv_if_eq (tgt := 63) hx hb dX6_answerTo_38 (by decide) (fun c38 => ?_) (fun c38 => ?_)
      · have hE := (if_pos c38).symm.trans hE
        exact w_X6_answerTo_L4_63_t3 hB  _ _ _ _ _ _ _  hE hz (lv_sub hl [0, 1, 2, 3, 4] rfl)
      · have hE := (if_neg c38).symm.trans hE
        refine lv_aload hx hb dX6_answerTo_41 (lv_at hl 3 rfl) ?_
        refine lv_iload hx hb dX6_answerTo_43 (lv_at hl 4 rfl) ?_
        obtain ⟨hi45, hE⟩ := x_chk hE
        refine x_sti (k := 3) (by decide) rfl hB hz hi45 dX6_answerTo_45 ?_
        refine lv_if_ne (tgt := 63) hx hb dX6_answerTo_46 (by decide) (fun c46 => ?_) (fun c46 => ?_)
        · have hE := (if_neg c46).symm.trans hE
          exact w_X6_answerTo_L4_63_t3 hB  _ _ _ _ _ _ _  hE hz (lv_sub hl [0, 1, 2, 3, 4] rfl)
        · have hE := (if_pos c46).symm.trans hE
          refine x_gst (k := 0) (by decide) hB hz kw_678 dX6_answerTo_49 ?_
          refine lv_iload hx hb dX6_answerTo_52 (lv_at hl 4 rfl) ?_
          obtain ⟨hi54, hE⟩ := x_chk hE
          refine x_sti (k := 0) (by decide) rfl hB hz hi54 dX6_answerTo_54 ?_
          refine lv_istore (lv' := [(5, .int (tba 0 (x5).toNatClampNeg)), (0, .ref (ad g 0)), (2, .int x2), (3, .int x3), (4, .ref (sa g 3)), (6, .int x6)]) hx hb dX6_answerTo_55 hl (by decide) rfl (fun ls hl => ?_)
          refine lv_iinc (v := (x6 + 1)) (lv' := [(6, .int (x6 + 1)), (5, .int (tba 0 (x5).toNatClampNeg)), (0, .ref (ad g 0)), (2, .int x2), (3, .int x3), (4, .ref (sa g 3))]) hx hb dX6_answerTo_57 hl (k := 5) rfl rfl (by decide) rfl (fun ls hl => ?_)
          refine lv_goto (tgt := 29) hx hb dX6_answerTo_60 (by decide) ?_
          exact ih _ _ _ _ _ _ _ _  hE hz (lv_sub hl [2, 3, 4, 5, 1, 0] rfl)

set_option maxHeartbeats 4000000 in
set_option maxRecDepth 100000 in
theorem w_X6_answerTo_L4_13_u3 {p : Program} {l : Launch} {e : Env} {s : State} {m : MethodId} {args : Array Value} {below : List Frame} {meth : Method} {c : Code} {g : GP} (hB : BX p s m args meth c g LX cX6_answerTo 7 RX6 (some .int)) {o : Int32 × Mem} : ∀ (x2 : Int32) (x3 : Int32) (V : Mem) (H : Heap) (locs : List Loc) (ls : Array Slot), f_X6_answerTo_L4_13_u3 x2 x3 V = some o → OK g LX V s H locs → lv_has ls 7 [(0, .ref (ad g 0)), (2, .int x2), (3, .int x3)] → W p l e rm_X6_answerTo_L4 s m args below meth c H locs 0 0 (MQ below (QQ g LX (some (.int o.1)) o.2) args s 0 0 (Ar g LX)) (F0 m 13 ls [.ref (sa g 3)]) := by
  obtain ⟨hx, hb, hml, hown, hT, hr, hlk, hK, hJ, hZ, hN⟩ := id hB
  intro x2 x3 V H locs ls hE hz hl
  unfold f_X6_answerTo_L4_13_u3 at hE
  refine lv_astore (lv' := [(4, .ref (sa g 3)), (0, .ref (ad g 0)), (2, .int x2), (3, .int x3)]) hx hb dX6_answerTo_13 hl (by decide) rfl (fun ls hl => ?_)
  refine lv_aload_n hx hb dX6_answerTo_15 rfl (lv_at hl 1 rfl) ?_
  refine g_X6_25 hB hz kdX_0 dX6_answerTo_16 ?_
  refine g_X6_183 hB hz kdX_4 dX6_answerTo_19 ?_
  refine lv_iload_n hx hb dX6_answerTo_22 rfl (lv_at hl 2 rfl) ?_
  obtain ⟨hi23, hE⟩ := x_chk hE
  refine x_iald (n := 24) hB hz kdX_6 hi23 dX6_answerTo_23 ?_
  refine lv_istore (lv' := [(5, .int (V 6 (x2).toNatClampNeg)), (4, .ref (sa g 3)), (0, .ref (ad g 0)), (2, .int x2), (3, .int x3)]) hx hb dX6_answerTo_24 hl (by decide) rfl (fun ls hl => ?_)
  refine lv_iconst (v := (0 : Int32)) hx hb dX6_answerTo_26 (by decide) ?_
  refine lv_istore (lv' := [(6, .int (0 : Int32)), (5, .int (V 6 (x2).toNatClampNeg)), (4, .ref (sa g 3)), (0, .ref (ad g 0)), (2, .int x2), (3, .int x3)]) hx hb dX6_answerTo_27 hl (by decide) rfl (fun ls hl => ?_)
  exact w_X6_answerTo_L4_29_t3 hB  _ _ _ _ _ _ _ _ _  hE hz (lv_sub hl [3, 4, 5, 2, 1, 0] rfl)

set_option maxHeartbeats 4000000 in
set_option maxRecDepth 100000 in
theorem w_X6_answerTo_L4_63_t2 {p : Program} {l : Launch} {e : Env} {s : State} {m : MethodId} {args : Array Value} {below : List Frame} {meth : Method} {c : Code} {g : GP} (hB : BX p s m args meth c g LX cX6_answerTo 7 RX6 (some .int)) {o : Int32 × Mem} : ∀ (x2 : Int32) (x3 : Int32) (x5 : Int32) (V : Mem) (H : Heap) (locs : List Loc) (ls : Array Slot), f_X6_answerTo_L4_63_t2 x2 x3 x5 V = some o → OK g LX V s H locs → lv_has ls 7 [(0, .ref (ad g 0)), (2, .int x2), (3, .int x3), (4, .ref (sa g 2)), (5, .int x5)] → W p l e rm_X6_answerTo_L4 s m args below meth c H locs 0 0 (MQ below (QQ g LX (some (.int o.1)) o.2) args s 0 0 (Ar g LX)) (F0 m 63 ls []) := by
  obtain ⟨hx, hb, hml, hown, hT, hr, hlk, hK, hJ, hZ, hN⟩ := id hB
  intro x2 x3 x5 V H locs ls hE hz hl
  unfold f_X6_answerTo_L4_63_t2 at hE
  refine lv_aload_n hx hb dX6_answerTo_63 rfl (lv_at hl 0 rfl) ?_
  refine lv_aload hx hb dX6_answerTo_64 (lv_at hl 3 rfl) ?_
  refine lv_iload hx hb dX6_answerTo_66 (lv_at hl 4 rfl) ?_
  obtain ⟨hi68, hE⟩ := x_chk hE
  refine x_sti (k := 2) (by decide) rfl hB hz hi68 dX6_answerTo_68 ?_
  refine lv_iload_n hx hb dX6_answerTo_69 rfl (lv_at hl 1 rfl) ?_
  refine lv_iload_n hx hb dX6_answerTo_70 rfl (lv_at hl 2 rfl) ?_
  refine lv_iconst (v := (1 : Int32)) hx hb dX6_answerTo_71 (by decide) ?_
  refine lv_iadd hx hb dX6_answerTo_72 ?_
  obtain ⟨q73, hq73, hE⟩ := x_bind hE
  refine i_X6_320_L4 hB hz kdX_0 (c_X6_answerOf_L4 l g  hq73) ⟨(Nat.le_of_ble_eq_true rfl), (Nat.le_of_ble_eq_true rfl)⟩ hl.1 (Nat.le_of_ble_eq_true rfl) dX6_answerTo_73 (fun H locs hz => ?_)
  exact x_iret hB hz hE dX6_answerTo_76

set_option maxHeartbeats 4000000 in
set_option maxRecDepth 100000 in
theorem w_X6_answerTo_L4_29_t2 {p : Program} {l : Launch} {e : Env} {s : State} {m : MethodId} {args : Array Value} {below : List Frame} {meth : Method} {c : Code} {g : GP} (hB : BX p s m args meth c g LX cX6_answerTo 7 RX6 (some .int)) {o : Int32 × Mem} : ∀ (n : Nat), ∀ (x2 : Int32) (x3 : Int32) (x5 : Int32) (x6 : Int32) (V : Mem) (H : Heap) (locs : List Loc) (ls : Array Slot), f_X6_answerTo_L4_29_t2 n x2 x3 x5 x6 V = some o → OK g LX V s H locs → lv_has ls 7 [(0, .ref (ad g 0)), (2, .int x2), (3, .int x3), (4, .ref (sa g 2)), (5, .int x5), (6, .int x6)] → W p l e rm_X6_answerTo_L4 s m args below meth c H locs 0 0 (MQ below (QQ g LX (some (.int o.1)) o.2) args s 0 0 (Ar g LX)) (F0 m 29 ls []) := by
  obtain ⟨hx, hb, hml, hown, hT, hr, hlk, hK, hJ, hZ, hN⟩ := id hB
  intro n
  induction n with
  | zero =>
    intro x2 x3 x5 x6 V H locs ls hE hz hl
    exact absurd (show (none : Option (Int32 × Mem)) = some o from hE) (by simp)
  | succ n ih =>
    intro x2 x3 x5 x6 V H locs ls hE hz hl
    unfold f_X6_answerTo_L4_29_t2 at hE
    refine lv_iload hx hb dX6_answerTo_29 (lv_at hl 5 rfl) ?_
    refine lv_bipush (v := (6 : Int32)) hx hb dX6_answerTo_31 (by decide) ?_
    refine lv_icmp_ge (tgt := 63) hx hb dX6_answerTo_33 (by decide) (fun c33 => ?_) (fun c33 => ?_)
    · have hE := (if_pos c33).symm.trans hE
      exact w_X6_answerTo_L4_63_t2 hB  _ _ _ _ _ _ _  hE hz (lv_sub hl [0, 1, 2, 3, 4] rfl)
    · have hE := (if_neg c33).symm.trans hE
      refine lv_iload hx hb dX6_answerTo_36 (lv_at hl 4 rfl) ?_
      refine lv_if_eq (tgt := 63) hx hb dX6_answerTo_38 (by decide) (fun c38 => ?_) (fun c38 => ?_)
      · have hE := (if_pos c38).symm.trans hE
        exact w_X6_answerTo_L4_63_t2 hB  _ _ _ _ _ _ _  hE hz (lv_sub hl [0, 1, 2, 3, 4] rfl)
      · have hE := (if_neg c38).symm.trans hE
        refine lv_aload hx hb dX6_answerTo_41 (lv_at hl 3 rfl) ?_
        refine lv_iload hx hb dX6_answerTo_43 (lv_at hl 4 rfl) ?_
        obtain ⟨hi45, hE⟩ := x_chk hE
        refine x_sti (k := 2) (by decide) rfl hB hz hi45 dX6_answerTo_45 ?_
        refine lv_if_ne (tgt := 63) hx hb dX6_answerTo_46 (by decide) (fun c46 => ?_) (fun c46 => ?_)
        · have hE := (if_neg c46).symm.trans hE
          exact w_X6_answerTo_L4_63_t2 hB  _ _ _ _ _ _ _  hE hz (lv_sub hl [0, 1, 2, 3, 4] rfl)
        · have hE := (if_pos c46).symm.trans hE
          refine x_gst (k := 0) (by decide) hB hz kw_678 dX6_answerTo_49 ?_
          refine lv_iload hx hb dX6_answerTo_52 (lv_at hl 4 rfl) ?_
          obtain ⟨hi54, hE⟩ := x_chk hE
          refine x_sti (k := 0) (by decide) rfl hB hz hi54 dX6_answerTo_54 ?_
          refine lv_istore (lv' := [(5, .int (tba 0 (x5).toNatClampNeg)), (0, .ref (ad g 0)), (2, .int x2), (3, .int x3), (4, .ref (sa g 2)), (6, .int x6)]) hx hb dX6_answerTo_55 hl (by decide) rfl (fun ls hl => ?_)
          refine lv_iinc (v := (x6 + 1)) (lv' := [(6, .int (x6 + 1)), (5, .int (tba 0 (x5).toNatClampNeg)), (0, .ref (ad g 0)), (2, .int x2), (3, .int x3), (4, .ref (sa g 2))]) hx hb dX6_answerTo_57 hl (k := 5) rfl rfl (by decide) rfl (fun ls hl => ?_)
          refine lv_goto (tgt := 29) hx hb dX6_answerTo_60 (by decide) ?_
          exact ih _ _ _ _ _ _ _ _  hE hz (lv_sub hl [2, 3, 4, 5, 1, 0] rfl)

set_option maxHeartbeats 4000000 in
set_option maxRecDepth 100000 in
theorem w_X6_answerTo_L4_13_u2 {p : Program} {l : Launch} {e : Env} {s : State} {m : MethodId} {args : Array Value} {below : List Frame} {meth : Method} {c : Code} {g : GP} (hB : BX p s m args meth c g LX cX6_answerTo 7 RX6 (some .int)) {o : Int32 × Mem} : ∀ (x2 : Int32) (x3 : Int32) (V : Mem) (H : Heap) (locs : List Loc) (ls : Array Slot), f_X6_answerTo_L4_13_u2 x2 x3 V = some o → OK g LX V s H locs → lv_has ls 7 [(0, .ref (ad g 0)), (2, .int x2), (3, .int x3)] → W p l e rm_X6_answerTo_L4 s m args below meth c H locs 0 0 (MQ below (QQ g LX (some (.int o.1)) o.2) args s 0 0 (Ar g LX)) (F0 m 13 ls [.ref (sa g 2)]) := by
  obtain ⟨hx, hb, hml, hown, hT, hr, hlk, hK, hJ, hZ, hN⟩ := id hB
  intro x2 x3 V H locs ls hE hz hl
  unfold f_X6_answerTo_L4_13_u2 at hE
  refine lv_astore (lv' := [(4, .ref (sa g 2)), (0, .ref (ad g 0)), (2, .int x2), (3, .int x3)]) hx hb dX6_answerTo_13 hl (by decide) rfl (fun ls hl => ?_)
  refine lv_aload_n hx hb dX6_answerTo_15 rfl (lv_at hl 1 rfl) ?_
  refine g_X6_25 hB hz kdX_0 dX6_answerTo_16 ?_
  refine g_X6_183 hB hz kdX_4 dX6_answerTo_19 ?_
  refine lv_iload_n hx hb dX6_answerTo_22 rfl (lv_at hl 2 rfl) ?_
  obtain ⟨hi23, hE⟩ := x_chk hE
  refine x_iald (n := 24) hB hz kdX_6 hi23 dX6_answerTo_23 ?_
  refine lv_istore (lv' := [(5, .int (V 6 (x2).toNatClampNeg)), (4, .ref (sa g 2)), (0, .ref (ad g 0)), (2, .int x2), (3, .int x3)]) hx hb dX6_answerTo_24 hl (by decide) rfl (fun ls hl => ?_)
  refine lv_iconst (v := (0 : Int32)) hx hb dX6_answerTo_26 (by decide) ?_
  refine lv_istore (lv' := [(6, .int (0 : Int32)), (5, .int (V 6 (x2).toNatClampNeg)), (4, .ref (sa g 2)), (0, .ref (ad g 0)), (2, .int x2), (3, .int x3)]) hx hb dX6_answerTo_27 hl (by decide) rfl (fun ls hl => ?_)
  exact w_X6_answerTo_L4_29_t2 hB  _ _ _ _ _ _ _ _ _  hE hz (lv_sub hl [3, 4, 5, 2, 1, 0] rfl)

set_option maxHeartbeats 4000000 in
set_option maxRecDepth 100000 in
theorem w_X6_answerTo_L4 {p : Program} {l : Launch} {e : Env} {s : State} {m : MethodId} {args : Array Value} {below : List Frame} {meth : Method} {c : Code} {g : GP} (hB : BX p s m args meth c g LX cX6_answerTo 7 RX6 (some .int)) {o : Int32 × Mem} : ∀ (x1 : Int32) (x2 : Int32) (x3 : Int32) (V : Mem) (H : Heap) (locs : List Loc) (ls : Array Slot), f_X6_answerTo_L4 x1 x2 x3 V = some o → OK g LX V s H locs → lv_has ls 7 [(0, .ref (ad g 0)), (1, .int x1), (2, .int x2), (3, .int x3)] → W p l e rm_X6_answerTo_L4 s m args below meth c H locs 0 0 (MQ below (QQ g LX (some (.int o.1)) o.2) args s 0 0 (Ar g LX)) (F0 m 0 ls []) := by
  obtain ⟨hx, hb, hml, hown, hT, hr, hlk, hK, hJ, hZ, hN⟩ := id hB
  intro x1 x2 x3 V H locs ls hE hz hl
  unfold f_X6_answerTo_L4 at hE
  refine lv_iload_n hx hb dX6_answerTo_0 rfl (lv_at hl 1 rfl) ?_
  refine lv_if_ne (tgt := 10) hx hb dX6_answerTo_1 (by decide) (fun c1 => ?_) (fun c1 => ?_)
  · have hE := (if_neg c1).symm.trans hE
    refine x_gst (k := 3) (by decide) hB hz kw_690 dX6_answerTo_10 ?_
    exact w_X6_answerTo_L4_13_u3 hB  _ _ _ _ _ _  hE hz (lv_sub hl [0, 2, 3] rfl)
  · have hE := (if_pos c1).symm.trans hE
    refine x_gst (k := 2) (by decide) hB hz kw_688 dX6_answerTo_4 ?_
    refine lv_goto (tgt := 13) hx hb dX6_answerTo_7 (by decide) ?_
    exact w_X6_answerTo_L4_13_u2 hB  _ _ _ _ _ _  hE hz (lv_sub hl [0, 2, 3] rfl)
theorem c_X6_answerTo_L4 (l : Launch) (g : GP) {x1 : Int32} {x2 : Int32} {x3 : Int32} {V : Mem} {o : Int32 × Mem} (hE : f_X6_answerTo_L4 x1 x2 x3 V = some o) : CT l g LX yX6_answerTo cX6_answerTo 7 (some .int) rm_X6_answerTo_L4 [.ref (ad g 0), .int x1, .int x2, .int x3] V (some (.int o.1)) o.2 := by
  refine ct_of (by decide) (Nat.le_of_ble_eq_true rfl) ?_
  intro p e s m args below meth c ls hB hz hl
  exact w_X6_answerTo_L4 hB _ _ _ _ _ _ _  hE hz hl
def rm_X6_answerOf_L5 : Room := { frames := 12, cells := 0, slots := 0, locals := 367 }
theorem i_X6_295_L4 {p : Program} {l : Launch} {e : Env} {R : Room} {s : State} {m : MethodId} {args : Array Value} {below : List Frame} {meth : Method} {c : Code} {H : Heap} {locs : List Loc} {Q : State → Prop} {cc : ByteArray} {pc : Nat} {ls : Array Slot} {rest : List Value} {g : GP} {V : Mem} {nL : Nat} {ret : Option FieldType} (hB : BX p s m args meth c g LX cc nL RX6 ret) (hz : OK g LX V s H locs) {i : Nat} (hk : KD LX i 5) {a0 : Int32} {a1 : Int32} {a2 : Int32} {r : Int32} {V1 : Mem} (hM : CT l g LX yX6_answerTo cX6_answerTo 7 (some .int) rm_X6_answerTo_L4 [.ref (ad g i), .int a0, .int a1, .int a2] V (some (.int r)) V1) (hR : rm_X6_answerTo_L4.frames + 1 ≤ R.frames ∧ 8 + (7 + 11) + rm_X6_answerTo_L4.locals ≤ R.locals) (hsz : ls.size = nL) (hrest : (rest.map fun v => v.category).sum ≤ 8) (hdg : decode cc pc = .ok (.invokevirtual 295, 3)) (kk : ∀ (H1 : Heap) (locs1 : List Loc), OK g LX V1 s H1 locs1 → W p l e R s m args below meth c H1 locs1 0 0 Q (F0 m (pc + 3) ls (.int r :: rest))) : W p l e R s m args below meth c H locs 0 0 Q (F0 m pc ls (.int a2 :: .int a1 :: .int a0 :: .ref (ad g i) :: rest)) :=
  x_cv (As := [.int a0, .int a1, .int a2]) (n := 3) (T := TX6) (N := 14) hB hz hM hk rfl rfl rfl rfl kw_687 kw_62 kw_684 kw_686 kw_19 (by decide +kernel) rfl hR hsz hrest hdg kk
set_option maxHeartbeats 4000000 in
set_option maxRecDepth 100000 in
theorem w_X6_answerOf_L5 {p : Program} {l : Launch} {e : Env} {s : State} {m : MethodId} {args : Array Value} {below : List Frame} {meth : Method} {c : Code} {g : GP} (hB : BX p s m args meth c g LX cX6_answerOf 5 RX6 (some .int)) {o : Int32 × Mem} : ∀ (x1 : Int32) (x2 : Int32) (x3 : Int32) (V : Mem) (H : Heap) (locs : List Loc) (ls : Array Slot), f_X6_answerOf_L5 x1 x2 x3 V = some o → OK g LX V s H locs → lv_has ls 5 [(0, .ref (ad g 0)), (1, .int x1), (2, .int x2), (3, .int x3)] → W p l e rm_X6_answerOf_L5 s m args below meth c H locs 0 0 (MQ below (QQ g LX (some (.int o.1)) o.2) args s 0 0 (Ar g LX)) (F0 m 0 ls []) := by
  obtain ⟨hx, hb, hml, hown, hT, hr, hlk, hK, hJ, hZ, hN⟩ := id hB
  intro x1 x2 x3 V H locs ls hE hz hl
  unfold f_X6_answerOf_L5 at hE
  refine lv_iload_n hx hb dX6_answerOf_0 rfl (lv_at hl 3 rfl) ?_
  refine lv_bipush (v := (20 : Int32)) hx hb dX6_answerOf_1 (by decide) ?_
  refine lv_icmp_le (tgt := 8) hx hb dX6_answerOf_3 (by decide) (fun c3 => ?_) (fun c3 => ?_)
  · have hE := (if_pos c3).symm.trans hE
    refine lv_aload_n hx hb dX6_answerOf_8 rfl (lv_at hl 0 rfl) ?_
    refine lv_iload_n hx hb dX6_answerOf_9 rfl (lv_at hl 1 rfl) ?_
    obtain ⟨q10, hq10, hE⟩ := x_bind hE
    refine i_X6_323 hB hz kdX_0 (c_X6_leaveTrace l g  hq10) ⟨(Nat.le_of_ble_eq_true rfl), (Nat.le_of_ble_eq_true rfl)⟩ hl.1 (Nat.le_of_ble_eq_true rfl) dX6_answerOf_10 (fun H locs hz => ?_)
    refine lv_iload_n hx hb dX6_answerOf_13 rfl (lv_at hl 3 rfl) ?_
    refine lv_iconst (v := (1 : Int32)) hx hb dX6_answerOf_14 (by decide) ?_
    refine lv_iadd hx hb dX6_answerOf_15 ?_
    refine lv_istore (lv' := [(4, .int (x3 + (1 : Int32))), (0, .ref (ad g 0)), (1, .int x1), (2, .int x2), (3, .int x3)]) hx hb dX6_answerOf_16 hl (by decide) rfl (fun ls hl => ?_)
    refine lv_iload_n hx hb dX6_answerOf_18 rfl (lv_at hl 2 rfl) ?_
    by_cases c19_10 : x1 = (10 : Int32)
    · have hE := (if_pos c19_10).symm.trans hE
      refine lv_tableIn (tgt := 92) hx hb dX6_answerOf_19 (by rw [c19_10]; decide) (by rw [c19_10]; decide) (by rw [c19_10]; rfl) (by decide) ?_
      refine lv_aload_n hx hb dX6_answerOf_92 rfl (lv_at hl 1 rfl) ?_
      refine g_X6_25 hB hz kdX_0 dX6_answerOf_93 ?_
      refine g_X6_195 hB hz kdX_4 dX6_answerOf_96 ?_
      refine lv_iload_n hx hb dX6_answerOf_99 rfl (lv_at hl 3 rfl) ?_
      obtain ⟨hi100, hE⟩ := x_chk hE
      refine x_iald (n := 24) hB hz kdX_8 hi100 dX6_answerOf_100 ?_
      exact x_iret hB hz hE dX6_answerOf_101
    have hE := (if_neg c19_10).symm.trans hE
    by_cases c19_11 : x1 = (11 : Int32)
    · have hE := (if_pos c19_11).symm.trans hE
      refine lv_tableIn (tgt := 102) hx hb dX6_answerOf_19 (by rw [c19_11]; decide) (by rw [c19_11]; decide) (by rw [c19_11]; rfl) (by decide) ?_
      refine lv_aload_n hx hb dX6_answerOf_102 rfl (lv_at hl 1 rfl) ?_
      refine lv_bipush (v := (10 : Int32)) hx hb dX6_answerOf_103 (by decide) ?_
      refine lv_iload_n hx hb dX6_answerOf_105 rfl (lv_at hl 3 rfl) ?_
      refine lv_iload hx hb dX6_answerOf_106 (lv_at hl 0 rfl) ?_
      obtain ⟨q108, hq108, hE⟩ := x_bind hE
      refine i_X6_320_L4 hB hz kdX_0 (c_X6_answerOf_L4 l g  hq108) ⟨(Nat.le_of_ble_eq_true rfl), (Nat.le_of_ble_eq_true rfl)⟩ hl.1 (Nat.le_of_ble_eq_true rfl) dX6_answerOf_108 (fun H locs hz => ?_)
      refine lv_aload_n hx hb dX6_answerOf_111 rfl (lv_at hl 1 rfl) ?_
      refine lv_iconst (v := (1 : Int32)) hx hb dX6_answerOf_112 (by decide) ?_
      refine lv_iload_n hx hb dX6_answerOf_113 rfl (lv_at hl 3 rfl) ?_
      refine lv_iload hx hb dX6_answerOf_114 (lv_at hl 0 rfl) ?_
      obtain ⟨q116, hq116, hE⟩ := x_bind hE
      refine i_X6_295_L4 hB hz kdX_0 (c_X6_answerTo_L4 l g  hq116) ⟨(Nat.le_of_ble_eq_true rfl), (Nat.le_of_ble_eq_true rfl)⟩ hl.1 (Nat.le_of_ble_eq_true rfl) dX6_answerOf_116 (fun H locs hz => ?_)
      refine lv_iadd hx hb dX6_answerOf_119 ?_
      exact x_iret hB hz hE dX6_answerOf_120
    have hE := (if_neg c19_11).symm.trans hE
    by_cases c19_12 : x1 = (12 : Int32)
    · have hE := (if_pos c19_12).symm.trans hE
      refine lv_tableIn (tgt := 121) hx hb dX6_answerOf_19 (by rw [c19_12]; decide) (by rw [c19_12]; decide) (by rw [c19_12]; rfl) (by decide) ?_
      refine lv_aload_n hx hb dX6_answerOf_121 rfl (lv_at hl 1 rfl) ?_
      refine lv_bipush (v := (11 : Int32)) hx hb dX6_answerOf_122 (by decide) ?_
      refine lv_iload_n hx hb dX6_answerOf_124 rfl (lv_at hl 3 rfl) ?_
      refine lv_iload hx hb dX6_answerOf_125 (lv_at hl 0 rfl) ?_
      obtain ⟨q127, hq127, hE⟩ := x_bind hE
      refine i_X6_320_L4 hB hz kdX_0 (c_X6_answerOf_L4 l g  hq127) ⟨(Nat.le_of_ble_eq_true rfl), (Nat.le_of_ble_eq_true rfl)⟩ hl.1 (Nat.le_of_ble_eq_true rfl) dX6_answerOf_127 (fun H locs hz => ?_)
      refine lv_ineg hx hb dX6_answerOf_130 ?_
      exact x_iret hB hz hE dX6_answerOf_131
    have hE := (if_neg c19_12).symm.trans hE
    by_cases c19_13 : x1 = (13 : Int32)
    · have hE := (if_pos c19_13).symm.trans hE
      refine lv_tableIn (tgt := 132) hx hb dX6_answerOf_19 (by rw [c19_13]; decide) (by rw [c19_13]; decide) (by rw [c19_13]; rfl) (by decide) ?_
      refine lv_aload_n hx hb dX6_answerOf_132 rfl (lv_at hl 1 rfl) ?_
      refine lv_bipush (v := (10 : Int32)) hx hb dX6_answerOf_133 (by decide) ?_
      refine lv_iload_n hx hb dX6_answerOf_135 rfl (lv_at hl 3 rfl) ?_
      refine lv_iload hx hb dX6_answerOf_136 (lv_at hl 0 rfl) ?_
      obtain ⟨q138, hq138, hE⟩ := x_bind hE
      refine i_X6_320_L4 hB hz kdX_0 (c_X6_answerOf_L4 l g  hq138) ⟨(Nat.le_of_ble_eq_true rfl), (Nat.le_of_ble_eq_true rfl)⟩ hl.1 (Nat.le_of_ble_eq_true rfl) dX6_answerOf_138 (fun H locs hz => ?_)
      refine lv_bipush (v := (100 : Int32)) hx hb dX6_answerOf_141 (by decide) ?_
      refine lv_isub hx hb dX6_answerOf_143 ?_
      exact x_iret hB hz hE dX6_answerOf_144
    have hE := (if_neg c19_13).symm.trans hE
    by_cases c19_14 : x1 = (14 : Int32)
    · have hE := (if_pos c19_14).symm.trans hE
      refine lv_tableIn (tgt := 145) hx hb dX6_answerOf_19 (by rw [c19_14]; decide) (by rw [c19_14]; decide) (by rw [c19_14]; rfl) (by decide) ?_
      refine lv_iconst (v := (2 : Int32)) hx hb dX6_answerOf_145 (by decide) ?_
      refine lv_aload_n hx hb dX6_answerOf_146 rfl (lv_at hl 1 rfl) ?_
      refine lv_bipush (v := (13 : Int32)) hx hb dX6_answerOf_147 (by decide) ?_
      refine lv_iload_n hx hb dX6_answerOf_149 rfl (lv_at hl 3 rfl) ?_
      refine lv_iload hx hb dX6_answerOf_150 (lv_at hl 0 rfl) ?_
      obtain ⟨q152, hq152, hE⟩ := x_bind hE
      refine i_X6_320_L4 hB hz kdX_0 (c_X6_answerOf_L4 l g  hq152) ⟨(Nat.le_of_ble_eq_true rfl), (Nat.le_of_ble_eq_true rfl)⟩ hl.1 (Nat.le_of_ble_eq_true rfl) dX6_answerOf_152 (fun H locs hz => ?_)
      refine lv_imul hx hb dX6_answerOf_155 ?_
      exact x_iret hB hz hE dX6_answerOf_156
    have hE := (if_neg c19_14).symm.trans hE
    by_cases c19_15 : x1 = (15 : Int32)
    · have hE := (if_pos c19_15).symm.trans hE
      refine lv_tableIn (tgt := 223) hx hb dX6_answerOf_19 (by rw [c19_15]; decide) (by rw [c19_15]; decide) (by rw [c19_15]; rfl) (by decide) ?_
      refine lv_iconst (v := (0 : Int32)) hx hb dX6_answerOf_223 (by decide) ?_
      exact x_iret hB hz hE dX6_answerOf_224
    have hE := (if_neg c19_15).symm.trans hE
    by_cases c19_16 : x1 = (16 : Int32)
    · have hE := (if_pos c19_16).symm.trans hE
      refine lv_tableIn (tgt := 223) hx hb dX6_answerOf_19 (by rw [c19_16]; decide) (by rw [c19_16]; decide) (by rw [c19_16]; rfl) (by decide) ?_
      refine lv_iconst (v := (0 : Int32)) hx hb dX6_answerOf_223 (by decide) ?_
      exact x_iret hB hz hE dX6_answerOf_224
    have hE := (if_neg c19_16).symm.trans hE
    by_cases c19_17 : x1 = (17 : Int32)
    · have hE := (if_pos c19_17).symm.trans hE
      refine lv_tableIn (tgt := 223) hx hb dX6_answerOf_19 (by rw [c19_17]; decide) (by rw [c19_17]; decide) (by rw [c19_17]; rfl) (by decide) ?_
      refine lv_iconst (v := (0 : Int32)) hx hb dX6_answerOf_223 (by decide) ?_
      exact x_iret hB hz hE dX6_answerOf_224
    have hE := (if_neg c19_17).symm.trans hE
    by_cases c19_18 : x1 = (18 : Int32)
    · have hE := (if_pos c19_18).symm.trans hE
      refine lv_tableIn (tgt := 223) hx hb dX6_answerOf_19 (by rw [c19_18]; decide) (by rw [c19_18]; decide) (by rw [c19_18]; rfl) (by decide) ?_
      refine lv_iconst (v := (0 : Int32)) hx hb dX6_answerOf_223 (by decide) ?_
      exact x_iret hB hz hE dX6_answerOf_224
    have hE := (if_neg c19_18).symm.trans hE
    by_cases c19_19 : x1 = (19 : Int32)
    · have hE := (if_pos c19_19).symm.trans hE
      refine lv_tableIn (tgt := 223) hx hb dX6_answerOf_19 (by rw [c19_19]; decide) (by rw [c19_19]; decide) (by rw [c19_19]; rfl) (by decide) ?_
      refine lv_iconst (v := (0 : Int32)) hx hb dX6_answerOf_223 (by decide) ?_
      exact x_iret hB hz hE dX6_answerOf_224
    have hE := (if_neg c19_19).symm.trans hE
    by_cases c19_20 : x1 = (20 : Int32)
    · have hE := (if_pos c19_20).symm.trans hE
      refine lv_tableIn (tgt := 157) hx hb dX6_answerOf_19 (by rw [c19_20]; decide) (by rw [c19_20]; decide) (by rw [c19_20]; rfl) (by decide) ?_
      refine lv_iload_n hx hb dX6_answerOf_157 rfl (lv_at hl 3 rfl) ?_
      exact x_iret hB hz hE dX6_answerOf_158
    have hE := (if_neg c19_20).symm.trans hE
    by_cases c19_21 : x1 = (21 : Int32)
    · have hE := (if_pos c19_21).symm.trans hE
      refine lv_tableIn (tgt := 159) hx hb dX6_answerOf_19 (by rw [c19_21]; decide) (by rw [c19_21]; decide) (by rw [c19_21]; rfl) (by decide) ?_
      refine lv_aload_n hx hb dX6_answerOf_159 rfl (lv_at hl 1 rfl) ?_
      refine lv_bipush (v := (20 : Int32)) hx hb dX6_answerOf_160 (by decide) ?_
      refine lv_iload_n hx hb dX6_answerOf_162 rfl (lv_at hl 3 rfl) ?_
      refine lv_iload hx hb dX6_answerOf_163 (lv_at hl 0 rfl) ?_
      obtain ⟨q165, hq165, hE⟩ := x_bind hE
      refine i_X6_320_L4 hB hz kdX_0 (c_X6_answerOf_L4 l g  hq165) ⟨(Nat.le_of_ble_eq_true rfl), (Nat.le_of_ble_eq_true rfl)⟩ hl.1 (Nat.le_of_ble_eq_true rfl) dX6_answerOf_165 (fun H locs hz => ?_)
      refine lv_aload_n hx hb dX6_answerOf_168 rfl (lv_at hl 1 rfl) ?_
      refine g_X6_25 hB hz kdX_0 dX6_answerOf_169 ?_
      refine lv_iload_n hx hb dX6_answerOf_172 rfl (lv_at hl 3 rfl) ?_
      obtain ⟨q173, hq173, hE⟩ := x_bind hE
      refine i_X6_245 hB hz kdX_4 (c_X3_ownCount l g kdX_4 hq173) ⟨(Nat.le_of_ble_eq_true rfl), (Nat.le_of_ble_eq_true rfl)⟩ hl.1 (Nat.le_of_ble_eq_true rfl) dX6_answerOf_173 (fun H locs hz => ?_)
      refine lv_iadd hx hb dX6_answerOf_176 ?_
      exact x_iret hB hz hE dX6_answerOf_177
    have hE := (if_neg c19_21).symm.trans hE
    by_cases c19_22 : x1 = (22 : Int32)
    · have hE := (if_pos c19_22).symm.trans hE
      refine lv_tableIn (tgt := 178) hx hb dX6_answerOf_19 (by rw [c19_22]; decide) (by rw [c19_22]; decide) (by rw [c19_22]; rfl) (by decide) ?_
      refine lv_aload_n hx hb dX6_answerOf_178 rfl (lv_at hl 1 rfl) ?_
      refine lv_bipush (v := (21 : Int32)) hx hb dX6_answerOf_179 (by decide) ?_
      refine lv_iload_n hx hb dX6_answerOf_181 rfl (lv_at hl 3 rfl) ?_
      refine lv_iload hx hb dX6_answerOf_182 (lv_at hl 0 rfl) ?_
      obtain ⟨q184, hq184, hE⟩ := x_bind hE
      refine i_X6_320_L4 hB hz kdX_0 (c_X6_answerOf_L4 l g  hq184) ⟨(Nat.le_of_ble_eq_true rfl), (Nat.le_of_ble_eq_true rfl)⟩ hl.1 (Nat.le_of_ble_eq_true rfl) dX6_answerOf_184 (fun H locs hz => ?_)
      refine lv_sipush (v := (1000 : Int32)) hx hb dX6_answerOf_187 (by decide) ?_
      refine lv_isub hx hb dX6_answerOf_190 ?_
      exact x_iret hB hz hE dX6_answerOf_191
    have hE := (if_neg c19_22).symm.trans hE
    by_cases c19_23 : x1 = (23 : Int32)
    · have hE := (if_pos c19_23).symm.trans hE
      refine lv_tableIn (tgt := 192) hx hb dX6_answerOf_19 (by rw [c19_23]; decide) (by rw [c19_23]; decide) (by rw [c19_23]; rfl) (by decide) ?_
      refine lv_aload_n hx hb dX6_answerOf_192 rfl (lv_at hl 1 rfl) ?_
      refine lv_bipush (v := (20 : Int32)) hx hb dX6_answerOf_193 (by decide) ?_
      refine lv_iload_n hx hb dX6_answerOf_195 rfl (lv_at hl 3 rfl) ?_
      refine lv_iload hx hb dX6_answerOf_196 (lv_at hl 0 rfl) ?_
      obtain ⟨q198, hq198, hE⟩ := x_bind hE
      refine i_X6_320_L4 hB hz kdX_0 (c_X6_answerOf_L4 l g  hq198) ⟨(Nat.le_of_ble_eq_true rfl), (Nat.le_of_ble_eq_true rfl)⟩ hl.1 (Nat.le_of_ble_eq_true rfl) dX6_answerOf_198 (fun H locs hz => ?_)
      refine lv_aload_n hx hb dX6_answerOf_201 rfl (lv_at hl 1 rfl) ?_
      refine lv_iconst (v := (0 : Int32)) hx hb dX6_answerOf_202 (by decide) ?_
      refine lv_iload_n hx hb dX6_answerOf_203 rfl (lv_at hl 3 rfl) ?_
      refine lv_iload hx hb dX6_answerOf_204 (lv_at hl 0 rfl) ?_
      obtain ⟨q206, hq206, hE⟩ := x_bind hE
      refine i_X6_295_L4 hB hz kdX_0 (c_X6_answerTo_L4 l g  hq206) ⟨(Nat.le_of_ble_eq_true rfl), (Nat.le_of_ble_eq_true rfl)⟩ hl.1 (Nat.le_of_ble_eq_true rfl) dX6_answerOf_206 (fun H locs hz => ?_)
      refine lv_isub hx hb dX6_answerOf_209 ?_
      exact x_iret hB hz hE dX6_answerOf_210
    have hE := (if_neg c19_23).symm.trans hE
    by_cases c19_24 : x1 = (24 : Int32)
    · have hE := (if_pos c19_24).symm.trans hE
      refine lv_tableIn (tgt := 211) hx hb dX6_answerOf_19 (by rw [c19_24]; decide) (by rw [c19_24]; decide) (by rw [c19_24]; rfl) (by decide) ?_
      refine lv_iconst (v := (2 : Int32)) hx hb dX6_answerOf_211 (by decide) ?_
      refine lv_aload_n hx hb dX6_answerOf_212 rfl (lv_at hl 1 rfl) ?_
      refine lv_bipush (v := (21 : Int32)) hx hb dX6_answerOf_213 (by decide) ?_
      refine lv_iload_n hx hb dX6_answerOf_215 rfl (lv_at hl 3 rfl) ?_
      refine lv_iload hx hb dX6_answerOf_216 (lv_at hl 0 rfl) ?_
      obtain ⟨q218, hq218, hE⟩ := x_bind hE
      refine i_X6_320_L4 hB hz kdX_0 (c_X6_answerOf_L4 l g  hq218) ⟨(Nat.le_of_ble_eq_true rfl), (Nat.le_of_ble_eq_true rfl)⟩ hl.1 (Nat.le_of_ble_eq_true rfl) dX6_answerOf_218 (fun H locs hz => ?_)
      refine lv_imul hx hb dX6_answerOf_221 ?_
      exact x_iret hB hz hE dX6_answerOf_222
    have hE := (if_neg c19_24).symm.trans hE
    have nc19_10 := x_nei c19_10 (k := 10) (by decide)
    have nc19_11 := x_nei c19_11 (k := 11) (by decide)
    have nc19_12 := x_nei c19_12 (k := 12) (by decide)
    have nc19_13 := x_nei c19_13 (k := 13) (by decide)
    have nc19_14 := x_nei c19_14 (k := 14) (by decide)
    have nc19_15 := x_nei c19_15 (k := 15) (by decide)
    have nc19_16 := x_nei c19_16 (k := 16) (by decide)
    have nc19_17 := x_nei c19_17 (k := 17) (by decide)
    have nc19_18 := x_nei c19_18 (k := 18) (by decide)
    have nc19_19 := x_nei c19_19 (k := 19) (by decide)
    have nc19_20 := x_nei c19_20 (k := 20) (by decide)
    have nc19_21 := x_nei c19_21 (k := 21) (by decide)
    have nc19_22 := x_nei c19_22 (k := 22) (by decide)
    have nc19_23 := x_nei c19_23 (k := 23) (by decide)
    have nc19_24 := x_nei c19_24 (k := 24) (by decide)
    refine lv_tableOut (tgt := 223) hx hb dX6_answerOf_19 (by omega) (by decide) ?_
    refine lv_iconst (v := (0 : Int32)) hx hb dX6_answerOf_223 (by decide) ?_
    exact x_iret hB hz hE dX6_answerOf_224
  · have hE := (if_neg c3).symm.trans hE
    refine lv_iconst (v := (0 : Int32)) hx hb dX6_answerOf_6 (by decide) ?_
    exact x_iret hB hz hE dX6_answerOf_7
theorem c_X6_answerOf_L5 (l : Launch) (g : GP) {x1 : Int32} {x2 : Int32} {x3 : Int32} {V : Mem} {o : Int32 × Mem} (hE : f_X6_answerOf_L5 x1 x2 x3 V = some o) : CT l g LX yX6_answerOf cX6_answerOf 5 (some .int) rm_X6_answerOf_L5 [.ref (ad g 0), .int x1, .int x2, .int x3] V (some (.int o.1)) o.2 := by
  refine ct_of (by decide) (Nat.le_of_ble_eq_true rfl) ?_
  intro p e s m args below meth c ls hB hz hl
  exact w_X6_answerOf_L5 hB _ _ _ _ _ _ _  hE hz hl
def rm_X6_answerTo_L5 : Room := { frames := 13, cells := 0, slots := 0, locals := 391 }
theorem i_X6_320_L5 {p : Program} {l : Launch} {e : Env} {R : Room} {s : State} {m : MethodId} {args : Array Value} {below : List Frame} {meth : Method} {c : Code} {H : Heap} {locs : List Loc} {Q : State → Prop} {cc : ByteArray} {pc : Nat} {ls : Array Slot} {rest : List Value} {g : GP} {V : Mem} {nL : Nat} {ret : Option FieldType} (hB : BX p s m args meth c g LX cc nL RX6 ret) (hz : OK g LX V s H locs) {i : Nat} (hk : KD LX i 5) {a0 : Int32} {a1 : Int32} {a2 : Int32} {r : Int32} {V1 : Mem} (hM : CT l g LX yX6_answerOf cX6_answerOf 5 (some .int) rm_X6_answerOf_L5 [.ref (ad g i), .int a0, .int a1, .int a2] V (some (.int r)) V1) (hR : rm_X6_answerOf_L5.frames + 1 ≤ R.frames ∧ 8 + (5 + 11) + rm_X6_answerOf_L5.locals ≤ R.locals) (hsz : ls.size = nL) (hrest : (rest.map fun v => v.category).sum ≤ 8) (hdg : decode cc pc = .ok (.invokevirtual 320, 3)) (kk : ∀ (H1 : Heap) (locs1 : List Loc), OK g LX V1 s H1 locs1 → W p l e R s m args below meth c H1 locs1 0 0 Q (F0 m (pc + 3) ls (.int r :: rest))) : W p l e R s m args below meth c H locs 0 0 Q (F0 m pc ls (.int a2 :: .int a1 :: .int a0 :: .ref (ad g i) :: rest)) :=
  x_cv (As := [.int a0, .int a1, .int a2]) (n := 3) (T := TX6) (N := 14) hB hz hM hk rfl rfl rfl rfl kw_695 kw_62 kw_692 kw_694 kw_20 (by decide +kernel) rfl hR hsz hrest hdg kk
set_option maxHeartbeats 4000000 in
set_option maxRecDepth 100000 in
theorem w_X6_answerTo_L5_63_t3 {p : Program} {l : Launch} {e : Env} {s : State} {m : MethodId} {args : Array Value} {below : List Frame} {meth : Method} {c : Code} {g : GP} (hB : BX p s m args meth c g LX cX6_answerTo 7 RX6 (some .int)) {o : Int32 × Mem} : ∀ (x2 : Int32) (x3 : Int32) (x5 : Int32) (V : Mem) (H : Heap) (locs : List Loc) (ls : Array Slot), f_X6_answerTo_L5_63_t3 x2 x3 x5 V = some o → OK g LX V s H locs → lv_has ls 7 [(0, .ref (ad g 0)), (2, .int x2), (3, .int x3), (4, .ref (sa g 3)), (5, .int x5)] → W p l e rm_X6_answerTo_L5 s m args below meth c H locs 0 0 (MQ below (QQ g LX (some (.int o.1)) o.2) args s 0 0 (Ar g LX)) (F0 m 63 ls []) := by
  obtain ⟨hx, hb, hml, hown, hT, hr, hlk, hK, hJ, hZ, hN⟩ := id hB
  intro x2 x3 x5 V H locs ls hE hz hl
  unfold f_X6_answerTo_L5_63_t3 at hE
  refine lv_aload_n hx hb dX6_answerTo_63 rfl (lv_at hl 0 rfl) ?_
  refine lv_aload hx hb dX6_answerTo_64 (lv_at hl 3 rfl) ?_
  refine lv_iload hx hb dX6_answerTo_66 (lv_at hl 4 rfl) ?_
  obtain ⟨hi68, hE⟩ := x_chk hE
  refine x_sti (k := 3) (by decide) rfl hB hz hi68 dX6_answerTo_68 ?_
  refine lv_iload_n hx hb dX6_answerTo_69 rfl (lv_at hl 1 rfl) ?_
  refine lv_iload_n hx hb dX6_answerTo_70 rfl (lv_at hl 2 rfl) ?_
  refine lv_iconst (v := (1 : Int32)) hx hb dX6_answerTo_71 (by decide) ?_
  refine lv_iadd hx hb dX6_answerTo_72 ?_
  obtain ⟨q73, hq73, hE⟩ := x_bind hE
  refine i_X6_320_L5 hB hz kdX_0 (c_X6_answerOf_L5 l g  hq73) ⟨(Nat.le_of_ble_eq_true rfl), (Nat.le_of_ble_eq_true rfl)⟩ hl.1 (Nat.le_of_ble_eq_true rfl) dX6_answerTo_73 (fun H locs hz => ?_)
  exact x_iret hB hz hE dX6_answerTo_76

set_option maxHeartbeats 4000000 in
set_option maxRecDepth 100000 in
theorem w_X6_answerTo_L5_29_t3 {p : Program} {l : Launch} {e : Env} {s : State} {m : MethodId} {args : Array Value} {below : List Frame} {meth : Method} {c : Code} {g : GP} (hB : BX p s m args meth c g LX cX6_answerTo 7 RX6 (some .int)) {o : Int32 × Mem} : ∀ (n : Nat), ∀ (x2 : Int32) (x3 : Int32) (x5 : Int32) (x6 : Int32) (V : Mem) (H : Heap) (locs : List Loc) (ls : Array Slot), f_X6_answerTo_L5_29_t3 n x2 x3 x5 x6 V = some o → OK g LX V s H locs → lv_has ls 7 [(0, .ref (ad g 0)), (2, .int x2), (3, .int x3), (4, .ref (sa g 3)), (5, .int x5), (6, .int x6)] → W p l e rm_X6_answerTo_L5 s m args below meth c H locs 0 0 (MQ below (QQ g LX (some (.int o.1)) o.2) args s 0 0 (Ar g LX)) (F0 m 29 ls []) := by
  obtain ⟨hx, hb, hml, hown, hT, hr, hlk, hK, hJ, hZ, hN⟩ := id hB
  intro n
  induction n with
  | zero =>
    intro x2 x3 x5 x6 V H locs ls hE hz hl
    exact absurd (show (none : Option (Int32 × Mem)) = some o from hE) (by simp)
  | succ n ih =>
    intro x2 x3 x5 x6 V H locs ls hE hz hl
    unfold f_X6_answerTo_L5_29_t3 at hE
    refine lv_iload hx hb dX6_answerTo_29 (lv_at hl 5 rfl) ?_
    refine lv_bipush (v := (6 : Int32)) hx hb dX6_answerTo_31 (by decide) ?_
    refine lv_icmp_ge (tgt := 63) hx hb dX6_answerTo_33 (by decide) (fun c33 => ?_) (fun c33 => ?_)
    · have hE := (if_pos c33).symm.trans hE
      exact w_X6_answerTo_L5_63_t3 hB  _ _ _ _ _ _ _  hE hz (lv_sub hl [0, 1, 2, 3, 4] rfl)
    · have hE := (if_neg c33).symm.trans hE
      refine lv_iload hx hb dX6_answerTo_36 (lv_at hl 4 rfl) ?_
      refine lv_if_eq (tgt := 63) hx hb dX6_answerTo_38 (by decide) (fun c38 => ?_) (fun c38 => ?_)
      · have hE := (if_pos c38).symm.trans hE
        exact w_X6_answerTo_L5_63_t3 hB  _ _ _ _ _ _ _  hE hz (lv_sub hl [0, 1, 2, 3, 4] rfl)
      · have hE := (if_neg c38).symm.trans hE
        refine lv_aload hx hb dX6_answerTo_41 (lv_at hl 3 rfl) ?_
        refine lv_iload hx hb dX6_answerTo_43 (lv_at hl 4 rfl) ?_
        obtain ⟨hi45, hE⟩ := x_chk hE
        refine x_sti (k := 3) (by decide) rfl hB hz hi45 dX6_answerTo_45 ?_
        refine lv_if_ne (tgt := 63) hx hb dX6_answerTo_46 (by decide) (fun c46 => ?_) (fun c46 => ?_)
        · have hE := (if_neg c46).symm.trans hE
          exact w_X6_answerTo_L5_63_t3 hB  _ _ _ _ _ _ _  hE hz (lv_sub hl [0, 1, 2, 3, 4] rfl)
        · have hE := (if_pos c46).symm.trans hE
          refine x_gst (k := 0) (by decide) hB hz kw_678 dX6_answerTo_49 ?_
          refine lv_iload hx hb dX6_answerTo_52 (lv_at hl 4 rfl) ?_
          obtain ⟨hi54, hE⟩ := x_chk hE
          refine x_sti (k := 0) (by decide) rfl hB hz hi54 dX6_answerTo_54 ?_
          refine lv_istore (lv' := [(5, .int (tba 0 (x5).toNatClampNeg)), (0, .ref (ad g 0)), (2, .int x2), (3, .int x3), (4, .ref (sa g 3)), (6, .int x6)]) hx hb dX6_answerTo_55 hl (by decide) rfl (fun ls hl => ?_)
          refine lv_iinc (v := (x6 + 1)) (lv' := [(6, .int (x6 + 1)), (5, .int (tba 0 (x5).toNatClampNeg)), (0, .ref (ad g 0)), (2, .int x2), (3, .int x3), (4, .ref (sa g 3))]) hx hb dX6_answerTo_57 hl (k := 5) rfl rfl (by decide) rfl (fun ls hl => ?_)
          refine lv_goto (tgt := 29) hx hb dX6_answerTo_60 (by decide) ?_
          exact ih _ _ _ _ _ _ _ _  hE hz (lv_sub hl [2, 3, 4, 5, 1, 0] rfl)

set_option maxHeartbeats 4000000 in
set_option maxRecDepth 100000 in
theorem w_X6_answerTo_L5_13_u3 {p : Program} {l : Launch} {e : Env} {s : State} {m : MethodId} {args : Array Value} {below : List Frame} {meth : Method} {c : Code} {g : GP} (hB : BX p s m args meth c g LX cX6_answerTo 7 RX6 (some .int)) {o : Int32 × Mem} : ∀ (x2 : Int32) (x3 : Int32) (V : Mem) (H : Heap) (locs : List Loc) (ls : Array Slot), f_X6_answerTo_L5_13_u3 x2 x3 V = some o → OK g LX V s H locs → lv_has ls 7 [(0, .ref (ad g 0)), (2, .int x2), (3, .int x3)] → W p l e rm_X6_answerTo_L5 s m args below meth c H locs 0 0 (MQ below (QQ g LX (some (.int o.1)) o.2) args s 0 0 (Ar g LX)) (F0 m 13 ls [.ref (sa g 3)]) := by
  obtain ⟨hx, hb, hml, hown, hT, hr, hlk, hK, hJ, hZ, hN⟩ := id hB
  intro x2 x3 V H locs ls hE hz hl
  unfold f_X6_answerTo_L5_13_u3 at hE
  refine lv_astore (lv' := [(4, .ref (sa g 3)), (0, .ref (ad g 0)), (2, .int x2), (3, .int x3)]) hx hb dX6_answerTo_13 hl (by decide) rfl (fun ls hl => ?_)
  refine lv_aload_n hx hb dX6_answerTo_15 rfl (lv_at hl 1 rfl) ?_
  refine g_X6_25 hB hz kdX_0 dX6_answerTo_16 ?_
  refine g_X6_183 hB hz kdX_4 dX6_answerTo_19 ?_
  refine lv_iload_n hx hb dX6_answerTo_22 rfl (lv_at hl 2 rfl) ?_
  obtain ⟨hi23, hE⟩ := x_chk hE
  refine x_iald (n := 24) hB hz kdX_6 hi23 dX6_answerTo_23 ?_
  refine lv_istore (lv' := [(5, .int (V 6 (x2).toNatClampNeg)), (4, .ref (sa g 3)), (0, .ref (ad g 0)), (2, .int x2), (3, .int x3)]) hx hb dX6_answerTo_24 hl (by decide) rfl (fun ls hl => ?_)
  refine lv_iconst (v := (0 : Int32)) hx hb dX6_answerTo_26 (by decide) ?_
  refine lv_istore (lv' := [(6, .int (0 : Int32)), (5, .int (V 6 (x2).toNatClampNeg)), (4, .ref (sa g 3)), (0, .ref (ad g 0)), (2, .int x2), (3, .int x3)]) hx hb dX6_answerTo_27 hl (by decide) rfl (fun ls hl => ?_)
  exact w_X6_answerTo_L5_29_t3 hB  _ _ _ _ _ _ _ _ _  hE hz (lv_sub hl [3, 4, 5, 2, 1, 0] rfl)

set_option maxHeartbeats 4000000 in
set_option maxRecDepth 100000 in
theorem w_X6_answerTo_L5_63_t2 {p : Program} {l : Launch} {e : Env} {s : State} {m : MethodId} {args : Array Value} {below : List Frame} {meth : Method} {c : Code} {g : GP} (hB : BX p s m args meth c g LX cX6_answerTo 7 RX6 (some .int)) {o : Int32 × Mem} : ∀ (x2 : Int32) (x3 : Int32) (x5 : Int32) (V : Mem) (H : Heap) (locs : List Loc) (ls : Array Slot), f_X6_answerTo_L5_63_t2 x2 x3 x5 V = some o → OK g LX V s H locs → lv_has ls 7 [(0, .ref (ad g 0)), (2, .int x2), (3, .int x3), (4, .ref (sa g 2)), (5, .int x5)] → W p l e rm_X6_answerTo_L5 s m args below meth c H locs 0 0 (MQ below (QQ g LX (some (.int o.1)) o.2) args s 0 0 (Ar g LX)) (F0 m 63 ls []) := by
  obtain ⟨hx, hb, hml, hown, hT, hr, hlk, hK, hJ, hZ, hN⟩ := id hB
  intro x2 x3 x5 V H locs ls hE hz hl
  unfold f_X6_answerTo_L5_63_t2 at hE
  refine lv_aload_n hx hb dX6_answerTo_63 rfl (lv_at hl 0 rfl) ?_
  refine lv_aload hx hb dX6_answerTo_64 (lv_at hl 3 rfl) ?_
  refine lv_iload hx hb dX6_answerTo_66 (lv_at hl 4 rfl) ?_
  obtain ⟨hi68, hE⟩ := x_chk hE
  refine x_sti (k := 2) (by decide) rfl hB hz hi68 dX6_answerTo_68 ?_
  refine lv_iload_n hx hb dX6_answerTo_69 rfl (lv_at hl 1 rfl) ?_
  refine lv_iload_n hx hb dX6_answerTo_70 rfl (lv_at hl 2 rfl) ?_
  refine lv_iconst (v := (1 : Int32)) hx hb dX6_answerTo_71 (by decide) ?_
  refine lv_iadd hx hb dX6_answerTo_72 ?_
  obtain ⟨q73, hq73, hE⟩ := x_bind hE
  refine i_X6_320_L5 hB hz kdX_0 (c_X6_answerOf_L5 l g  hq73) ⟨(Nat.le_of_ble_eq_true rfl), (Nat.le_of_ble_eq_true rfl)⟩ hl.1 (Nat.le_of_ble_eq_true rfl) dX6_answerTo_73 (fun H locs hz => ?_)
  exact x_iret hB hz hE dX6_answerTo_76

set_option maxHeartbeats 4000000 in
set_option maxRecDepth 100000 in
theorem w_X6_answerTo_L5_29_t2 {p : Program} {l : Launch} {e : Env} {s : State} {m : MethodId} {args : Array Value} {below : List Frame} {meth : Method} {c : Code} {g : GP} (hB : BX p s m args meth c g LX cX6_answerTo 7 RX6 (some .int)) {o : Int32 × Mem} : ∀ (n : Nat), ∀ (x2 : Int32) (x3 : Int32) (x5 : Int32) (x6 : Int32) (V : Mem) (H : Heap) (locs : List Loc) (ls : Array Slot), f_X6_answerTo_L5_29_t2 n x2 x3 x5 x6 V = some o → OK g LX V s H locs → lv_has ls 7 [(0, .ref (ad g 0)), (2, .int x2), (3, .int x3), (4, .ref (sa g 2)), (5, .int x5), (6, .int x6)] → W p l e rm_X6_answerTo_L5 s m args below meth c H locs 0 0 (MQ below (QQ g LX (some (.int o.1)) o.2) args s 0 0 (Ar g LX)) (F0 m 29 ls []) := by
  obtain ⟨hx, hb, hml, hown, hT, hr, hlk, hK, hJ, hZ, hN⟩ := id hB
  intro n
  induction n with
  | zero =>
    intro x2 x3 x5 x6 V H locs ls hE hz hl
    exact absurd (show (none : Option (Int32 × Mem)) = some o from hE) (by simp)
  | succ n ih =>
    intro x2 x3 x5 x6 V H locs ls hE hz hl
    unfold f_X6_answerTo_L5_29_t2 at hE
    refine lv_iload hx hb dX6_answerTo_29 (lv_at hl 5 rfl) ?_
    refine lv_bipush (v := (6 : Int32)) hx hb dX6_answerTo_31 (by decide) ?_
    refine lv_icmp_ge (tgt := 63) hx hb dX6_answerTo_33 (by decide) (fun c33 => ?_) (fun c33 => ?_)
    · have hE := (if_pos c33).symm.trans hE
      exact w_X6_answerTo_L5_63_t2 hB  _ _ _ _ _ _ _  hE hz (lv_sub hl [0, 1, 2, 3, 4] rfl)
    · have hE := (if_neg c33).symm.trans hE
      refine lv_iload hx hb dX6_answerTo_36 (lv_at hl 4 rfl) ?_
      refine lv_if_eq (tgt := 63) hx hb dX6_answerTo_38 (by decide) (fun c38 => ?_) (fun c38 => ?_)
      · have hE := (if_pos c38).symm.trans hE
        exact w_X6_answerTo_L5_63_t2 hB  _ _ _ _ _ _ _  hE hz (lv_sub hl [0, 1, 2, 3, 4] rfl)
      · have hE := (if_neg c38).symm.trans hE
        refine lv_aload hx hb dX6_answerTo_41 (lv_at hl 3 rfl) ?_
        refine lv_iload hx hb dX6_answerTo_43 (lv_at hl 4 rfl) ?_
        obtain ⟨hi45, hE⟩ := x_chk hE
        refine x_sti (k := 2) (by decide) rfl hB hz hi45 dX6_answerTo_45 ?_
        refine lv_if_ne (tgt := 63) hx hb dX6_answerTo_46 (by decide) (fun c46 => ?_) (fun c46 => ?_)
        · have hE := (if_neg c46).symm.trans hE
          exact w_X6_answerTo_L5_63_t2 hB  _ _ _ _ _ _ _  hE hz (lv_sub hl [0, 1, 2, 3, 4] rfl)
        · have hE := (if_pos c46).symm.trans hE
          refine x_gst (k := 0) (by decide) hB hz kw_678 dX6_answerTo_49 ?_
          refine lv_iload hx hb dX6_answerTo_52 (lv_at hl 4 rfl) ?_
          obtain ⟨hi54, hE⟩ := x_chk hE
          refine x_sti (k := 0) (by decide) rfl hB hz hi54 dX6_answerTo_54 ?_
          refine lv_istore (lv' := [(5, .int (tba 0 (x5).toNatClampNeg)), (0, .ref (ad g 0)), (2, .int x2), (3, .int x3), (4, .ref (sa g 2)), (6, .int x6)]) hx hb dX6_answerTo_55 hl (by decide) rfl (fun ls hl => ?_)
          refine lv_iinc (v := (x6 + 1)) (lv' := [(6, .int (x6 + 1)), (5, .int (tba 0 (x5).toNatClampNeg)), (0, .ref (ad g 0)), (2, .int x2), (3, .int x3), (4, .ref (sa g 2))]) hx hb dX6_answerTo_57 hl (k := 5) rfl rfl (by decide) rfl (fun ls hl => ?_)
          refine lv_goto (tgt := 29) hx hb dX6_answerTo_60 (by decide) ?_
          exact ih _ _ _ _ _ _ _ _  hE hz (lv_sub hl [2, 3, 4, 5, 1, 0] rfl)

set_option maxHeartbeats 4000000 in
set_option maxRecDepth 100000 in
theorem w_X6_answerTo_L5_13_u2 {p : Program} {l : Launch} {e : Env} {s : State} {m : MethodId} {args : Array Value} {below : List Frame} {meth : Method} {c : Code} {g : GP} (hB : BX p s m args meth c g LX cX6_answerTo 7 RX6 (some .int)) {o : Int32 × Mem} : ∀ (x2 : Int32) (x3 : Int32) (V : Mem) (H : Heap) (locs : List Loc) (ls : Array Slot), f_X6_answerTo_L5_13_u2 x2 x3 V = some o → OK g LX V s H locs → lv_has ls 7 [(0, .ref (ad g 0)), (2, .int x2), (3, .int x3)] → W p l e rm_X6_answerTo_L5 s m args below meth c H locs 0 0 (MQ below (QQ g LX (some (.int o.1)) o.2) args s 0 0 (Ar g LX)) (F0 m 13 ls [.ref (sa g 2)]) := by
  obtain ⟨hx, hb, hml, hown, hT, hr, hlk, hK, hJ, hZ, hN⟩ := id hB
  intro x2 x3 V H locs ls hE hz hl
  unfold f_X6_answerTo_L5_13_u2 at hE
  refine lv_astore (lv' := [(4, .ref (sa g 2)), (0, .ref (ad g 0)), (2, .int x2), (3, .int x3)]) hx hb dX6_answerTo_13 hl (by decide) rfl (fun ls hl => ?_)
  refine lv_aload_n hx hb dX6_answerTo_15 rfl (lv_at hl 1 rfl) ?_
  refine g_X6_25 hB hz kdX_0 dX6_answerTo_16 ?_
  refine g_X6_183 hB hz kdX_4 dX6_answerTo_19 ?_
  refine lv_iload_n hx hb dX6_answerTo_22 rfl (lv_at hl 2 rfl) ?_
  obtain ⟨hi23, hE⟩ := x_chk hE
  refine x_iald (n := 24) hB hz kdX_6 hi23 dX6_answerTo_23 ?_
  refine lv_istore (lv' := [(5, .int (V 6 (x2).toNatClampNeg)), (4, .ref (sa g 2)), (0, .ref (ad g 0)), (2, .int x2), (3, .int x3)]) hx hb dX6_answerTo_24 hl (by decide) rfl (fun ls hl => ?_)
  refine lv_iconst (v := (0 : Int32)) hx hb dX6_answerTo_26 (by decide) ?_
  refine lv_istore (lv' := [(6, .int (0 : Int32)), (5, .int (V 6 (x2).toNatClampNeg)), (4, .ref (sa g 2)), (0, .ref (ad g 0)), (2, .int x2), (3, .int x3)]) hx hb dX6_answerTo_27 hl (by decide) rfl (fun ls hl => ?_)
  exact w_X6_answerTo_L5_29_t2 hB  _ _ _ _ _ _ _ _ _  hE hz (lv_sub hl [3, 4, 5, 2, 1, 0] rfl)

set_option maxHeartbeats 4000000 in
set_option maxRecDepth 100000 in
theorem w_X6_answerTo_L5 {p : Program} {l : Launch} {e : Env} {s : State} {m : MethodId} {args : Array Value} {below : List Frame} {meth : Method} {c : Code} {g : GP} (hB : BX p s m args meth c g LX cX6_answerTo 7 RX6 (some .int)) {o : Int32 × Mem} : ∀ (x1 : Int32) (x2 : Int32) (x3 : Int32) (V : Mem) (H : Heap) (locs : List Loc) (ls : Array Slot), f_X6_answerTo_L5 x1 x2 x3 V = some o → OK g LX V s H locs → lv_has ls 7 [(0, .ref (ad g 0)), (1, .int x1), (2, .int x2), (3, .int x3)] → W p l e rm_X6_answerTo_L5 s m args below meth c H locs 0 0 (MQ below (QQ g LX (some (.int o.1)) o.2) args s 0 0 (Ar g LX)) (F0 m 0 ls []) := by
  obtain ⟨hx, hb, hml, hown, hT, hr, hlk, hK, hJ, hZ, hN⟩ := id hB
  intro x1 x2 x3 V H locs ls hE hz hl
  unfold f_X6_answerTo_L5 at hE
  refine lv_iload_n hx hb dX6_answerTo_0 rfl (lv_at hl 1 rfl) ?_
  refine lv_if_ne (tgt := 10) hx hb dX6_answerTo_1 (by decide) (fun c1 => ?_) (fun c1 => ?_)
  · have hE := (if_neg c1).symm.trans hE
    refine x_gst (k := 3) (by decide) hB hz kw_690 dX6_answerTo_10 ?_
    exact w_X6_answerTo_L5_13_u3 hB  _ _ _ _ _ _  hE hz (lv_sub hl [0, 2, 3] rfl)
  · have hE := (if_pos c1).symm.trans hE
    refine x_gst (k := 2) (by decide) hB hz kw_688 dX6_answerTo_4 ?_
    refine lv_goto (tgt := 13) hx hb dX6_answerTo_7 (by decide) ?_
    exact w_X6_answerTo_L5_13_u2 hB  _ _ _ _ _ _  hE hz (lv_sub hl [0, 2, 3] rfl)
theorem c_X6_answerTo_L5 (l : Launch) (g : GP) {x1 : Int32} {x2 : Int32} {x3 : Int32} {V : Mem} {o : Int32 × Mem} (hE : f_X6_answerTo_L5 x1 x2 x3 V = some o) : CT l g LX yX6_answerTo cX6_answerTo 7 (some .int) rm_X6_answerTo_L5 [.ref (ad g 0), .int x1, .int x2, .int x3] V (some (.int o.1)) o.2 := by
  refine ct_of (by decide) (Nat.le_of_ble_eq_true rfl) ?_
  intro p e s m args below meth c ls hB hz hl
  exact w_X6_answerTo_L5 hB _ _ _ _ _ _ _  hE hz hl
def rm_X6_answerOf_L6 : Room := { frames := 14, cells := 0, slots := 0, locals := 417 }
theorem i_X6_295_L5 {p : Program} {l : Launch} {e : Env} {R : Room} {s : State} {m : MethodId} {args : Array Value} {below : List Frame} {meth : Method} {c : Code} {H : Heap} {locs : List Loc} {Q : State → Prop} {cc : ByteArray} {pc : Nat} {ls : Array Slot} {rest : List Value} {g : GP} {V : Mem} {nL : Nat} {ret : Option FieldType} (hB : BX p s m args meth c g LX cc nL RX6 ret) (hz : OK g LX V s H locs) {i : Nat} (hk : KD LX i 5) {a0 : Int32} {a1 : Int32} {a2 : Int32} {r : Int32} {V1 : Mem} (hM : CT l g LX yX6_answerTo cX6_answerTo 7 (some .int) rm_X6_answerTo_L5 [.ref (ad g i), .int a0, .int a1, .int a2] V (some (.int r)) V1) (hR : rm_X6_answerTo_L5.frames + 1 ≤ R.frames ∧ 8 + (7 + 11) + rm_X6_answerTo_L5.locals ≤ R.locals) (hsz : ls.size = nL) (hrest : (rest.map fun v => v.category).sum ≤ 8) (hdg : decode cc pc = .ok (.invokevirtual 295, 3)) (kk : ∀ (H1 : Heap) (locs1 : List Loc), OK g LX V1 s H1 locs1 → W p l e R s m args below meth c H1 locs1 0 0 Q (F0 m (pc + 3) ls (.int r :: rest))) : W p l e R s m args below meth c H locs 0 0 Q (F0 m pc ls (.int a2 :: .int a1 :: .int a0 :: .ref (ad g i) :: rest)) :=
  x_cv (As := [.int a0, .int a1, .int a2]) (n := 3) (T := TX6) (N := 14) hB hz hM hk rfl rfl rfl rfl kw_687 kw_62 kw_684 kw_686 kw_19 (by decide +kernel) rfl hR hsz hrest hdg kk
set_option maxHeartbeats 4000000 in
set_option maxRecDepth 100000 in
theorem w_X6_answerOf_L6 {p : Program} {l : Launch} {e : Env} {s : State} {m : MethodId} {args : Array Value} {below : List Frame} {meth : Method} {c : Code} {g : GP} (hB : BX p s m args meth c g LX cX6_answerOf 5 RX6 (some .int)) {o : Int32 × Mem} : ∀ (x1 : Int32) (x2 : Int32) (x3 : Int32) (V : Mem) (H : Heap) (locs : List Loc) (ls : Array Slot), f_X6_answerOf_L6 x1 x2 x3 V = some o → OK g LX V s H locs → lv_has ls 5 [(0, .ref (ad g 0)), (1, .int x1), (2, .int x2), (3, .int x3)] → W p l e rm_X6_answerOf_L6 s m args below meth c H locs 0 0 (MQ below (QQ g LX (some (.int o.1)) o.2) args s 0 0 (Ar g LX)) (F0 m 0 ls []) := by
  obtain ⟨hx, hb, hml, hown, hT, hr, hlk, hK, hJ, hZ, hN⟩ := id hB
  intro x1 x2 x3 V H locs ls hE hz hl
  unfold f_X6_answerOf_L6 at hE
  refine lv_iload_n hx hb dX6_answerOf_0 rfl (lv_at hl 3 rfl) ?_
  refine lv_bipush (v := (20 : Int32)) hx hb dX6_answerOf_1 (by decide) ?_
  refine lv_icmp_le (tgt := 8) hx hb dX6_answerOf_3 (by decide) (fun c3 => ?_) (fun c3 => ?_)
  · have hE := (if_pos c3).symm.trans hE
    refine lv_aload_n hx hb dX6_answerOf_8 rfl (lv_at hl 0 rfl) ?_
    refine lv_iload_n hx hb dX6_answerOf_9 rfl (lv_at hl 1 rfl) ?_
    obtain ⟨q10, hq10, hE⟩ := x_bind hE
    refine i_X6_323 hB hz kdX_0 (c_X6_leaveTrace l g  hq10) ⟨(Nat.le_of_ble_eq_true rfl), (Nat.le_of_ble_eq_true rfl)⟩ hl.1 (Nat.le_of_ble_eq_true rfl) dX6_answerOf_10 (fun H locs hz => ?_)
    refine lv_iload_n hx hb dX6_answerOf_13 rfl (lv_at hl 3 rfl) ?_
    refine lv_iconst (v := (1 : Int32)) hx hb dX6_answerOf_14 (by decide) ?_
    refine lv_iadd hx hb dX6_answerOf_15 ?_
    refine lv_istore (lv' := [(4, .int (x3 + (1 : Int32))), (0, .ref (ad g 0)), (1, .int x1), (2, .int x2), (3, .int x3)]) hx hb dX6_answerOf_16 hl (by decide) rfl (fun ls hl => ?_)
    refine lv_iload_n hx hb dX6_answerOf_18 rfl (lv_at hl 2 rfl) ?_
    by_cases c19_10 : x1 = (10 : Int32)
    · have hE := (if_pos c19_10).symm.trans hE
      refine lv_tableIn (tgt := 92) hx hb dX6_answerOf_19 (by rw [c19_10]; decide) (by rw [c19_10]; decide) (by rw [c19_10]; rfl) (by decide) ?_
      refine lv_aload_n hx hb dX6_answerOf_92 rfl (lv_at hl 1 rfl) ?_
      refine g_X6_25 hB hz kdX_0 dX6_answerOf_93 ?_
      refine g_X6_195 hB hz kdX_4 dX6_answerOf_96 ?_
      refine lv_iload_n hx hb dX6_answerOf_99 rfl (lv_at hl 3 rfl) ?_
      obtain ⟨hi100, hE⟩ := x_chk hE
      refine x_iald (n := 24) hB hz kdX_8 hi100 dX6_answerOf_100 ?_
      exact x_iret hB hz hE dX6_answerOf_101
    have hE := (if_neg c19_10).symm.trans hE
    by_cases c19_11 : x1 = (11 : Int32)
    · have hE := (if_pos c19_11).symm.trans hE
      refine lv_tableIn (tgt := 102) hx hb dX6_answerOf_19 (by rw [c19_11]; decide) (by rw [c19_11]; decide) (by rw [c19_11]; rfl) (by decide) ?_
      refine lv_aload_n hx hb dX6_answerOf_102 rfl (lv_at hl 1 rfl) ?_
      refine lv_bipush (v := (10 : Int32)) hx hb dX6_answerOf_103 (by decide) ?_
      refine lv_iload_n hx hb dX6_answerOf_105 rfl (lv_at hl 3 rfl) ?_
      refine lv_iload hx hb dX6_answerOf_106 (lv_at hl 0 rfl) ?_
      obtain ⟨q108, hq108, hE⟩ := x_bind hE
      refine i_X6_320_L5 hB hz kdX_0 (c_X6_answerOf_L5 l g  hq108) ⟨(Nat.le_of_ble_eq_true rfl), (Nat.le_of_ble_eq_true rfl)⟩ hl.1 (Nat.le_of_ble_eq_true rfl) dX6_answerOf_108 (fun H locs hz => ?_)
      refine lv_aload_n hx hb dX6_answerOf_111 rfl (lv_at hl 1 rfl) ?_
      refine lv_iconst (v := (1 : Int32)) hx hb dX6_answerOf_112 (by decide) ?_
      refine lv_iload_n hx hb dX6_answerOf_113 rfl (lv_at hl 3 rfl) ?_
      refine lv_iload hx hb dX6_answerOf_114 (lv_at hl 0 rfl) ?_
      obtain ⟨q116, hq116, hE⟩ := x_bind hE
      refine i_X6_295_L5 hB hz kdX_0 (c_X6_answerTo_L5 l g  hq116) ⟨(Nat.le_of_ble_eq_true rfl), (Nat.le_of_ble_eq_true rfl)⟩ hl.1 (Nat.le_of_ble_eq_true rfl) dX6_answerOf_116 (fun H locs hz => ?_)
      refine lv_iadd hx hb dX6_answerOf_119 ?_
      exact x_iret hB hz hE dX6_answerOf_120
    have hE := (if_neg c19_11).symm.trans hE
    by_cases c19_12 : x1 = (12 : Int32)
    · have hE := (if_pos c19_12).symm.trans hE
      refine lv_tableIn (tgt := 121) hx hb dX6_answerOf_19 (by rw [c19_12]; decide) (by rw [c19_12]; decide) (by rw [c19_12]; rfl) (by decide) ?_
      refine lv_aload_n hx hb dX6_answerOf_121 rfl (lv_at hl 1 rfl) ?_
      refine lv_bipush (v := (11 : Int32)) hx hb dX6_answerOf_122 (by decide) ?_
      refine lv_iload_n hx hb dX6_answerOf_124 rfl (lv_at hl 3 rfl) ?_
      refine lv_iload hx hb dX6_answerOf_125 (lv_at hl 0 rfl) ?_
      obtain ⟨q127, hq127, hE⟩ := x_bind hE
      refine i_X6_320_L5 hB hz kdX_0 (c_X6_answerOf_L5 l g  hq127) ⟨(Nat.le_of_ble_eq_true rfl), (Nat.le_of_ble_eq_true rfl)⟩ hl.1 (Nat.le_of_ble_eq_true rfl) dX6_answerOf_127 (fun H locs hz => ?_)
      refine lv_ineg hx hb dX6_answerOf_130 ?_
      exact x_iret hB hz hE dX6_answerOf_131
    have hE := (if_neg c19_12).symm.trans hE
    by_cases c19_13 : x1 = (13 : Int32)
    · have hE := (if_pos c19_13).symm.trans hE
      refine lv_tableIn (tgt := 132) hx hb dX6_answerOf_19 (by rw [c19_13]; decide) (by rw [c19_13]; decide) (by rw [c19_13]; rfl) (by decide) ?_
      refine lv_aload_n hx hb dX6_answerOf_132 rfl (lv_at hl 1 rfl) ?_
      refine lv_bipush (v := (10 : Int32)) hx hb dX6_answerOf_133 (by decide) ?_
      refine lv_iload_n hx hb dX6_answerOf_135 rfl (lv_at hl 3 rfl) ?_
      refine lv_iload hx hb dX6_answerOf_136 (lv_at hl 0 rfl) ?_
      obtain ⟨q138, hq138, hE⟩ := x_bind hE
      refine i_X6_320_L5 hB hz kdX_0 (c_X6_answerOf_L5 l g  hq138) ⟨(Nat.le_of_ble_eq_true rfl), (Nat.le_of_ble_eq_true rfl)⟩ hl.1 (Nat.le_of_ble_eq_true rfl) dX6_answerOf_138 (fun H locs hz => ?_)
      refine lv_bipush (v := (100 : Int32)) hx hb dX6_answerOf_141 (by decide) ?_
      refine lv_isub hx hb dX6_answerOf_143 ?_
      exact x_iret hB hz hE dX6_answerOf_144
    have hE := (if_neg c19_13).symm.trans hE
    by_cases c19_14 : x1 = (14 : Int32)
    · have hE := (if_pos c19_14).symm.trans hE
      refine lv_tableIn (tgt := 145) hx hb dX6_answerOf_19 (by rw [c19_14]; decide) (by rw [c19_14]; decide) (by rw [c19_14]; rfl) (by decide) ?_
      refine lv_iconst (v := (2 : Int32)) hx hb dX6_answerOf_145 (by decide) ?_
      refine lv_aload_n hx hb dX6_answerOf_146 rfl (lv_at hl 1 rfl) ?_
      refine lv_bipush (v := (13 : Int32)) hx hb dX6_answerOf_147 (by decide) ?_
      refine lv_iload_n hx hb dX6_answerOf_149 rfl (lv_at hl 3 rfl) ?_
      refine lv_iload hx hb dX6_answerOf_150 (lv_at hl 0 rfl) ?_
      obtain ⟨q152, hq152, hE⟩ := x_bind hE
      refine i_X6_320_L5 hB hz kdX_0 (c_X6_answerOf_L5 l g  hq152) ⟨(Nat.le_of_ble_eq_true rfl), (Nat.le_of_ble_eq_true rfl)⟩ hl.1 (Nat.le_of_ble_eq_true rfl) dX6_answerOf_152 (fun H locs hz => ?_)
      refine lv_imul hx hb dX6_answerOf_155 ?_
      exact x_iret hB hz hE dX6_answerOf_156
    have hE := (if_neg c19_14).symm.trans hE
    by_cases c19_15 : x1 = (15 : Int32)
    · have hE := (if_pos c19_15).symm.trans hE
      refine lv_tableIn (tgt := 223) hx hb dX6_answerOf_19 (by rw [c19_15]; decide) (by rw [c19_15]; decide) (by rw [c19_15]; rfl) (by decide) ?_
      refine lv_iconst (v := (0 : Int32)) hx hb dX6_answerOf_223 (by decide) ?_
      exact x_iret hB hz hE dX6_answerOf_224
    have hE := (if_neg c19_15).symm.trans hE
    by_cases c19_16 : x1 = (16 : Int32)
    · have hE := (if_pos c19_16).symm.trans hE
      refine lv_tableIn (tgt := 223) hx hb dX6_answerOf_19 (by rw [c19_16]; decide) (by rw [c19_16]; decide) (by rw [c19_16]; rfl) (by decide) ?_
      refine lv_iconst (v := (0 : Int32)) hx hb dX6_answerOf_223 (by decide) ?_
      exact x_iret hB hz hE dX6_answerOf_224
    have hE := (if_neg c19_16).symm.trans hE
    by_cases c19_17 : x1 = (17 : Int32)
    · have hE := (if_pos c19_17).symm.trans hE
      refine lv_tableIn (tgt := 223) hx hb dX6_answerOf_19 (by rw [c19_17]; decide) (by rw [c19_17]; decide) (by rw [c19_17]; rfl) (by decide) ?_
      refine lv_iconst (v := (0 : Int32)) hx hb dX6_answerOf_223 (by decide) ?_
      exact x_iret hB hz hE dX6_answerOf_224
    have hE := (if_neg c19_17).symm.trans hE
    by_cases c19_18 : x1 = (18 : Int32)
    · have hE := (if_pos c19_18).symm.trans hE
      refine lv_tableIn (tgt := 223) hx hb dX6_answerOf_19 (by rw [c19_18]; decide) (by rw [c19_18]; decide) (by rw [c19_18]; rfl) (by decide) ?_
      refine lv_iconst (v := (0 : Int32)) hx hb dX6_answerOf_223 (by decide) ?_
      exact x_iret hB hz hE dX6_answerOf_224
    have hE := (if_neg c19_18).symm.trans hE
    by_cases c19_19 : x1 = (19 : Int32)
    · have hE := (if_pos c19_19).symm.trans hE
      refine lv_tableIn (tgt := 223) hx hb dX6_answerOf_19 (by rw [c19_19]; decide) (by rw [c19_19]; decide) (by rw [c19_19]; rfl) (by decide) ?_
      refine lv_iconst (v := (0 : Int32)) hx hb dX6_answerOf_223 (by decide) ?_
      exact x_iret hB hz hE dX6_answerOf_224
    have hE := (if_neg c19_19).symm.trans hE
    by_cases c19_20 : x1 = (20 : Int32)
    · have hE := (if_pos c19_20).symm.trans hE
      refine lv_tableIn (tgt := 157) hx hb dX6_answerOf_19 (by rw [c19_20]; decide) (by rw [c19_20]; decide) (by rw [c19_20]; rfl) (by decide) ?_
      refine lv_iload_n hx hb dX6_answerOf_157 rfl (lv_at hl 3 rfl) ?_
      exact x_iret hB hz hE dX6_answerOf_158
    have hE := (if_neg c19_20).symm.trans hE
    by_cases c19_21 : x1 = (21 : Int32)
    · have hE := (if_pos c19_21).symm.trans hE
      refine lv_tableIn (tgt := 159) hx hb dX6_answerOf_19 (by rw [c19_21]; decide) (by rw [c19_21]; decide) (by rw [c19_21]; rfl) (by decide) ?_
      refine lv_aload_n hx hb dX6_answerOf_159 rfl (lv_at hl 1 rfl) ?_
      refine lv_bipush (v := (20 : Int32)) hx hb dX6_answerOf_160 (by decide) ?_
      refine lv_iload_n hx hb dX6_answerOf_162 rfl (lv_at hl 3 rfl) ?_
      refine lv_iload hx hb dX6_answerOf_163 (lv_at hl 0 rfl) ?_
      obtain ⟨q165, hq165, hE⟩ := x_bind hE
      refine i_X6_320_L5 hB hz kdX_0 (c_X6_answerOf_L5 l g  hq165) ⟨(Nat.le_of_ble_eq_true rfl), (Nat.le_of_ble_eq_true rfl)⟩ hl.1 (Nat.le_of_ble_eq_true rfl) dX6_answerOf_165 (fun H locs hz => ?_)
      refine lv_aload_n hx hb dX6_answerOf_168 rfl (lv_at hl 1 rfl) ?_
      refine g_X6_25 hB hz kdX_0 dX6_answerOf_169 ?_
      refine lv_iload_n hx hb dX6_answerOf_172 rfl (lv_at hl 3 rfl) ?_
      obtain ⟨q173, hq173, hE⟩ := x_bind hE
      refine i_X6_245 hB hz kdX_4 (c_X3_ownCount l g kdX_4 hq173) ⟨(Nat.le_of_ble_eq_true rfl), (Nat.le_of_ble_eq_true rfl)⟩ hl.1 (Nat.le_of_ble_eq_true rfl) dX6_answerOf_173 (fun H locs hz => ?_)
      refine lv_iadd hx hb dX6_answerOf_176 ?_
      exact x_iret hB hz hE dX6_answerOf_177
    have hE := (if_neg c19_21).symm.trans hE
    by_cases c19_22 : x1 = (22 : Int32)
    · have hE := (if_pos c19_22).symm.trans hE
      refine lv_tableIn (tgt := 178) hx hb dX6_answerOf_19 (by rw [c19_22]; decide) (by rw [c19_22]; decide) (by rw [c19_22]; rfl) (by decide) ?_
      refine lv_aload_n hx hb dX6_answerOf_178 rfl (lv_at hl 1 rfl) ?_
      refine lv_bipush (v := (21 : Int32)) hx hb dX6_answerOf_179 (by decide) ?_
      refine lv_iload_n hx hb dX6_answerOf_181 rfl (lv_at hl 3 rfl) ?_
      refine lv_iload hx hb dX6_answerOf_182 (lv_at hl 0 rfl) ?_
      obtain ⟨q184, hq184, hE⟩ := x_bind hE
      refine i_X6_320_L5 hB hz kdX_0 (c_X6_answerOf_L5 l g  hq184) ⟨(Nat.le_of_ble_eq_true rfl), (Nat.le_of_ble_eq_true rfl)⟩ hl.1 (Nat.le_of_ble_eq_true rfl) dX6_answerOf_184 (fun H locs hz => ?_)
      refine lv_sipush (v := (1000 : Int32)) hx hb dX6_answerOf_187 (by decide) ?_
      refine lv_isub hx hb dX6_answerOf_190 ?_
      exact x_iret hB hz hE dX6_answerOf_191
    have hE := (if_neg c19_22).symm.trans hE
    by_cases c19_23 : x1 = (23 : Int32)
    · have hE := (if_pos c19_23).symm.trans hE
      refine lv_tableIn (tgt := 192) hx hb dX6_answerOf_19 (by rw [c19_23]; decide) (by rw [c19_23]; decide) (by rw [c19_23]; rfl) (by decide) ?_
      refine lv_aload_n hx hb dX6_answerOf_192 rfl (lv_at hl 1 rfl) ?_
      refine lv_bipush (v := (20 : Int32)) hx hb dX6_answerOf_193 (by decide) ?_
      refine lv_iload_n hx hb dX6_answerOf_195 rfl (lv_at hl 3 rfl) ?_
      refine lv_iload hx hb dX6_answerOf_196 (lv_at hl 0 rfl) ?_
      obtain ⟨q198, hq198, hE⟩ := x_bind hE
      refine i_X6_320_L5 hB hz kdX_0 (c_X6_answerOf_L5 l g  hq198) ⟨(Nat.le_of_ble_eq_true rfl), (Nat.le_of_ble_eq_true rfl)⟩ hl.1 (Nat.le_of_ble_eq_true rfl) dX6_answerOf_198 (fun H locs hz => ?_)
      refine lv_aload_n hx hb dX6_answerOf_201 rfl (lv_at hl 1 rfl) ?_
      refine lv_iconst (v := (0 : Int32)) hx hb dX6_answerOf_202 (by decide) ?_
      refine lv_iload_n hx hb dX6_answerOf_203 rfl (lv_at hl 3 rfl) ?_
      refine lv_iload hx hb dX6_answerOf_204 (lv_at hl 0 rfl) ?_
      obtain ⟨q206, hq206, hE⟩ := x_bind hE
      refine i_X6_295_L5 hB hz kdX_0 (c_X6_answerTo_L5 l g  hq206) ⟨(Nat.le_of_ble_eq_true rfl), (Nat.le_of_ble_eq_true rfl)⟩ hl.1 (Nat.le_of_ble_eq_true rfl) dX6_answerOf_206 (fun H locs hz => ?_)
      refine lv_isub hx hb dX6_answerOf_209 ?_
      exact x_iret hB hz hE dX6_answerOf_210
    have hE := (if_neg c19_23).symm.trans hE
    by_cases c19_24 : x1 = (24 : Int32)
    · have hE := (if_pos c19_24).symm.trans hE
      refine lv_tableIn (tgt := 211) hx hb dX6_answerOf_19 (by rw [c19_24]; decide) (by rw [c19_24]; decide) (by rw [c19_24]; rfl) (by decide) ?_
      refine lv_iconst (v := (2 : Int32)) hx hb dX6_answerOf_211 (by decide) ?_
      refine lv_aload_n hx hb dX6_answerOf_212 rfl (lv_at hl 1 rfl) ?_
      refine lv_bipush (v := (21 : Int32)) hx hb dX6_answerOf_213 (by decide) ?_
      refine lv_iload_n hx hb dX6_answerOf_215 rfl (lv_at hl 3 rfl) ?_
      refine lv_iload hx hb dX6_answerOf_216 (lv_at hl 0 rfl) ?_
      obtain ⟨q218, hq218, hE⟩ := x_bind hE
      refine i_X6_320_L5 hB hz kdX_0 (c_X6_answerOf_L5 l g  hq218) ⟨(Nat.le_of_ble_eq_true rfl), (Nat.le_of_ble_eq_true rfl)⟩ hl.1 (Nat.le_of_ble_eq_true rfl) dX6_answerOf_218 (fun H locs hz => ?_)
      refine lv_imul hx hb dX6_answerOf_221 ?_
      exact x_iret hB hz hE dX6_answerOf_222
    have hE := (if_neg c19_24).symm.trans hE
    have nc19_10 := x_nei c19_10 (k := 10) (by decide)
    have nc19_11 := x_nei c19_11 (k := 11) (by decide)
    have nc19_12 := x_nei c19_12 (k := 12) (by decide)
    have nc19_13 := x_nei c19_13 (k := 13) (by decide)
    have nc19_14 := x_nei c19_14 (k := 14) (by decide)
    have nc19_15 := x_nei c19_15 (k := 15) (by decide)
    have nc19_16 := x_nei c19_16 (k := 16) (by decide)
    have nc19_17 := x_nei c19_17 (k := 17) (by decide)
    have nc19_18 := x_nei c19_18 (k := 18) (by decide)
    have nc19_19 := x_nei c19_19 (k := 19) (by decide)
    have nc19_20 := x_nei c19_20 (k := 20) (by decide)
    have nc19_21 := x_nei c19_21 (k := 21) (by decide)
    have nc19_22 := x_nei c19_22 (k := 22) (by decide)
    have nc19_23 := x_nei c19_23 (k := 23) (by decide)
    have nc19_24 := x_nei c19_24 (k := 24) (by decide)
    refine lv_tableOut (tgt := 223) hx hb dX6_answerOf_19 (by omega) (by decide) ?_
    refine lv_iconst (v := (0 : Int32)) hx hb dX6_answerOf_223 (by decide) ?_
    exact x_iret hB hz hE dX6_answerOf_224
  · have hE := (if_neg c3).symm.trans hE
    refine lv_iconst (v := (0 : Int32)) hx hb dX6_answerOf_6 (by decide) ?_
    exact x_iret hB hz hE dX6_answerOf_7
theorem c_X6_answerOf_L6 (l : Launch) (g : GP) {x1 : Int32} {x2 : Int32} {x3 : Int32} {V : Mem} {o : Int32 × Mem} (hE : f_X6_answerOf_L6 x1 x2 x3 V = some o) : CT l g LX yX6_answerOf cX6_answerOf 5 (some .int) rm_X6_answerOf_L6 [.ref (ad g 0), .int x1, .int x2, .int x3] V (some (.int o.1)) o.2 := by
  refine ct_of (by decide) (Nat.le_of_ble_eq_true rfl) ?_
  intro p e s m args below meth c ls hB hz hl
  exact w_X6_answerOf_L6 hB _ _ _ _ _ _ _  hE hz hl
def rm_X6_answerTo_L6 : Room := { frames := 15, cells := 0, slots := 0, locals := 441 }
theorem i_X6_320_L6 {p : Program} {l : Launch} {e : Env} {R : Room} {s : State} {m : MethodId} {args : Array Value} {below : List Frame} {meth : Method} {c : Code} {H : Heap} {locs : List Loc} {Q : State → Prop} {cc : ByteArray} {pc : Nat} {ls : Array Slot} {rest : List Value} {g : GP} {V : Mem} {nL : Nat} {ret : Option FieldType} (hB : BX p s m args meth c g LX cc nL RX6 ret) (hz : OK g LX V s H locs) {i : Nat} (hk : KD LX i 5) {a0 : Int32} {a1 : Int32} {a2 : Int32} {r : Int32} {V1 : Mem} (hM : CT l g LX yX6_answerOf cX6_answerOf 5 (some .int) rm_X6_answerOf_L6 [.ref (ad g i), .int a0, .int a1, .int a2] V (some (.int r)) V1) (hR : rm_X6_answerOf_L6.frames + 1 ≤ R.frames ∧ 8 + (5 + 11) + rm_X6_answerOf_L6.locals ≤ R.locals) (hsz : ls.size = nL) (hrest : (rest.map fun v => v.category).sum ≤ 8) (hdg : decode cc pc = .ok (.invokevirtual 320, 3)) (kk : ∀ (H1 : Heap) (locs1 : List Loc), OK g LX V1 s H1 locs1 → W p l e R s m args below meth c H1 locs1 0 0 Q (F0 m (pc + 3) ls (.int r :: rest))) : W p l e R s m args below meth c H locs 0 0 Q (F0 m pc ls (.int a2 :: .int a1 :: .int a0 :: .ref (ad g i) :: rest)) :=
  x_cv (As := [.int a0, .int a1, .int a2]) (n := 3) (T := TX6) (N := 14) hB hz hM hk rfl rfl rfl rfl kw_695 kw_62 kw_692 kw_694 kw_20 (by decide +kernel) rfl hR hsz hrest hdg kk
set_option maxHeartbeats 4000000 in
set_option maxRecDepth 100000 in
theorem w_X6_answerTo_L6_63_t3 {p : Program} {l : Launch} {e : Env} {s : State} {m : MethodId} {args : Array Value} {below : List Frame} {meth : Method} {c : Code} {g : GP} (hB : BX p s m args meth c g LX cX6_answerTo 7 RX6 (some .int)) {o : Int32 × Mem} : ∀ (x2 : Int32) (x3 : Int32) (x5 : Int32) (V : Mem) (H : Heap) (locs : List Loc) (ls : Array Slot), f_X6_answerTo_L6_63_t3 x2 x3 x5 V = some o → OK g LX V s H locs → lv_has ls 7 [(0, .ref (ad g 0)), (2, .int x2), (3, .int x3), (4, .ref (sa g 3)), (5, .int x5)] → W p l e rm_X6_answerTo_L6 s m args below meth c H locs 0 0 (MQ below (QQ g LX (some (.int o.1)) o.2) args s 0 0 (Ar g LX)) (F0 m 63 ls []) := by
  obtain ⟨hx, hb, hml, hown, hT, hr, hlk, hK, hJ, hZ, hN⟩ := id hB
  intro x2 x3 x5 V H locs ls hE hz hl
  unfold f_X6_answerTo_L6_63_t3 at hE
  refine lv_aload_n hx hb dX6_answerTo_63 rfl (lv_at hl 0 rfl) ?_
  refine lv_aload hx hb dX6_answerTo_64 (lv_at hl 3 rfl) ?_
  refine lv_iload hx hb dX6_answerTo_66 (lv_at hl 4 rfl) ?_
  obtain ⟨hi68, hE⟩ := x_chk hE
  refine x_sti (k := 3) (by decide) rfl hB hz hi68 dX6_answerTo_68 ?_
  refine lv_iload_n hx hb dX6_answerTo_69 rfl (lv_at hl 1 rfl) ?_
  refine lv_iload_n hx hb dX6_answerTo_70 rfl (lv_at hl 2 rfl) ?_
  refine lv_iconst (v := (1 : Int32)) hx hb dX6_answerTo_71 (by decide) ?_
  refine lv_iadd hx hb dX6_answerTo_72 ?_
  obtain ⟨q73, hq73, hE⟩ := x_bind hE
  refine i_X6_320_L6 hB hz kdX_0 (c_X6_answerOf_L6 l g  hq73) ⟨(Nat.le_of_ble_eq_true rfl), (Nat.le_of_ble_eq_true rfl)⟩ hl.1 (Nat.le_of_ble_eq_true rfl) dX6_answerTo_73 (fun H locs hz => ?_)
  exact x_iret hB hz hE dX6_answerTo_76

set_option maxHeartbeats 4000000 in
set_option maxRecDepth 100000 in
theorem w_X6_answerTo_L6_29_t3 {p : Program} {l : Launch} {e : Env} {s : State} {m : MethodId} {args : Array Value} {below : List Frame} {meth : Method} {c : Code} {g : GP} (hB : BX p s m args meth c g LX cX6_answerTo 7 RX6 (some .int)) {o : Int32 × Mem} : ∀ (n : Nat), ∀ (x2 : Int32) (x3 : Int32) (x5 : Int32) (x6 : Int32) (V : Mem) (H : Heap) (locs : List Loc) (ls : Array Slot), f_X6_answerTo_L6_29_t3 n x2 x3 x5 x6 V = some o → OK g LX V s H locs → lv_has ls 7 [(0, .ref (ad g 0)), (2, .int x2), (3, .int x3), (4, .ref (sa g 3)), (5, .int x5), (6, .int x6)] → W p l e rm_X6_answerTo_L6 s m args below meth c H locs 0 0 (MQ below (QQ g LX (some (.int o.1)) o.2) args s 0 0 (Ar g LX)) (F0 m 29 ls []) := by
  obtain ⟨hx, hb, hml, hown, hT, hr, hlk, hK, hJ, hZ, hN⟩ := id hB
  intro n
  induction n with
  | zero =>
    intro x2 x3 x5 x6 V H locs ls hE hz hl
    exact absurd (show (none : Option (Int32 × Mem)) = some o from hE) (by simp)
  | succ n ih =>
    intro x2 x3 x5 x6 V H locs ls hE hz hl
    unfold f_X6_answerTo_L6_29_t3 at hE
    refine lv_iload hx hb dX6_answerTo_29 (lv_at hl 5 rfl) ?_
    refine lv_bipush (v := (6 : Int32)) hx hb dX6_answerTo_31 (by decide) ?_
    refine lv_icmp_ge (tgt := 63) hx hb dX6_answerTo_33 (by decide) (fun c33 => ?_) (fun c33 => ?_)
    · have hE := (if_pos c33).symm.trans hE
      exact w_X6_answerTo_L6_63_t3 hB  _ _ _ _ _ _ _  hE hz (lv_sub hl [0, 1, 2, 3, 4] rfl)
    · have hE := (if_neg c33).symm.trans hE
      refine lv_iload hx hb dX6_answerTo_36 (lv_at hl 4 rfl) ?_
      refine lv_if_eq (tgt := 63) hx hb dX6_answerTo_38 (by decide) (fun c38 => ?_) (fun c38 => ?_)
      · have hE := (if_pos c38).symm.trans hE
        exact w_X6_answerTo_L6_63_t3 hB  _ _ _ _ _ _ _  hE hz (lv_sub hl [0, 1, 2, 3, 4] rfl)
      · have hE := (if_neg c38).symm.trans hE
        refine lv_aload hx hb dX6_answerTo_41 (lv_at hl 3 rfl) ?_
        refine lv_iload hx hb dX6_answerTo_43 (lv_at hl 4 rfl) ?_
        obtain ⟨hi45, hE⟩ := x_chk hE
        refine x_sti (k := 3) (by decide) rfl hB hz hi45 dX6_answerTo_45 ?_
        refine lv_if_ne (tgt := 63) hx hb dX6_answerTo_46 (by decide) (fun c46 => ?_) (fun c46 => ?_)
        · have hE := (if_neg c46).symm.trans hE
          exact w_X6_answerTo_L6_63_t3 hB  _ _ _ _ _ _ _  hE hz (lv_sub hl [0, 1, 2, 3, 4] rfl)
        · have hE := (if_pos c46).symm.trans hE
          refine x_gst (k := 0) (by decide) hB hz kw_678 dX6_answerTo_49 ?_
          refine lv_iload hx hb dX6_answerTo_52 (lv_at hl 4 rfl) ?_
          obtain ⟨hi54, hE⟩ := x_chk hE
          refine x_sti (k := 0) (by decide) rfl hB hz hi54 dX6_answerTo_54 ?_
          refine lv_istore (lv' := [(5, .int (tba 0 (x5).toNatClampNeg)), (0, .ref (ad g 0)), (2, .int x2), (3, .int x3), (4, .ref (sa g 3)), (6, .int x6)]) hx hb dX6_answerTo_55 hl (by decide) rfl (fun ls hl => ?_)
          refine lv_iinc (v := (x6 + 1)) (lv' := [(6, .int (x6 + 1)), (5, .int (tba 0 (x5).toNatClampNeg)), (0, .ref (ad g 0)), (2, .int x2), (3, .int x3), (4, .ref (sa g 3))]) hx hb dX6_answerTo_57 hl (k := 5) rfl rfl (by decide) rfl (fun ls hl => ?_)
          refine lv_goto (tgt := 29) hx hb dX6_answerTo_60 (by decide) ?_
          exact ih _ _ _ _ _ _ _ _  hE hz (lv_sub hl [2, 3, 4, 5, 1, 0] rfl)

set_option maxHeartbeats 4000000 in
set_option maxRecDepth 100000 in
theorem w_X6_answerTo_L6_13_u3 {p : Program} {l : Launch} {e : Env} {s : State} {m : MethodId} {args : Array Value} {below : List Frame} {meth : Method} {c : Code} {g : GP} (hB : BX p s m args meth c g LX cX6_answerTo 7 RX6 (some .int)) {o : Int32 × Mem} : ∀ (x2 : Int32) (x3 : Int32) (V : Mem) (H : Heap) (locs : List Loc) (ls : Array Slot), f_X6_answerTo_L6_13_u3 x2 x3 V = some o → OK g LX V s H locs → lv_has ls 7 [(0, .ref (ad g 0)), (2, .int x2), (3, .int x3)] → W p l e rm_X6_answerTo_L6 s m args below meth c H locs 0 0 (MQ below (QQ g LX (some (.int o.1)) o.2) args s 0 0 (Ar g LX)) (F0 m 13 ls [.ref (sa g 3)]) := by
  obtain ⟨hx, hb, hml, hown, hT, hr, hlk, hK, hJ, hZ, hN⟩ := id hB
  intro x2 x3 V H locs ls hE hz hl
  unfold f_X6_answerTo_L6_13_u3 at hE
  refine lv_astore (lv' := [(4, .ref (sa g 3)), (0, .ref (ad g 0)), (2, .int x2), (3, .int x3)]) hx hb dX6_answerTo_13 hl (by decide) rfl (fun ls hl => ?_)
  refine lv_aload_n hx hb dX6_answerTo_15 rfl (lv_at hl 1 rfl) ?_
  refine g_X6_25 hB hz kdX_0 dX6_answerTo_16 ?_
  refine g_X6_183 hB hz kdX_4 dX6_answerTo_19 ?_
  refine lv_iload_n hx hb dX6_answerTo_22 rfl (lv_at hl 2 rfl) ?_
  obtain ⟨hi23, hE⟩ := x_chk hE
  refine x_iald (n := 24) hB hz kdX_6 hi23 dX6_answerTo_23 ?_
  refine lv_istore (lv' := [(5, .int (V 6 (x2).toNatClampNeg)), (4, .ref (sa g 3)), (0, .ref (ad g 0)), (2, .int x2), (3, .int x3)]) hx hb dX6_answerTo_24 hl (by decide) rfl (fun ls hl => ?_)
  refine lv_iconst (v := (0 : Int32)) hx hb dX6_answerTo_26 (by decide) ?_
  refine lv_istore (lv' := [(6, .int (0 : Int32)), (5, .int (V 6 (x2).toNatClampNeg)), (4, .ref (sa g 3)), (0, .ref (ad g 0)), (2, .int x2), (3, .int x3)]) hx hb dX6_answerTo_27 hl (by decide) rfl (fun ls hl => ?_)
  exact w_X6_answerTo_L6_29_t3 hB  _ _ _ _ _ _ _ _ _  hE hz (lv_sub hl [3, 4, 5, 2, 1, 0] rfl)

set_option maxHeartbeats 4000000 in
set_option maxRecDepth 100000 in
theorem w_X6_answerTo_L6_63_t2 {p : Program} {l : Launch} {e : Env} {s : State} {m : MethodId} {args : Array Value} {below : List Frame} {meth : Method} {c : Code} {g : GP} (hB : BX p s m args meth c g LX cX6_answerTo 7 RX6 (some .int)) {o : Int32 × Mem} : ∀ (x2 : Int32) (x3 : Int32) (x5 : Int32) (V : Mem) (H : Heap) (locs : List Loc) (ls : Array Slot), f_X6_answerTo_L6_63_t2 x2 x3 x5 V = some o → OK g LX V s H locs → lv_has ls 7 [(0, .ref (ad g 0)), (2, .int x2), (3, .int x3), (4, .ref (sa g 2)), (5, .int x5)] → W p l e rm_X6_answerTo_L6 s m args below meth c H locs 0 0 (MQ below (QQ g LX (some (.int o.1)) o.2) args s 0 0 (Ar g LX)) (F0 m 63 ls []) := by
  obtain ⟨hx, hb, hml, hown, hT, hr, hlk, hK, hJ, hZ, hN⟩ := id hB
  intro x2 x3 x5 V H locs ls hE hz hl
  unfold f_X6_answerTo_L6_63_t2 at hE
  refine lv_aload_n hx hb dX6_answerTo_63 rfl (lv_at hl 0 rfl) ?_
  refine lv_aload hx hb dX6_answerTo_64 (lv_at hl 3 rfl) ?_
  refine lv_iload hx hb dX6_answerTo_66 (lv_at hl 4 rfl) ?_
  obtain ⟨hi68, hE⟩ := x_chk hE
  refine x_sti (k := 2) (by decide) rfl hB hz hi68 dX6_answerTo_68 ?_
  refine lv_iload_n hx hb dX6_answerTo_69 rfl (lv_at hl 1 rfl) ?_
  refine lv_iload_n hx hb dX6_answerTo_70 rfl (lv_at hl 2 rfl) ?_
  refine lv_iconst (v := (1 : Int32)) hx hb dX6_answerTo_71 (by decide) ?_
  refine lv_iadd hx hb dX6_answerTo_72 ?_
  obtain ⟨q73, hq73, hE⟩ := x_bind hE
  refine i_X6_320_L6 hB hz kdX_0 (c_X6_answerOf_L6 l g  hq73) ⟨(Nat.le_of_ble_eq_true rfl), (Nat.le_of_ble_eq_true rfl)⟩ hl.1 (Nat.le_of_ble_eq_true rfl) dX6_answerTo_73 (fun H locs hz => ?_)
  exact x_iret hB hz hE dX6_answerTo_76

set_option maxHeartbeats 4000000 in
set_option maxRecDepth 100000 in
theorem w_X6_answerTo_L6_29_t2 {p : Program} {l : Launch} {e : Env} {s : State} {m : MethodId} {args : Array Value} {below : List Frame} {meth : Method} {c : Code} {g : GP} (hB : BX p s m args meth c g LX cX6_answerTo 7 RX6 (some .int)) {o : Int32 × Mem} : ∀ (n : Nat), ∀ (x2 : Int32) (x3 : Int32) (x5 : Int32) (x6 : Int32) (V : Mem) (H : Heap) (locs : List Loc) (ls : Array Slot), f_X6_answerTo_L6_29_t2 n x2 x3 x5 x6 V = some o → OK g LX V s H locs → lv_has ls 7 [(0, .ref (ad g 0)), (2, .int x2), (3, .int x3), (4, .ref (sa g 2)), (5, .int x5), (6, .int x6)] → W p l e rm_X6_answerTo_L6 s m args below meth c H locs 0 0 (MQ below (QQ g LX (some (.int o.1)) o.2) args s 0 0 (Ar g LX)) (F0 m 29 ls []) := by
  obtain ⟨hx, hb, hml, hown, hT, hr, hlk, hK, hJ, hZ, hN⟩ := id hB
  intro n
  induction n with
  | zero =>
    intro x2 x3 x5 x6 V H locs ls hE hz hl
    exact absurd (show (none : Option (Int32 × Mem)) = some o from hE) (by simp)
  | succ n ih =>
    intro x2 x3 x5 x6 V H locs ls hE hz hl
    unfold f_X6_answerTo_L6_29_t2 at hE
    refine lv_iload hx hb dX6_answerTo_29 (lv_at hl 5 rfl) ?_
    refine lv_bipush (v := (6 : Int32)) hx hb dX6_answerTo_31 (by decide) ?_
    refine lv_icmp_ge (tgt := 63) hx hb dX6_answerTo_33 (by decide) (fun c33 => ?_) (fun c33 => ?_)
    · have hE := (if_pos c33).symm.trans hE
      exact w_X6_answerTo_L6_63_t2 hB  _ _ _ _ _ _ _  hE hz (lv_sub hl [0, 1, 2, 3, 4] rfl)
    · have hE := (if_neg c33).symm.trans hE
      refine lv_iload hx hb dX6_answerTo_36 (lv_at hl 4 rfl) ?_
      refine lv_if_eq (tgt := 63) hx hb dX6_answerTo_38 (by decide) (fun c38 => ?_) (fun c38 => ?_)
      · have hE := (if_pos c38).symm.trans hE
        exact w_X6_answerTo_L6_63_t2 hB  _ _ _ _ _ _ _  hE hz (lv_sub hl [0, 1, 2, 3, 4] rfl)
      · have hE := (if_neg c38).symm.trans hE
        refine lv_aload hx hb dX6_answerTo_41 (lv_at hl 3 rfl) ?_
        refine lv_iload hx hb dX6_answerTo_43 (lv_at hl 4 rfl) ?_
        obtain ⟨hi45, hE⟩ := x_chk hE
        refine x_sti (k := 2) (by decide) rfl hB hz hi45 dX6_answerTo_45 ?_
        refine lv_if_ne (tgt := 63) hx hb dX6_answerTo_46 (by decide) (fun c46 => ?_) (fun c46 => ?_)
        · have hE := (if_neg c46).symm.trans hE
          exact w_X6_answerTo_L6_63_t2 hB  _ _ _ _ _ _ _  hE hz (lv_sub hl [0, 1, 2, 3, 4] rfl)
        · have hE := (if_pos c46).symm.trans hE
          refine x_gst (k := 0) (by decide) hB hz kw_678 dX6_answerTo_49 ?_
          refine lv_iload hx hb dX6_answerTo_52 (lv_at hl 4 rfl) ?_
          obtain ⟨hi54, hE⟩ := x_chk hE
          refine x_sti (k := 0) (by decide) rfl hB hz hi54 dX6_answerTo_54 ?_
          refine lv_istore (lv' := [(5, .int (tba 0 (x5).toNatClampNeg)), (0, .ref (ad g 0)), (2, .int x2), (3, .int x3), (4, .ref (sa g 2)), (6, .int x6)]) hx hb dX6_answerTo_55 hl (by decide) rfl (fun ls hl => ?_)
          refine lv_iinc (v := (x6 + 1)) (lv' := [(6, .int (x6 + 1)), (5, .int (tba 0 (x5).toNatClampNeg)), (0, .ref (ad g 0)), (2, .int x2), (3, .int x3), (4, .ref (sa g 2))]) hx hb dX6_answerTo_57 hl (k := 5) rfl rfl (by decide) rfl (fun ls hl => ?_)
          refine lv_goto (tgt := 29) hx hb dX6_answerTo_60 (by decide) ?_
          exact ih _ _ _ _ _ _ _ _  hE hz (lv_sub hl [2, 3, 4, 5, 1, 0] rfl)

set_option maxHeartbeats 4000000 in
set_option maxRecDepth 100000 in
theorem w_X6_answerTo_L6_13_u2 {p : Program} {l : Launch} {e : Env} {s : State} {m : MethodId} {args : Array Value} {below : List Frame} {meth : Method} {c : Code} {g : GP} (hB : BX p s m args meth c g LX cX6_answerTo 7 RX6 (some .int)) {o : Int32 × Mem} : ∀ (x2 : Int32) (x3 : Int32) (V : Mem) (H : Heap) (locs : List Loc) (ls : Array Slot), f_X6_answerTo_L6_13_u2 x2 x3 V = some o → OK g LX V s H locs → lv_has ls 7 [(0, .ref (ad g 0)), (2, .int x2), (3, .int x3)] → W p l e rm_X6_answerTo_L6 s m args below meth c H locs 0 0 (MQ below (QQ g LX (some (.int o.1)) o.2) args s 0 0 (Ar g LX)) (F0 m 13 ls [.ref (sa g 2)]) := by
  obtain ⟨hx, hb, hml, hown, hT, hr, hlk, hK, hJ, hZ, hN⟩ := id hB
  intro x2 x3 V H locs ls hE hz hl
  unfold f_X6_answerTo_L6_13_u2 at hE
  refine lv_astore (lv' := [(4, .ref (sa g 2)), (0, .ref (ad g 0)), (2, .int x2), (3, .int x3)]) hx hb dX6_answerTo_13 hl (by decide) rfl (fun ls hl => ?_)
  refine lv_aload_n hx hb dX6_answerTo_15 rfl (lv_at hl 1 rfl) ?_
  refine g_X6_25 hB hz kdX_0 dX6_answerTo_16 ?_
  refine g_X6_183 hB hz kdX_4 dX6_answerTo_19 ?_
  refine lv_iload_n hx hb dX6_answerTo_22 rfl (lv_at hl 2 rfl) ?_
  obtain ⟨hi23, hE⟩ := x_chk hE
  refine x_iald (n := 24) hB hz kdX_6 hi23 dX6_answerTo_23 ?_
  refine lv_istore (lv' := [(5, .int (V 6 (x2).toNatClampNeg)), (4, .ref (sa g 2)), (0, .ref (ad g 0)), (2, .int x2), (3, .int x3)]) hx hb dX6_answerTo_24 hl (by decide) rfl (fun ls hl => ?_)
  refine lv_iconst (v := (0 : Int32)) hx hb dX6_answerTo_26 (by decide) ?_
  refine lv_istore (lv' := [(6, .int (0 : Int32)), (5, .int (V 6 (x2).toNatClampNeg)), (4, .ref (sa g 2)), (0, .ref (ad g 0)), (2, .int x2), (3, .int x3)]) hx hb dX6_answerTo_27 hl (by decide) rfl (fun ls hl => ?_)
  exact w_X6_answerTo_L6_29_t2 hB  _ _ _ _ _ _ _ _ _  hE hz (lv_sub hl [3, 4, 5, 2, 1, 0] rfl)

set_option maxHeartbeats 4000000 in
set_option maxRecDepth 100000 in
theorem w_X6_answerTo_L6 {p : Program} {l : Launch} {e : Env} {s : State} {m : MethodId} {args : Array Value} {below : List Frame} {meth : Method} {c : Code} {g : GP} (hB : BX p s m args meth c g LX cX6_answerTo 7 RX6 (some .int)) {o : Int32 × Mem} : ∀ (x1 : Int32) (x2 : Int32) (x3 : Int32) (V : Mem) (H : Heap) (locs : List Loc) (ls : Array Slot), f_X6_answerTo_L6 x1 x2 x3 V = some o → OK g LX V s H locs → lv_has ls 7 [(0, .ref (ad g 0)), (1, .int x1), (2, .int x2), (3, .int x3)] → W p l e rm_X6_answerTo_L6 s m args below meth c H locs 0 0 (MQ below (QQ g LX (some (.int o.1)) o.2) args s 0 0 (Ar g LX)) (F0 m 0 ls []) := by
  obtain ⟨hx, hb, hml, hown, hT, hr, hlk, hK, hJ, hZ, hN⟩ := id hB
  intro x1 x2 x3 V H locs ls hE hz hl
  unfold f_X6_answerTo_L6 at hE
  refine lv_iload_n hx hb dX6_answerTo_0 rfl (lv_at hl 1 rfl) ?_
  refine lv_if_ne (tgt := 10) hx hb dX6_answerTo_1 (by decide) (fun c1 => ?_) (fun c1 => ?_)
  · have hE := (if_neg c1).symm.trans hE
    refine x_gst (k := 3) (by decide) hB hz kw_690 dX6_answerTo_10 ?_
    exact w_X6_answerTo_L6_13_u3 hB  _ _ _ _ _ _  hE hz (lv_sub hl [0, 2, 3] rfl)
  · have hE := (if_pos c1).symm.trans hE
    refine x_gst (k := 2) (by decide) hB hz kw_688 dX6_answerTo_4 ?_
    refine lv_goto (tgt := 13) hx hb dX6_answerTo_7 (by decide) ?_
    exact w_X6_answerTo_L6_13_u2 hB  _ _ _ _ _ _  hE hz (lv_sub hl [0, 2, 3] rfl)
theorem c_X6_answerTo_L6 (l : Launch) (g : GP) {x1 : Int32} {x2 : Int32} {x3 : Int32} {V : Mem} {o : Int32 × Mem} (hE : f_X6_answerTo_L6 x1 x2 x3 V = some o) : CT l g LX yX6_answerTo cX6_answerTo 7 (some .int) rm_X6_answerTo_L6 [.ref (ad g 0), .int x1, .int x2, .int x3] V (some (.int o.1)) o.2 := by
  refine ct_of (by decide) (Nat.le_of_ble_eq_true rfl) ?_
  intro p e s m args below meth c ls hB hz hl
  exact w_X6_answerTo_L6 hB _ _ _ _ _ _ _  hE hz hl
def rm_X6_ask : Room := { frames := 16, cells := 0, slots := 0, locals := 467 }
theorem i_X6_295_L6 {p : Program} {l : Launch} {e : Env} {R : Room} {s : State} {m : MethodId} {args : Array Value} {below : List Frame} {meth : Method} {c : Code} {H : Heap} {locs : List Loc} {Q : State → Prop} {cc : ByteArray} {pc : Nat} {ls : Array Slot} {rest : List Value} {g : GP} {V : Mem} {nL : Nat} {ret : Option FieldType} (hB : BX p s m args meth c g LX cc nL RX6 ret) (hz : OK g LX V s H locs) {i : Nat} (hk : KD LX i 5) {a0 : Int32} {a1 : Int32} {a2 : Int32} {r : Int32} {V1 : Mem} (hM : CT l g LX yX6_answerTo cX6_answerTo 7 (some .int) rm_X6_answerTo_L6 [.ref (ad g i), .int a0, .int a1, .int a2] V (some (.int r)) V1) (hR : rm_X6_answerTo_L6.frames + 1 ≤ R.frames ∧ 8 + (7 + 11) + rm_X6_answerTo_L6.locals ≤ R.locals) (hsz : ls.size = nL) (hrest : (rest.map fun v => v.category).sum ≤ 8) (hdg : decode cc pc = .ok (.invokevirtual 295, 3)) (kk : ∀ (H1 : Heap) (locs1 : List Loc), OK g LX V1 s H1 locs1 → W p l e R s m args below meth c H1 locs1 0 0 Q (F0 m (pc + 3) ls (.int r :: rest))) : W p l e R s m args below meth c H locs 0 0 Q (F0 m pc ls (.int a2 :: .int a1 :: .int a0 :: .ref (ad g i) :: rest)) :=
  x_cv (As := [.int a0, .int a1, .int a2]) (n := 3) (T := TX6) (N := 14) hB hz hM hk rfl rfl rfl rfl kw_687 kw_62 kw_684 kw_686 kw_19 (by decide +kernel) rfl hR hsz hrest hdg kk
set_option maxHeartbeats 4000000 in
set_option maxRecDepth 100000 in
theorem w_X6_ask {p : Program} {l : Launch} {e : Env} {s : State} {m : MethodId} {args : Array Value} {below : List Frame} {meth : Method} {c : Code} {g : GP} (hB : BX p s m args meth c g LX cX6_ask 3 RX6 (some .int)) {o : Int32 × Mem} : ∀ (x1 : Int32) (x2 : Int32) (V : Mem) (H : Heap) (locs : List Loc) (ls : Array Slot), f_X6_ask x1 x2 V = some o → OK g LX V s H locs → lv_has ls 3 [(0, .ref (ad g 0)), (1, .int x1), (2, .int x2)] → W p l e rm_X6_ask s m args below meth c H locs 0 0 (MQ below (QQ g LX (some (.int o.1)) o.2) args s 0 0 (Ar g LX)) (F0 m 0 ls []) := by
  obtain ⟨hx, hb, hml, hown, hT, hr, hlk, hK, hJ, hZ, hN⟩ := id hB
  intro x1 x2 V H locs ls hE hz hl
  unfold f_X6_ask at hE
  refine lv_aload_n hx hb dX6_ask_0 rfl (lv_at hl 0 rfl) ?_
  refine g_X6_25 hB hz kdX_0 dX6_ask_1 ?_
  refine lv_iload_n hx hb dX6_ask_4 rfl (lv_at hl 1 rfl) ?_
  obtain ⟨q5, hq5, hE⟩ := x_bind hE
  refine i_X6_166 hB hz kdX_4 (c_X3_has l g kdX_4 hq5) ⟨(Nat.le_of_ble_eq_true rfl), (Nat.le_of_ble_eq_true rfl)⟩ hl.1 (Nat.le_of_ble_eq_true rfl) dX6_ask_5 (fun H locs hz => ?_)
  refine lv_if_eq (tgt := 20) hx hb dX6_ask_8 (by decide) (fun c8 => ?_) (fun c8 => ?_)
  · have hE := (if_pos c8).symm.trans hE
    refine lv_ldc (v := (-1000001 : Int32)) hx hb hown (hT _ kw_264) dX6_ask_20 ?_
    exact x_iret hB hz hE dX6_ask_22
  · have hE := (if_neg c8).symm.trans hE
    refine lv_iload_n hx hb dX6_ask_11 rfl (lv_at hl 2 rfl) ?_
    refine lv_iconst (v := (0 : Int32)) hx hb dX6_ask_12 (by decide) ?_
    refine lv_iconst (v := (1 : Int32)) hx hb dX6_ask_13 (by decide) ?_
    obtain ⟨q14, hq14, hE⟩ := x_bind hE
    refine i_X6_79 hB hz (c_X6_isBetween l g  hq14) ⟨(Nat.le_of_ble_eq_true rfl), (Nat.le_of_ble_eq_true rfl)⟩ hl.1 (Nat.le_of_ble_eq_true rfl) dX6_ask_14 (fun H locs hz => ?_)
    refine lv_if_ne (tgt := 23) hx hb dX6_ask_17 (by decide) (fun c17 => ?_) (fun c17 => ?_)
    · have hE := (if_neg c17).symm.trans hE
      refine lv_aload_n hx hb dX6_ask_23 rfl (lv_at hl 0 rfl) ?_
      refine lv_iconst (v := (0 : Int32)) hx hb dX6_ask_24 (by decide) ?_
      refine p_X6_64 hB hz kdX_0 dX6_ask_25 (fun H locs hz => ?_)
      refine lv_aload_n hx hb dX6_ask_28 rfl (lv_at hl 0 rfl) ?_
      refine lv_iload_n hx hb dX6_ask_29 rfl (lv_at hl 2 rfl) ?_
      refine lv_iload_n hx hb dX6_ask_30 rfl (lv_at hl 1 rfl) ?_
      refine lv_iconst (v := (0 : Int32)) hx hb dX6_ask_31 (by decide) ?_
      obtain ⟨q32, hq32, hE⟩ := x_bind hE
      refine i_X6_295_L6 hB hz kdX_0 (c_X6_answerTo_L6 l g  hq32) ⟨(Nat.le_of_ble_eq_true rfl), (Nat.le_of_ble_eq_true rfl)⟩ hl.1 (Nat.le_of_ble_eq_true rfl) dX6_ask_32 (fun H locs hz => ?_)
      exact x_iret hB hz hE dX6_ask_35
    · have hE := (if_pos c17).symm.trans hE
      refine lv_ldc (v := (-1000001 : Int32)) hx hb hown (hT _ kw_264) dX6_ask_20 ?_
      exact x_iret hB hz hE dX6_ask_22
theorem c_X6_ask (l : Launch) (g : GP) {x1 : Int32} {x2 : Int32} {V : Mem} {o : Int32 × Mem} (hE : f_X6_ask x1 x2 V = some o) : CT l g LX yX6_ask cX6_ask 3 (some .int) rm_X6_ask [.ref (ad g 0), .int x1, .int x2] V (some (.int o.1)) o.2 := by
  refine ct_of (by decide) (Nat.le_of_ble_eq_true rfl) ?_
  intro p e s m args below meth c ls hB hz hl
  exact w_X6_ask hB _ _ _ _ _ _  hE hz hl

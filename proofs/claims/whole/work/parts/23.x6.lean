def rm_X6_drawn : Room := { frames := 4, cells := 0, slots := 0, locals := 174 }
theorem i_X6_288 {p : Program} {l : Launch} {e : Env} {R : Room} {s : State} {m : MethodId} {args : Array Value} {below : List Frame} {meth : Method} {c : Code} {H : Heap} {locs : List Loc} {Q : State → Prop} {cc : ByteArray} {pc : Nat} {ls : Array Slot} {rest : List Value} {g : GP} {V : Mem} {nL : Nat} {ret : Option FieldType} (hB : BX p s m args meth c g LX cc nL RX6 ret) (hz : OK g LX V s H locs) {i : Nat} (hk : KD LX i 2) {r : Int32} {V1 : Mem} (hM : CT l g LX yX3_lastCounts cX3_lastCounts 4 (some .int) rm_X3_lastCounts [.ref (ad g i)] V (some (.int r)) V1) (hR : rm_X3_lastCounts.frames + 1 ≤ R.frames ∧ 8 + (4 + 11) + rm_X3_lastCounts.locals ≤ R.locals) (hsz : ls.size = nL) (hrest : (rest.map fun v => v.category).sum ≤ 8) (hdg : decode cc pc = .ok (.invokevirtual 288, 3)) (kk : ∀ (H1 : Heap) (locs1 : List Loc), OK g LX V1 s H1 locs1 → W p l e R s m args below meth c H1 locs1 0 0 Q (F0 m (pc + 3) ls (.int r :: rest))) : W p l e R s m args below meth c H locs 0 0 Q (F0 m pc ls (.ref (ad g i) :: rest)) :=
  x_cv (As := []) (n := 0) (T := TX3) (N := 7) hB hz hM hk rfl rfl rfl rfl kw_661 kw_64 kw_658 kw_659 kw_660 (by decide +kernel) rfl hR hsz hrest hdg kk
theorem i_X6_284 {p : Program} {l : Launch} {e : Env} {R : Room} {s : State} {m : MethodId} {args : Array Value} {below : List Frame} {meth : Method} {c : Code} {H : Heap} {locs : List Loc} {Q : State → Prop} {cc : ByteArray} {pc : Nat} {ls : Array Slot} {rest : List Value} {g : GP} {V : Mem} {nL : Nat} {ret : Option FieldType} (hB : BX p s m args meth c g LX cc nL RX6 ret) (hz : OK g LX V s H locs) {i : Nat} (hk : KD LX i 2) {a0 : Int64} {V1 : Mem} (hM : CT l g LX yX3_editBy cX3_editBy 7 none rm_X3_editBy [.ref (ad g i), .long a0] V none V1) (hR : rm_X3_editBy.frames + 1 ≤ R.frames ∧ 8 + (7 + 11) + rm_X3_editBy.locals ≤ R.locals) (hsz : ls.size = nL) (hrest : (rest.map fun v => v.category).sum ≤ 8) (hdg : decode cc pc = .ok (.invokevirtual 284, 3)) (kk : ∀ (H1 : Heap) (locs1 : List Loc), OK g LX V1 s H1 locs1 → W p l e R s m args below meth c H1 locs1 0 0 Q (F0 m (pc + 3) ls (rest))) : W p l e R s m args below meth c H locs 0 0 Q (F0 m pc ls (.long a0 :: .ref (ad g i) :: rest)) :=
  x_cv (As := [.long a0]) (n := 1) (T := TX3) (N := 7) hB hz hM hk rfl rfl rfl rfl kw_649 kw_64 kw_646 kw_647 kw_648 (by decide +kernel) rfl hR hsz hrest hdg kk
set_option maxHeartbeats 4000000 in
set_option maxRecDepth 100000 in
theorem w_X6_drawn_64 {p : Program} {l : Launch} {e : Env} {s : State} {m : MethodId} {args : Array Value} {below : List Frame} {meth : Method} {c : Code} {g : GP} (hB : BX p s m args meth c g LX cX6_drawn 7 RX6 (some .int)) {o : Int32 × Mem} : ∀ (n : Nat), ∀ (x1 : Int32) (x3 : Int32) (x4 : Int64) (x6 : Int32) (V : Mem) (H : Heap) (locs : List Loc) (ls : Array Slot), f_X6_drawn_64 n x1 x3 x4 x6 V = some o → OK g LX V s H locs → lv_has ls 7 [(0, .ref (ad g 0)), (1, .int x1), (3, .int x3), (4, .long x4), (6, .int x6)] → W p l e rm_X6_drawn s m args below meth c H locs 0 0 (MQ below (QQ g LX (some (.int o.1)) o.2) args s 0 0 (Ar g LX)) (F0 m 64 ls []) := by
  obtain ⟨hx, hb, hml, hown, hT, hr, hlk, hK, hJ, hZ, hN⟩ := id hB
  intro n
  induction n with
  | zero =>
    intro x1 x3 x4 x6 V H locs ls hE hz hl
    exact absurd (show (none : Option (Int32 × Mem)) = some o from hE) (by simp)
  | succ n ih =>
    intro x1 x3 x4 x6 V H locs ls hE hz hl
    unfold f_X6_drawn_64 at hE
    refine lv_iload hx hb dX6_drawn_64 (lv_at hl 4 rfl) ?_
    refine lv_iload_n hx hb dX6_drawn_66 rfl (lv_at hl 1 rfl) ?_
    refine lv_icmp_ge (tgt := 97) hx hb dX6_drawn_67 (by decide) (fun c67 => ?_) (fun c67 => ?_)
    · have hE := (if_pos c67).symm.trans hE
      refine lv_iload_n hx hb dX6_drawn_97 rfl (lv_at hl 2 rfl) ?_
      refine lv_if_ne (tgt := 111) hx hb dX6_drawn_98 (by decide) (fun c98 => ?_) (fun c98 => ?_)
      · have hE := (if_neg c98).symm.trans hE
        refine lv_aload_n hx hb dX6_drawn_111 rfl (lv_at hl 0 rfl) ?_
        refine g_X6_29 hB hz kdX_0 dX6_drawn_112 ?_
        obtain ⟨q115, hq115, hE⟩ := x_bind hE
        refine i_X6_288 hB hz kdX_35 (c_X3_lastCounts l g kdX_35 hq115) ⟨(Nat.le_of_ble_eq_true rfl), (Nat.le_of_ble_eq_true rfl)⟩ hl.1 (Nat.le_of_ble_eq_true rfl) dX6_drawn_115 (fun H locs hz => ?_)
        exact x_iret hB hz hE dX6_drawn_118
      · have hE := (if_pos c98).symm.trans hE
        refine lv_aload_n hx hb dX6_drawn_101 rfl (lv_at hl 0 rfl) ?_
        refine g_X6_29 hB hz kdX_0 dX6_drawn_102 ?_
        refine g_X6_146 hB hz kdX_35 dX6_drawn_105 ?_
        refine lv_goto (tgt := 118) hx hb dX6_drawn_108 (by decide) ?_
        exact x_iret hB hz hE dX6_drawn_118
    · have hE := (if_neg c67).symm.trans hE
      refine lv_lload hx hb dX6_drawn_70 (lv_at hl 3 rfl) ?_
      refine lv_ldc2 (v := (16807 : Int64)) hx hb hown (hT _ kw_644) dX6_drawn_72 ?_
      refine lv_lmul hx hb dX6_drawn_75 ?_
      refine lv_ldc2 (v := (2147483647 : Int64)) hx hb hown (hT _ kw_645) dX6_drawn_76 ?_
      refine lv_lrem hx hb dX6_drawn_79 (by decide) ?_
      refine lv_lstore (lv' := [(4, .long ((x4 * (16807 : Int64)) - ((x4 * (16807 : Int64)) / (2147483647 : Int64)) * (2147483647 : Int64))), (0, .ref (ad g 0)), (1, .int x1), (3, .int x3), (6, .int x6)]) hx hb dX6_drawn_80 hl (by decide) rfl (fun ls hl => ?_)
      refine lv_aload_n hx hb dX6_drawn_82 rfl (lv_at hl 1 rfl) ?_
      refine g_X6_29 hB hz kdX_0 dX6_drawn_83 ?_
      refine lv_lload hx hb dX6_drawn_86 (lv_at hl 0 rfl) ?_
      obtain ⟨q88, hq88, hE⟩ := x_bind hE
      refine i_X6_284 hB hz kdX_35 (c_X3_editBy l g kdX_35 hq88) ⟨(Nat.le_of_ble_eq_true rfl), (Nat.le_of_ble_eq_true rfl)⟩ hl.1 (Nat.le_of_ble_eq_true rfl) dX6_drawn_88 (fun H locs hz => ?_)
      refine lv_iinc (v := (x6 + 1)) (lv' := [(6, .int (x6 + 1)), (4, .long ((x4 * (16807 : Int64)) - ((x4 * (16807 : Int64)) / (2147483647 : Int64)) * (2147483647 : Int64))), (0, .ref (ad g 0)), (1, .int x1), (3, .int x3)]) hx hb dX6_drawn_91 hl (k := 4) rfl rfl (by decide) rfl (fun ls hl => ?_)
      refine lv_goto (tgt := 64) hx hb dX6_drawn_94 (by decide) ?_
      exact ih _ _ _ _ _ _ _ _  hE hz (lv_sub hl [2, 3, 4, 1, 0] rfl)

set_option maxHeartbeats 4000000 in
set_option maxRecDepth 100000 in
theorem w_X6_drawn {p : Program} {l : Launch} {e : Env} {s : State} {m : MethodId} {args : Array Value} {below : List Frame} {meth : Method} {c : Code} {g : GP} (hB : BX p s m args meth c g LX cX6_drawn 7 RX6 (some .int)) {o : Int32 × Mem} : ∀ (x1 : Int32) (x2 : Int32) (x3 : Int32) (V : Mem) (H : Heap) (locs : List Loc) (ls : Array Slot), f_X6_drawn x1 x2 x3 V = some o → OK g LX V s H locs → lv_has ls 7 [(0, .ref (ad g 0)), (1, .int x1), (2, .int x2), (3, .int x3)] → W p l e rm_X6_drawn s m args below meth c H locs 0 0 (MQ below (QQ g LX (some (.int o.1)) o.2) args s 0 0 (Ar g LX)) (F0 m 0 ls []) := by
  obtain ⟨hx, hb, hml, hown, hT, hr, hlk, hK, hJ, hZ, hN⟩ := id hB
  intro x1 x2 x3 V H locs ls hE hz hl
  unfold f_X6_drawn at hE
  refine lv_aload_n hx hb dX6_drawn_0 rfl (lv_at hl 0 rfl) ?_
  refine g_X6_25 hB hz kdX_0 dX6_drawn_1 ?_
  obtain ⟨q4, hq4, hE⟩ := x_bind hE
  refine i_X6_152 hB hz kdX_4 (c_X3_isNone l g kdX_4 hq4) ⟨(Nat.le_of_ble_eq_true rfl), (Nat.le_of_ble_eq_true rfl)⟩ hl.1 (Nat.le_of_ble_eq_true rfl) dX6_drawn_4 (fun H locs hz => ?_)
  refine lv_if_eq (tgt := 13) hx hb dX6_drawn_7 (by decide) (fun c7 => ?_) (fun c7 => ?_)
  · have hE := (if_pos c7).symm.trans hE
    refine lv_iload_n hx hb dX6_drawn_13 rfl (lv_at hl 1 rfl) ?_
    refine lv_iconst (v := (0 : Int32)) hx hb dX6_drawn_14 (by decide) ?_
    refine lv_bipush (v := (60 : Int32)) hx hb dX6_drawn_15 (by decide) ?_
    obtain ⟨q17, hq17, hE⟩ := x_bind hE
    refine i_X6_79 hB hz (c_X6_isBetween l g  hq17) ⟨(Nat.le_of_ble_eq_true rfl), (Nat.le_of_ble_eq_true rfl)⟩ hl.1 (Nat.le_of_ble_eq_true rfl) dX6_drawn_17 (fun H locs hz => ?_)
    refine lv_if_eq (tgt := 43) hx hb dX6_drawn_20 (by decide) (fun c20 => ?_) (fun c20 => ?_)
    · have hE := (if_pos c20).symm.trans hE
      refine lv_ldc (v := (-1000001 : Int32)) hx hb hown (hT _ kw_264) dX6_drawn_43 ?_
      exact x_iret hB hz hE dX6_drawn_45
    · have hE := (if_neg c20).symm.trans hE
      refine lv_iload_n hx hb dX6_drawn_23 rfl (lv_at hl 2 rfl) ?_
      refine lv_iconst (v := (1 : Int32)) hx hb dX6_drawn_24 (by decide) ?_
      refine lv_ldcw (v := (999999 : Int32)) hx hb hown (hT _ kw_643) dX6_drawn_25 ?_
      obtain ⟨q28, hq28, hE⟩ := x_bind hE
      refine i_X6_79 hB hz (c_X6_isBetween l g  hq28) ⟨(Nat.le_of_ble_eq_true rfl), (Nat.le_of_ble_eq_true rfl)⟩ hl.1 (Nat.le_of_ble_eq_true rfl) dX6_drawn_28 (fun H locs hz => ?_)
      refine lv_if_eq (tgt := 43) hx hb dX6_drawn_31 (by decide) (fun c31 => ?_) (fun c31 => ?_)
      · have hE := (if_pos c31).symm.trans hE
        refine lv_ldc (v := (-1000001 : Int32)) hx hb hown (hT _ kw_264) dX6_drawn_43 ?_
        exact x_iret hB hz hE dX6_drawn_45
      · have hE := (if_neg c31).symm.trans hE
        refine lv_iload_n hx hb dX6_drawn_34 rfl (lv_at hl 3 rfl) ?_
        refine lv_iconst (v := (0 : Int32)) hx hb dX6_drawn_35 (by decide) ?_
        refine lv_iconst (v := (1 : Int32)) hx hb dX6_drawn_36 (by decide) ?_
        obtain ⟨q37, hq37, hE⟩ := x_bind hE
        refine i_X6_79 hB hz (c_X6_isBetween l g  hq37) ⟨(Nat.le_of_ble_eq_true rfl), (Nat.le_of_ble_eq_true rfl)⟩ hl.1 (Nat.le_of_ble_eq_true rfl) dX6_drawn_37 (fun H locs hz => ?_)
        refine lv_if_ne (tgt := 46) hx hb dX6_drawn_40 (by decide) (fun c40 => ?_) (fun c40 => ?_)
        · have hE := (if_neg c40).symm.trans hE
          refine lv_aload_n hx hb dX6_drawn_46 rfl (lv_at hl 0 rfl) ?_
          refine g_X6_29 hB hz kdX_0 dX6_drawn_47 ?_
          refine lv_aload_n hx hb dX6_drawn_50 rfl (lv_at hl 0 rfl) ?_
          refine g_X6_25 hB hz kdX_0 dX6_drawn_51 ?_
          obtain ⟨q54, hq54, hE⟩ := x_bind hE
          refine i_X6_140 hB hz kdX_35 (c_X3_become l g kdX_35 kdX_4 hq54) ⟨(Nat.le_of_ble_eq_true rfl), (Nat.le_of_ble_eq_true rfl)⟩ hl.1 (Nat.le_of_ble_eq_true rfl) dX6_drawn_54 (fun H locs hz => ?_)
          refine lv_iload_n hx hb dX6_drawn_57 rfl (lv_at hl 2 rfl) ?_
          refine lv_i2l hx hb dX6_drawn_58 rfl ?_
          refine lv_lstore (lv' := [(4, .long (x2).toInt64), (0, .ref (ad g 0)), (1, .int x1), (2, .int x2), (3, .int x3)]) hx hb dX6_drawn_59 hl (by decide) rfl (fun ls hl => ?_)
          refine lv_iconst (v := (0 : Int32)) hx hb dX6_drawn_61 (by decide) ?_
          refine lv_istore (lv' := [(6, .int (0 : Int32)), (4, .long (x2).toInt64), (0, .ref (ad g 0)), (1, .int x1), (2, .int x2), (3, .int x3)]) hx hb dX6_drawn_62 hl (by decide) rfl (fun ls hl => ?_)
          exact w_X6_drawn_64 hB  _ _ _ _ _ _ _ _ _  hE hz (lv_sub hl [2, 3, 5, 1, 0] rfl)
        · have hE := (if_pos c40).symm.trans hE
          refine lv_ldc (v := (-1000001 : Int32)) hx hb hown (hT _ kw_264) dX6_drawn_43 ?_
          exact x_iret hB hz hE dX6_drawn_45
  · have hE := (if_neg c7).symm.trans hE
    refine lv_ldc (v := (-1000002 : Int32)) hx hb hown (hT _ kw_401) dX6_drawn_10 ?_
    exact x_iret hB hz hE dX6_drawn_12
theorem c_X6_drawn (l : Launch) (g : GP) {x1 : Int32} {x2 : Int32} {x3 : Int32} {V : Mem} {o : Int32 × Mem} (hE : f_X6_drawn x1 x2 x3 V = some o) : CT l g LX yX6_drawn cX6_drawn 7 (some .int) rm_X6_drawn [.ref (ad g 0), .int x1, .int x2, .int x3] V (some (.int o.1)) o.2 := by
  refine ct_of (by decide) (Nat.le_of_ble_eq_true rfl) ?_
  intro p e s m args below meth c ls hB hz hl
  exact w_X6_drawn hB _ _ _ _ _ _ _  hE hz hl
def rm_X6_image : Room := { frames := 2, cells := 0, slots := 0, locals := 121 }
set_option maxHeartbeats 4000000 in
set_option maxRecDepth 100000 in
theorem w_X6_image {p : Program} {l : Launch} {e : Env} {s : State} {m : MethodId} {args : Array Value} {below : List Frame} {meth : Method} {c : Code} {g : GP} (hB : BX p s m args meth c g LX cX6_image 2 RX6 (some .int)) {o : Int32 × Mem} : ∀ (x1 : Int32) (V : Mem) (H : Heap) (locs : List Loc) (ls : Array Slot), f_X6_image x1 V = some o → OK g LX V s H locs → lv_has ls 2 [(0, .ref (ad g 0)), (1, .int x1)] → W p l e rm_X6_image s m args below meth c H locs 0 0 (MQ below (QQ g LX (some (.int o.1)) o.2) args s 0 0 (Ar g LX)) (F0 m 0 ls []) := by
  obtain ⟨hx, hb, hml, hown, hT, hr, hlk, hK, hJ, hZ, hN⟩ := id hB
  intro x1 V H locs ls hE hz hl
  unfold f_X6_image at hE
  refine lv_iload_n hx hb dX6_image_0 rfl (lv_at hl 1 rfl) ?_
  refine lv_iconst (v := (0 : Int32)) hx hb dX6_image_1 (by decide) ?_
  refine lv_iconst (v := (1 : Int32)) hx hb dX6_image_2 (by decide) ?_
  obtain ⟨q3, hq3, hE⟩ := x_bind hE
  refine i_X6_79 hB hz (c_X6_isBetween l g  hq3) ⟨(Nat.le_of_ble_eq_true rfl), (Nat.le_of_ble_eq_true rfl)⟩ hl.1 (Nat.le_of_ble_eq_true rfl) dX6_image_3 (fun H locs hz => ?_)
  refine lv_if_ne (tgt := 12) hx hb dX6_image_6 (by decide) (fun c6 => ?_) (fun c6 => ?_)
  · have hE := (if_neg c6).symm.trans hE
    refine lv_aload_n hx hb dX6_image_12 rfl (lv_at hl 0 rfl) ?_
    refine g_X6_25 hB hz kdX_0 dX6_image_13 ?_
    obtain ⟨q16, hq16, hE⟩ := x_bind hE
    refine i_X6_152 hB hz kdX_4 (c_X3_isNone l g kdX_4 hq16) ⟨(Nat.le_of_ble_eq_true rfl), (Nat.le_of_ble_eq_true rfl)⟩ hl.1 (Nat.le_of_ble_eq_true rfl) dX6_image_16 (fun H locs hz => ?_)
    refine lv_if_eq (tgt := 25) hx hb dX6_image_19 (by decide) (fun c19 => ?_) (fun c19 => ?_)
    · have hE := (if_pos c19).symm.trans hE
      refine lv_aload_n hx hb dX6_image_25 rfl (lv_at hl 0 rfl) ?_
      refine g_X6_32 hB hz kdX_0 dX6_image_26 ?_
      refine lv_iload_n hx hb dX6_image_29 rfl (lv_at hl 1 rfl) ?_
      obtain ⟨hi30, hE⟩ := x_chk hE
      refine x_aalI hB hz kdX_66 hi30 dX6_image_30 ?_
      refine lv_aload_n hx hb dX6_image_31 rfl (lv_at hl 0 rfl) ?_
      refine g_X6_25 hB hz kdX_0 dX6_image_32 ?_
      obtain ⟨q35, hq35, hE⟩ := x_bind hE
      refine i_X6_140 hB hz (kd_im hi30) (c_X3_become l g (kd_im hi30) kdX_4 hq35) ⟨(Nat.le_of_ble_eq_true rfl), (Nat.le_of_ble_eq_true rfl)⟩ hl.1 (Nat.le_of_ble_eq_true rfl) dX6_image_35 (fun H locs hz => ?_)
      refine lv_iconst (v := (1 : Int32)) hx hb dX6_image_38 (by decide) ?_
      exact x_iret hB hz hE dX6_image_39
    · have hE := (if_neg c19).symm.trans hE
      refine lv_ldc (v := (-1000002 : Int32)) hx hb hown (hT _ kw_401) dX6_image_22 ?_
      exact x_iret hB hz hE dX6_image_24
  · have hE := (if_pos c6).symm.trans hE
    refine lv_ldc (v := (-1000001 : Int32)) hx hb hown (hT _ kw_264) dX6_image_9 ?_
    exact x_iret hB hz hE dX6_image_11
theorem c_X6_image (l : Launch) (g : GP) {x1 : Int32} {V : Mem} {o : Int32 × Mem} (hE : f_X6_image x1 V = some o) : CT l g LX yX6_image cX6_image 2 (some .int) rm_X6_image [.ref (ad g 0), .int x1] V (some (.int o.1)) o.2 := by
  refine ct_of (by decide) (Nat.le_of_ble_eq_true rfl) ?_
  intro p e s m args below meth c ls hB hz hl
  exact w_X6_image hB _ _ _ _ _  hE hz hl
def rm_X6_restore : Room := { frames := 2, cells := 0, slots := 0, locals := 121 }
set_option maxHeartbeats 4000000 in
set_option maxRecDepth 100000 in
theorem w_X6_restore {p : Program} {l : Launch} {e : Env} {s : State} {m : MethodId} {args : Array Value} {below : List Frame} {meth : Method} {c : Code} {g : GP} (hB : BX p s m args meth c g LX cX6_restore 2 RX6 (some .int)) {o : Int32 × Mem} : ∀ (x1 : Int32) (V : Mem) (H : Heap) (locs : List Loc) (ls : Array Slot), f_X6_restore x1 V = some o → OK g LX V s H locs → lv_has ls 2 [(0, .ref (ad g 0)), (1, .int x1)] → W p l e rm_X6_restore s m args below meth c H locs 0 0 (MQ below (QQ g LX (some (.int o.1)) o.2) args s 0 0 (Ar g LX)) (F0 m 0 ls []) := by
  obtain ⟨hx, hb, hml, hown, hT, hr, hlk, hK, hJ, hZ, hN⟩ := id hB
  intro x1 V H locs ls hE hz hl
  unfold f_X6_restore at hE
  refine lv_iload_n hx hb dX6_restore_0 rfl (lv_at hl 1 rfl) ?_
  refine lv_iconst (v := (0 : Int32)) hx hb dX6_restore_1 (by decide) ?_
  refine lv_iconst (v := (1 : Int32)) hx hb dX6_restore_2 (by decide) ?_
  obtain ⟨q3, hq3, hE⟩ := x_bind hE
  refine i_X6_79 hB hz (c_X6_isBetween l g  hq3) ⟨(Nat.le_of_ble_eq_true rfl), (Nat.le_of_ble_eq_true rfl)⟩ hl.1 (Nat.le_of_ble_eq_true rfl) dX6_restore_3 (fun H locs hz => ?_)
  refine lv_if_ne (tgt := 12) hx hb dX6_restore_6 (by decide) (fun c6 => ?_) (fun c6 => ?_)
  · have hE := (if_neg c6).symm.trans hE
    refine lv_aload_n hx hb dX6_restore_12 rfl (lv_at hl 0 rfl) ?_
    refine g_X6_32 hB hz kdX_0 dX6_restore_13 ?_
    refine lv_iload_n hx hb dX6_restore_16 rfl (lv_at hl 1 rfl) ?_
    obtain ⟨hi17, hE⟩ := x_chk hE
    refine x_aalI hB hz kdX_66 hi17 dX6_restore_17 ?_
    obtain ⟨q18, hq18, hE⟩ := x_bind hE
    refine i_X6_152 hB hz (kd_im hi17) (c_X3_isNone l g (kd_im hi17) hq18) ⟨(Nat.le_of_ble_eq_true rfl), (Nat.le_of_ble_eq_true rfl)⟩ hl.1 (Nat.le_of_ble_eq_true rfl) dX6_restore_18 (fun H locs hz => ?_)
    refine lv_if_eq (tgt := 27) hx hb dX6_restore_21 (by decide) (fun c21 => ?_) (fun c21 => ?_)
    · have hE := (if_pos c21).symm.trans hE
      refine lv_aload_n hx hb dX6_restore_27 rfl (lv_at hl 0 rfl) ?_
      refine g_X6_25 hB hz kdX_0 dX6_restore_28 ?_
      refine lv_aload_n hx hb dX6_restore_31 rfl (lv_at hl 0 rfl) ?_
      refine g_X6_32 hB hz kdX_0 dX6_restore_32 ?_
      refine lv_iload_n hx hb dX6_restore_35 rfl (lv_at hl 1 rfl) ?_
      obtain ⟨hi36, hE⟩ := x_chk hE
      refine x_aalI hB hz kdX_66 hi36 dX6_restore_36 ?_
      obtain ⟨q37, hq37, hE⟩ := x_bind hE
      refine i_X6_140 hB hz kdX_4 (c_X3_become l g kdX_4 (kd_im hi36) hq37) ⟨(Nat.le_of_ble_eq_true rfl), (Nat.le_of_ble_eq_true rfl)⟩ hl.1 (Nat.le_of_ble_eq_true rfl) dX6_restore_37 (fun H locs hz => ?_)
      refine lv_aload_n hx hb dX6_restore_40 rfl (lv_at hl 0 rfl) ?_
      refine g_X6_39 hB hz kdX_0 dX6_restore_41 ?_
      obtain ⟨q44, hq44, hE⟩ := x_bind hE
      refine i_X6_143 hB hz kdX_67 (c_X0_forgetAll l g kdX_67 hq44) ⟨(Nat.le_of_ble_eq_true rfl), (Nat.le_of_ble_eq_true rfl)⟩ hl.1 (Nat.le_of_ble_eq_true rfl) dX6_restore_44 (fun H locs hz => ?_)
      refine lv_iconst (v := (1 : Int32)) hx hb dX6_restore_47 (by decide) ?_
      exact x_iret hB hz hE dX6_restore_48
    · have hE := (if_neg c21).symm.trans hE
      refine lv_ldc (v := (-1000002 : Int32)) hx hb hown (hT _ kw_401) dX6_restore_24 ?_
      exact x_iret hB hz hE dX6_restore_26
  · have hE := (if_pos c6).symm.trans hE
    refine lv_ldc (v := (-1000001 : Int32)) hx hb hown (hT _ kw_264) dX6_restore_9 ?_
    exact x_iret hB hz hE dX6_restore_11
theorem c_X6_restore (l : Launch) (g : GP) {x1 : Int32} {V : Mem} {o : Int32 × Mem} (hE : f_X6_restore x1 V = some o) : CT l g LX yX6_restore cX6_restore 2 (some .int) rm_X6_restore [.ref (ad g 0), .int x1] V (some (.int o.1)) o.2 := by
  refine ct_of (by decide) (Nat.le_of_ble_eq_true rfl) ?_
  intro p e s m args below meth c ls hB hz hl
  exact w_X6_restore hB _ _ _ _ _  hE hz hl
def rm_X6_kind : Room := { frames := 1, cells := 0, slots := 0, locals := 21 }
set_option maxHeartbeats 4000000 in
set_option maxRecDepth 100000 in
theorem w_X6_kind {p : Program} {l : Launch} {e : Env} {s : State} {m : MethodId} {args : Array Value} {below : List Frame} {meth : Method} {c : Code} {g : GP} (hB : BX p s m args meth c g LX cX6_kind 2 RX6 (some .int)) {o : Int32 × Mem} : ∀ (x1 : Int32) (V : Mem) (H : Heap) (locs : List Loc) (ls : Array Slot), f_X6_kind x1 V = some o → OK g LX V s H locs → lv_has ls 2 [(0, .ref (ad g 0)), (1, .int x1)] → W p l e rm_X6_kind s m args below meth c H locs 0 0 (MQ below (QQ g LX (some (.int o.1)) o.2) args s 0 0 (Ar g LX)) (F0 m 0 ls []) := by
  obtain ⟨hx, hb, hml, hown, hT, hr, hlk, hK, hJ, hZ, hN⟩ := id hB
  intro x1 V H locs ls hE hz hl
  unfold f_X6_kind at hE
  refine lv_aload_n hx hb dX6_kind_0 rfl (lv_at hl 0 rfl) ?_
  refine g_X6_25 hB hz kdX_0 dX6_kind_1 ?_
  refine lv_iload_n hx hb dX6_kind_4 rfl (lv_at hl 1 rfl) ?_
  obtain ⟨q5, hq5, hE⟩ := x_bind hE
  refine i_X6_166 hB hz kdX_4 (c_X3_has l g kdX_4 hq5) ⟨(Nat.le_of_ble_eq_true rfl), (Nat.le_of_ble_eq_true rfl)⟩ hl.1 (Nat.le_of_ble_eq_true rfl) dX6_kind_5 (fun H locs hz => ?_)
  refine lv_if_eq (tgt := 23) hx hb dX6_kind_8 (by decide) (fun c8 => ?_) (fun c8 => ?_)
  · have hE := (if_pos c8).symm.trans hE
    refine lv_ldc (v := (-1000001 : Int32)) hx hb hown (hT _ kw_264) dX6_kind_23 ?_
    exact x_iret hB hz hE dX6_kind_25
  · have hE := (if_neg c8).symm.trans hE
    refine lv_aload_n hx hb dX6_kind_11 rfl (lv_at hl 0 rfl) ?_
    refine g_X6_25 hB hz kdX_0 dX6_kind_12 ?_
    refine g_X6_183 hB hz kdX_4 dX6_kind_15 ?_
    refine lv_iload_n hx hb dX6_kind_18 rfl (lv_at hl 1 rfl) ?_
    obtain ⟨hi19, hE⟩ := x_chk hE
    refine x_iald (n := 24) hB hz kdX_6 hi19 dX6_kind_19 ?_
    refine lv_goto (tgt := 25) hx hb dX6_kind_20 (by decide) ?_
    exact x_iret hB hz hE dX6_kind_25
theorem c_X6_kind (l : Launch) (g : GP) {x1 : Int32} {V : Mem} {o : Int32 × Mem} (hE : f_X6_kind x1 V = some o) : CT l g LX yX6_kind cX6_kind 2 (some .int) rm_X6_kind [.ref (ad g 0), .int x1] V (some (.int o.1)) o.2 := by
  refine ct_of (by decide) (Nat.le_of_ble_eq_true rfl) ?_
  intro p e s m args below meth c ls hB hz hl
  exact w_X6_kind hB _ _ _ _ _  hE hz hl
def rm_X6_as : Room := { frames := 1, cells := 0, slots := 0, locals := 22 }
set_option maxHeartbeats 4000000 in
set_option maxRecDepth 100000 in
theorem w_X6_as_65 {p : Program} {l : Launch} {e : Env} {s : State} {m : MethodId} {args : Array Value} {below : List Frame} {meth : Method} {c : Code} {g : GP} (hB : BX p s m args meth c g LX cX6_as 5 RX6 (some .int)) {o : Int32 × Mem} : ∀ (x1 : Int32) (x2 : Int32) (x3 : Int32) (V : Mem) (H : Heap) (locs : List Loc) (ls : Array Slot), f_X6_as_65 x1 x2 x3 V = some o → OK g LX V s H locs → lv_has ls 5 [(0, .ref (ad g 0)), (1, .int x1), (2, .int x2), (3, .int x3)] → W p l e rm_X6_as s m args below meth c H locs 0 0 (MQ below (QQ g LX (some (.int o.1)) o.2) args s 0 0 (Ar g LX)) (F0 m 65 ls []) := by
  obtain ⟨hx, hb, hml, hown, hT, hr, hlk, hK, hJ, hZ, hN⟩ := id hB
  intro x1 x2 x3 V H locs ls hE hz hl
  unfold f_X6_as_65 at hE
  refine lv_iload_n hx hb dX6_as_65 rfl (lv_at hl 3 rfl) ?_
  refine lv_iload_n hx hb dX6_as_66 rfl (lv_at hl 2 rfl) ?_
  refine lv_icmp_ne (tgt := 78) hx hb dX6_as_67 (by decide) (fun c67 => ?_) (fun c67 => ?_)
  · have hE := (if_neg c67).symm.trans hE
    refine lv_aload_n hx hb dX6_as_78 rfl (lv_at hl 0 rfl) ?_
    refine lv_iconst (v := (3 : Int32)) hx hb dX6_as_79 (by decide) ?_
    obtain ⟨q80, hq80, hE⟩ := x_bind hE
    refine i_X6_84 hB hz kdX_0 (c_X6_found l g  hq80) ⟨(Nat.le_of_ble_eq_true rfl), (Nat.le_of_ble_eq_true rfl)⟩ hl.1 (Nat.le_of_ble_eq_true rfl) dX6_as_80 (fun H locs hz => ?_)
    exact x_iret hB hz hE dX6_as_83
  · have hE := (if_pos c67).symm.trans hE
    refine lv_aload_n hx hb dX6_as_70 rfl (lv_at hl 0 rfl) ?_
    refine lv_iload_n hx hb dX6_as_71 rfl (lv_at hl 1 rfl) ?_
    obtain ⟨q72, hq72, hE⟩ := x_bind hE
    refine i_X6_92 hB hz kdX_0 (c_X6_foundNothing l g  hq72) ⟨(Nat.le_of_ble_eq_true rfl), (Nat.le_of_ble_eq_true rfl)⟩ hl.1 (Nat.le_of_ble_eq_true rfl) dX6_as_72 (fun H locs hz => ?_)
    refine lv_goto (tgt := 83) hx hb dX6_as_75 (by decide) ?_
    exact x_iret hB hz hE dX6_as_83

set_option maxHeartbeats 4000000 in
set_option maxRecDepth 100000 in
theorem w_X6_as_36 {p : Program} {l : Launch} {e : Env} {s : State} {m : MethodId} {args : Array Value} {below : List Frame} {meth : Method} {c : Code} {g : GP} (hB : BX p s m args meth c g LX cX6_as 5 RX6 (some .int)) {o : Int32 × Mem} : ∀ (n : Nat), ∀ (x1 : Int32) (x2 : Int32) (x3 : Int32) (x4 : Int32) (V : Mem) (H : Heap) (locs : List Loc) (ls : Array Slot), f_X6_as_36 n x1 x2 x3 x4 V = some o → OK g LX V s H locs → lv_has ls 5 [(0, .ref (ad g 0)), (1, .int x1), (2, .int x2), (3, .int x3), (4, .int x4)] → W p l e rm_X6_as s m args below meth c H locs 0 0 (MQ below (QQ g LX (some (.int o.1)) o.2) args s 0 0 (Ar g LX)) (F0 m 36 ls []) := by
  obtain ⟨hx, hb, hml, hown, hT, hr, hlk, hK, hJ, hZ, hN⟩ := id hB
  intro n
  induction n with
  | zero =>
    intro x1 x2 x3 x4 V H locs ls hE hz hl
    exact absurd (show (none : Option (Int32 × Mem)) = some o from hE) (by simp)
  | succ n ih =>
    intro x1 x2 x3 x4 V H locs ls hE hz hl
    unfold f_X6_as_36 at hE
    refine lv_iload hx hb dX6_as_36 (lv_at hl 4 rfl) ?_
    refine lv_bipush (v := (6 : Int32)) hx hb dX6_as_38 (by decide) ?_
    refine lv_icmp_ge (tgt := 65) hx hb dX6_as_40 (by decide) (fun c40 => ?_) (fun c40 => ?_)
    · have hE := (if_pos c40).symm.trans hE
      exact w_X6_as_65 hB  _ _ _ _ _ _ _  hE hz (lv_sub hl [0, 1, 2, 3] rfl)
    · have hE := (if_neg c40).symm.trans hE
      refine lv_iload_n hx hb dX6_as_43 rfl (lv_at hl 3 rfl) ?_
      refine lv_iload_n hx hb dX6_as_44 rfl (lv_at hl 2 rfl) ?_
      refine lv_icmp_eq (tgt := 65) hx hb dX6_as_45 (by decide) (fun c45 => ?_) (fun c45 => ?_)
      · have hE := (if_pos c45).symm.trans hE
        exact w_X6_as_65 hB  _ _ _ _ _ _ _  hE hz (lv_sub hl [0, 1, 2, 3] rfl)
      · have hE := (if_neg c45).symm.trans hE
        refine lv_iload_n hx hb dX6_as_48 rfl (lv_at hl 3 rfl) ?_
        refine lv_iconst (v := (-1 : Int32)) hx hb dX6_as_49 (by decide) ?_
        refine lv_icmp_eq (tgt := 65) hx hb dX6_as_50 (by decide) (fun c50 => ?_) (fun c50 => ?_)
        · have hE := (if_pos c50).symm.trans hE
          exact w_X6_as_65 hB  _ _ _ _ _ _ _  hE hz (lv_sub hl [0, 1, 2, 3] rfl)
        · have hE := (if_neg c50).symm.trans hE
          refine x_gst (k := 0) (by decide) hB hz kw_678 dX6_as_53 ?_
          refine lv_iload_n hx hb dX6_as_56 rfl (lv_at hl 3 rfl) ?_
          obtain ⟨hi57, hE⟩ := x_chk hE
          refine x_sti (k := 0) (by decide) rfl hB hz hi57 dX6_as_57 ?_
          refine lv_istore_n (lv' := [(3, .int (tba 0 (x3).toNatClampNeg)), (0, .ref (ad g 0)), (1, .int x1), (2, .int x2), (4, .int x4)]) hx hb dX6_as_58 rfl hl (by decide) rfl (fun ls hl => ?_)
          refine lv_iinc (v := (x4 + 1)) (lv' := [(4, .int (x4 + 1)), (3, .int (tba 0 (x3).toNatClampNeg)), (0, .ref (ad g 0)), (1, .int x1), (2, .int x2)]) hx hb dX6_as_59 hl (k := 4) rfl rfl (by decide) rfl (fun ls hl => ?_)
          refine lv_goto (tgt := 36) hx hb dX6_as_62 (by decide) ?_
          exact ih _ _ _ _ _ _ _ _  hE hz (lv_sub hl [2, 3, 4, 1, 0] rfl)

set_option maxHeartbeats 4000000 in
set_option maxRecDepth 100000 in
theorem w_X6_as {p : Program} {l : Launch} {e : Env} {s : State} {m : MethodId} {args : Array Value} {below : List Frame} {meth : Method} {c : Code} {g : GP} (hB : BX p s m args meth c g LX cX6_as 5 RX6 (some .int)) {o : Int32 × Mem} : ∀ (x1 : Int32) (x2 : Int32) (V : Mem) (H : Heap) (locs : List Loc) (ls : Array Slot), f_X6_as x1 x2 V = some o → OK g LX V s H locs → lv_has ls 5 [(0, .ref (ad g 0)), (1, .int x1), (2, .int x2)] → W p l e rm_X6_as s m args below meth c H locs 0 0 (MQ below (QQ g LX (some (.int o.1)) o.2) args s 0 0 (Ar g LX)) (F0 m 0 ls []) := by
  obtain ⟨hx, hb, hml, hown, hT, hr, hlk, hK, hJ, hZ, hN⟩ := id hB
  intro x1 x2 V H locs ls hE hz hl
  unfold f_X6_as at hE
  refine lv_aload_n hx hb dX6_as_0 rfl (lv_at hl 0 rfl) ?_
  refine g_X6_25 hB hz kdX_0 dX6_as_1 ?_
  refine lv_iload_n hx hb dX6_as_4 rfl (lv_at hl 1 rfl) ?_
  obtain ⟨q5, hq5, hE⟩ := x_bind hE
  refine i_X6_166 hB hz kdX_4 (c_X3_has l g kdX_4 hq5) ⟨(Nat.le_of_ble_eq_true rfl), (Nat.le_of_ble_eq_true rfl)⟩ hl.1 (Nat.le_of_ble_eq_true rfl) dX6_as_5 (fun H locs hz => ?_)
  refine lv_if_eq (tgt := 20) hx hb dX6_as_8 (by decide) (fun c8 => ?_) (fun c8 => ?_)
  · have hE := (if_pos c8).symm.trans hE
    refine lv_ldc (v := (-1000001 : Int32)) hx hb hown (hT _ kw_264) dX6_as_20 ?_
    exact x_iret hB hz hE dX6_as_22
  · have hE := (if_neg c8).symm.trans hE
    refine lv_iload_n hx hb dX6_as_11 rfl (lv_at hl 2 rfl) ?_
    refine lv_iconst (v := (0 : Int32)) hx hb dX6_as_12 (by decide) ?_
    refine lv_iconst (v := (5 : Int32)) hx hb dX6_as_13 (by decide) ?_
    obtain ⟨q14, hq14, hE⟩ := x_bind hE
    refine i_X6_79 hB hz (c_X6_isBetween l g  hq14) ⟨(Nat.le_of_ble_eq_true rfl), (Nat.le_of_ble_eq_true rfl)⟩ hl.1 (Nat.le_of_ble_eq_true rfl) dX6_as_14 (fun H locs hz => ?_)
    refine lv_if_ne (tgt := 23) hx hb dX6_as_17 (by decide) (fun c17 => ?_) (fun c17 => ?_)
    · have hE := (if_neg c17).symm.trans hE
      refine lv_aload_n hx hb dX6_as_23 rfl (lv_at hl 0 rfl) ?_
      refine g_X6_25 hB hz kdX_0 dX6_as_24 ?_
      refine g_X6_183 hB hz kdX_4 dX6_as_27 ?_
      refine lv_iload_n hx hb dX6_as_30 rfl (lv_at hl 1 rfl) ?_
      obtain ⟨hi31, hE⟩ := x_chk hE
      refine x_iald (n := 24) hB hz kdX_6 hi31 dX6_as_31 ?_
      refine lv_istore_n (lv' := [(3, .int (q14.2 6 (x1).toNatClampNeg)), (0, .ref (ad g 0)), (1, .int x1), (2, .int x2)]) hx hb dX6_as_32 rfl hl (by decide) rfl (fun ls hl => ?_)
      refine lv_iconst (v := (0 : Int32)) hx hb dX6_as_33 (by decide) ?_
      refine lv_istore (lv' := [(4, .int (0 : Int32)), (3, .int (q14.2 6 (x1).toNatClampNeg)), (0, .ref (ad g 0)), (1, .int x1), (2, .int x2)]) hx hb dX6_as_34 hl (by decide) rfl (fun ls hl => ?_)
      exact w_X6_as_36 hB  _ _ _ _ _ _ _ _ _  hE hz (lv_sub hl [2, 3, 4, 1, 0] rfl)
    · have hE := (if_pos c17).symm.trans hE
      refine lv_ldc (v := (-1000001 : Int32)) hx hb hown (hT _ kw_264) dX6_as_20 ?_
      exact x_iret hB hz hE dX6_as_22
theorem c_X6_as (l : Launch) (g : GP) {x1 : Int32} {x2 : Int32} {V : Mem} {o : Int32 × Mem} (hE : f_X6_as x1 x2 V = some o) : CT l g LX yX6_as cX6_as 5 (some .int) rm_X6_as [.ref (ad g 0), .int x1, .int x2] V (some (.int o.1)) o.2 := by
  refine ct_of (by decide) (Nat.le_of_ble_eq_true rfl) ?_
  intro p e s m args below meth c ls hB hz hl
  exact w_X6_as hB _ _ _ _ _ _  hE hz hl
def rm_X6_trace : Room := { frames := 0, cells := 0, slots := 0, locals := 0 }
set_option maxHeartbeats 4000000 in
set_option maxRecDepth 100000 in
theorem w_X6_trace {p : Program} {l : Launch} {e : Env} {s : State} {m : MethodId} {args : Array Value} {below : List Frame} {meth : Method} {c : Code} {g : GP} (hB : BX p s m args meth c g LX cX6_trace 2 RX6 (some .int)) {o : Int32 × Mem} : ∀ (x1 : Int32) (V : Mem) (H : Heap) (locs : List Loc) (ls : Array Slot), f_X6_trace x1 V = some o → OK g LX V s H locs → lv_has ls 2 [(0, .ref (ad g 0)), (1, .int x1)] → W p l e rm_X6_trace s m args below meth c H locs 0 0 (MQ below (QQ g LX (some (.int o.1)) o.2) args s 0 0 (Ar g LX)) (F0 m 0 ls []) := by
  obtain ⟨hx, hb, hml, hown, hT, hr, hlk, hK, hJ, hZ, hN⟩ := id hB
  intro x1 V H locs ls hE hz hl
  unfold f_X6_trace at hE
  refine lv_iload_n hx hb dX6_trace_0 rfl (lv_at hl 1 rfl) ?_
  refine lv_if_lt (tgt := 21) hx hb dX6_trace_1 (by decide) (fun c1 => ?_) (fun c1 => ?_)
  · have hE := (if_pos c1).symm.trans hE
    refine lv_ldc (v := (-1000000 : Int32)) hx hb hown (hT _ kw_527) dX6_trace_21 ?_
    exact x_iret hB hz hE dX6_trace_23
  · have hE := (if_neg c1).symm.trans hE
    refine lv_iload_n hx hb dX6_trace_4 rfl (lv_at hl 1 rfl) ?_
    refine lv_aload_n hx hb dX6_trace_5 rfl (lv_at hl 0 rfl) ?_
    refine g_X6_64 hB hz kdX_0 dX6_trace_6 ?_
    refine lv_icmp_ge (tgt := 21) hx hb dX6_trace_9 (by decide) (fun c9 => ?_) (fun c9 => ?_)
    · have hE := (if_pos c9).symm.trans hE
      refine lv_ldc (v := (-1000000 : Int32)) hx hb hown (hT _ kw_527) dX6_trace_21 ?_
      exact x_iret hB hz hE dX6_trace_23
    · have hE := (if_neg c9).symm.trans hE
      refine lv_aload_n hx hb dX6_trace_12 rfl (lv_at hl 0 rfl) ?_
      refine g_X6_61 hB hz kdX_0 dX6_trace_13 ?_
      refine lv_iload_n hx hb dX6_trace_16 rfl (lv_at hl 1 rfl) ?_
      obtain ⟨hi17, hE⟩ := x_chk hE
      refine x_iald (n := 16) hB hz kdX_98 hi17 dX6_trace_17 ?_
      refine lv_goto (tgt := 23) hx hb dX6_trace_18 (by decide) ?_
      exact x_iret hB hz hE dX6_trace_23
theorem c_X6_trace (l : Launch) (g : GP) {x1 : Int32} {V : Mem} {o : Int32 × Mem} (hE : f_X6_trace x1 V = some o) : CT l g LX yX6_trace cX6_trace 2 (some .int) rm_X6_trace [.ref (ad g 0), .int x1] V (some (.int o.1)) o.2 := by
  refine ct_of (by decide) (Nat.le_of_ble_eq_true rfl) ?_
  intro p e s m args below meth c ls hB hz hl
  exact w_X6_trace hB _ _ _ _ _  hE hz hl
def rm_X6_howManyRows : Room := { frames := 1, cells := 0, slots := 0, locals := 20 }
set_option maxHeartbeats 4000000 in
set_option maxRecDepth 100000 in
theorem w_X6_howManyRows_25 {p : Program} {l : Launch} {e : Env} {s : State} {m : MethodId} {args : Array Value} {below : List Frame} {meth : Method} {c : Code} {g : GP} (hB : BX p s m args meth c g LX cX6_howManyRows 3 RX6 (some .int)) {o : Int32 × Mem} {k4 : Int32 → Int32 → Mem → Option (Int32 × Mem)} (hk4 : ∀ (x1 : Int32) (x2 : Int32) (V : Mem) (H : Heap) (locs : List Loc) (ls : Array Slot), k4 x1 x2 V = some o → OK g LX V s H locs → lv_has ls 3 [(0, .ref (ad g 0)), (1, .int x1), (2, .int x2)] → W p l e rm_X6_howManyRows s m args below meth c H locs 0 0 (MQ below (QQ g LX (some (.int o.1)) o.2) args s 0 0 (Ar g LX)) (F0 m 4 ls [])) : ∀ (x1 : Int32) (x2 : Int32) (V : Mem) (H : Heap) (locs : List Loc) (ls : Array Slot), f_X6_howManyRows_25 k4 x1 x2 V = some o → OK g LX V s H locs → lv_has ls 3 [(0, .ref (ad g 0)), (1, .int x1), (2, .int x2)] → W p l e rm_X6_howManyRows s m args below meth c H locs 0 0 (MQ below (QQ g LX (some (.int o.1)) o.2) args s 0 0 (Ar g LX)) (F0 m 25 ls []) := by
  obtain ⟨hx, hb, hml, hown, hT, hr, hlk, hK, hJ, hZ, hN⟩ := id hB
  intro x1 x2 V H locs ls hE hz hl
  unfold f_X6_howManyRows_25 at hE
  refine lv_iinc (v := (x2 + 1)) (lv' := [(2, .int (x2 + 1)), (0, .ref (ad g 0)), (1, .int x1)]) hx hb dX6_howManyRows_25 hl (k := 2) rfl rfl (by decide) rfl (fun ls hl => ?_)
  refine lv_goto (tgt := 4) hx hb dX6_howManyRows_28 (by decide) ?_
  exact hk4 _ _ _ _ _ _  hE hz (lv_sub hl [1, 2, 0] rfl)

set_option maxHeartbeats 4000000 in
set_option maxRecDepth 100000 in
theorem w_X6_howManyRows_4 {p : Program} {l : Launch} {e : Env} {s : State} {m : MethodId} {args : Array Value} {below : List Frame} {meth : Method} {c : Code} {g : GP} (hB : BX p s m args meth c g LX cX6_howManyRows 3 RX6 (some .int)) {o : Int32 × Mem} : ∀ (n : Nat), ∀ (x1 : Int32) (x2 : Int32) (V : Mem) (H : Heap) (locs : List Loc) (ls : Array Slot), f_X6_howManyRows_4 n x1 x2 V = some o → OK g LX V s H locs → lv_has ls 3 [(0, .ref (ad g 0)), (1, .int x1), (2, .int x2)] → W p l e rm_X6_howManyRows s m args below meth c H locs 0 0 (MQ below (QQ g LX (some (.int o.1)) o.2) args s 0 0 (Ar g LX)) (F0 m 4 ls []) := by
  obtain ⟨hx, hb, hml, hown, hT, hr, hlk, hK, hJ, hZ, hN⟩ := id hB
  intro n
  induction n with
  | zero =>
    intro x1 x2 V H locs ls hE hz hl
    exact absurd (show (none : Option (Int32 × Mem)) = some o from hE) (by simp)
  | succ n ih =>
    intro x1 x2 V H locs ls hE hz hl
    unfold f_X6_howManyRows_4 at hE
    refine lv_iload_n hx hb dX6_howManyRows_4 rfl (lv_at hl 2 rfl) ?_
    refine lv_bipush (v := (8 : Int32)) hx hb dX6_howManyRows_5 (by decide) ?_
    refine lv_icmp_ge (tgt := 31) hx hb dX6_howManyRows_7 (by decide) (fun c7 => ?_) (fun c7 => ?_)
    · have hE := (if_pos c7).symm.trans hE
      refine lv_iload_n hx hb dX6_howManyRows_31 rfl (lv_at hl 1 rfl) ?_
      exact x_iret hB hz hE dX6_howManyRows_32
    · have hE := (if_neg c7).symm.trans hE
      refine lv_aload_n hx hb dX6_howManyRows_10 rfl (lv_at hl 0 rfl) ?_
      refine g_X6_11 hB hz kdX_0 dX6_howManyRows_11 ?_
      refine lv_iload_n hx hb dX6_howManyRows_14 rfl (lv_at hl 2 rfl) ?_
      obtain ⟨hi15, hE⟩ := x_chk hE
      refine x_aalR hB hz kdX_1 hi15 dX6_howManyRows_15 ?_
      obtain ⟨q16, hq16, hE⟩ := x_bind hE
      refine i_X6_105 hB hz (kd_rw hi15) (c_X2_isMissing l g (kd_rw hi15) hq16) ⟨(Nat.le_of_ble_eq_true rfl), (Nat.le_of_ble_eq_true rfl)⟩ hl.1 (Nat.le_of_ble_eq_true rfl) dX6_howManyRows_16 (fun H locs hz => ?_)
      refine lv_if_ne (tgt := 25) hx hb dX6_howManyRows_19 (by decide) (fun c19 => ?_) (fun c19 => ?_)
      · have hE := (if_neg c19).symm.trans hE
        exact w_X6_howManyRows_25 hB ih _ _ _ _ _ _  hE hz (lv_sub hl [0, 1, 2] rfl)
      · have hE := (if_pos c19).symm.trans hE
        refine lv_iinc (v := (x1 + 1)) (lv' := [(1, .int (x1 + 1)), (0, .ref (ad g 0)), (2, .int x2)]) hx hb dX6_howManyRows_22 hl (k := 1) rfl rfl (by decide) rfl (fun ls hl => ?_)
        exact w_X6_howManyRows_25 hB ih _ _ _ _ _ _  hE hz (lv_sub hl [1, 0, 2] rfl)

set_option maxHeartbeats 4000000 in
set_option maxRecDepth 100000 in
theorem w_X6_howManyRows {p : Program} {l : Launch} {e : Env} {s : State} {m : MethodId} {args : Array Value} {below : List Frame} {meth : Method} {c : Code} {g : GP} (hB : BX p s m args meth c g LX cX6_howManyRows 3 RX6 (some .int)) {o : Int32 × Mem} : ∀ (V : Mem) (H : Heap) (locs : List Loc) (ls : Array Slot), f_X6_howManyRows V = some o → OK g LX V s H locs → lv_has ls 3 [(0, .ref (ad g 0))] → W p l e rm_X6_howManyRows s m args below meth c H locs 0 0 (MQ below (QQ g LX (some (.int o.1)) o.2) args s 0 0 (Ar g LX)) (F0 m 0 ls []) := by
  obtain ⟨hx, hb, hml, hown, hT, hr, hlk, hK, hJ, hZ, hN⟩ := id hB
  intro V H locs ls hE hz hl
  unfold f_X6_howManyRows at hE
  refine lv_iconst (v := (0 : Int32)) hx hb dX6_howManyRows_0 (by decide) ?_
  refine lv_istore_n (lv' := [(1, .int (0 : Int32)), (0, .ref (ad g 0))]) hx hb dX6_howManyRows_1 rfl hl (by decide) rfl (fun ls hl => ?_)
  refine lv_iconst (v := (0 : Int32)) hx hb dX6_howManyRows_2 (by decide) ?_
  refine lv_istore_n (lv' := [(2, .int (0 : Int32)), (1, .int (0 : Int32)), (0, .ref (ad g 0))]) hx hb dX6_howManyRows_3 rfl hl (by decide) rfl (fun ls hl => ?_)
  exact w_X6_howManyRows_4 hB  _ _ _ _ _ _ _  hE hz (lv_sub hl [2, 1, 0] rfl)
theorem c_X6_howManyRows (l : Launch) (g : GP) {V : Mem} {o : Int32 × Mem} (hE : f_X6_howManyRows V = some o) : CT l g LX yX6_howManyRows cX6_howManyRows 3 (some .int) rm_X6_howManyRows [.ref (ad g 0)] V (some (.int o.1)) o.2 := by
  refine ct_of (by decide) (Nat.le_of_ble_eq_true rfl) ?_
  intro p e s m args below meth c ls hB hz hl
  exact w_X6_howManyRows hB  _ _ _ _  hE hz hl
def rm_X6_count : Room := { frames := 4, cells := 0, slots := 0, locals := 169 }
theorem i_X6_298 {p : Program} {l : Launch} {e : Env} {R : Room} {s : State} {m : MethodId} {args : Array Value} {below : List Frame} {meth : Method} {c : Code} {H : Heap} {locs : List Loc} {Q : State → Prop} {cc : ByteArray} {pc : Nat} {ls : Array Slot} {rest : List Value} {g : GP} {V : Mem} {nL : Nat} {ret : Option FieldType} (hB : BX p s m args meth c g LX cc nL RX6 ret) (hz : OK g LX V s H locs) {i : Nat} (hk : KD LX i 5) {r : Int32} {V1 : Mem} (hM : CT l g LX yX6_howManyRows cX6_howManyRows 3 (some .int) rm_X6_howManyRows [.ref (ad g i)] V (some (.int r)) V1) (hR : rm_X6_howManyRows.frames + 1 ≤ R.frames ∧ 8 + (3 + 11) + rm_X6_howManyRows.locals ≤ R.locals) (hsz : ls.size = nL) (hrest : (rest.map fun v => v.category).sum ≤ 8) (hdg : decode cc pc = .ok (.invokevirtual 298, 3)) (kk : ∀ (H1 : Heap) (locs1 : List Loc), OK g LX V1 s H1 locs1 → W p l e R s m args below meth c H1 locs1 0 0 Q (F0 m (pc + 3) ls (.int r :: rest))) : W p l e R s m args below meth c H locs 0 0 Q (F0 m pc ls (.ref (ad g i) :: rest)) :=
  x_cv (As := []) (n := 0) (T := TX6) (N := 14) hB hz hM hk rfl rfl rfl rfl kw_711 kw_62 kw_708 kw_710 kw_22 (by decide +kernel) rfl hR hsz hrest hdg kk
set_option maxHeartbeats 4000000 in
set_option maxRecDepth 100000 in
theorem w_X6_count {p : Program} {l : Launch} {e : Env} {s : State} {m : MethodId} {args : Array Value} {below : List Frame} {meth : Method} {c : Code} {g : GP} (hB : BX p s m args meth c g LX cX6_count 2 RX6 (some .int)) {o : Int32 × Mem} : ∀ (x1 : Int32) (V : Mem) (H : Heap) (locs : List Loc) (ls : Array Slot), f_X6_count x1 V = some o → OK g LX V s H locs → lv_has ls 2 [(0, .ref (ad g 0)), (1, .int x1)] → W p l e rm_X6_count s m args below meth c H locs 0 0 (MQ below (QQ g LX (some (.int o.1)) o.2) args s 0 0 (Ar g LX)) (F0 m 0 ls []) := by
  obtain ⟨hx, hb, hml, hown, hT, hr, hlk, hK, hJ, hZ, hN⟩ := id hB
  intro x1 V H locs ls hE hz hl
  unfold f_X6_count at hE
  refine lv_iload_n hx hb dX6_count_0 rfl (lv_at hl 1 rfl) ?_
  by_cases c1_0 : x1 = (0 : Int32)
  · have hE := (if_pos c1_0).symm.trans hE
    refine lv_tableIn (tgt := 40) hx hb dX6_count_1 (by rw [c1_0]; decide) (by rw [c1_0]; decide) (by rw [c1_0]; rfl) (by decide) ?_
    refine lv_aload_n hx hb dX6_count_40 rfl (lv_at hl 0 rfl) ?_
    obtain ⟨q41, hq41, hE⟩ := x_bind hE
    refine i_X6_298 hB hz kdX_0 (c_X6_howManyRows l g  hq41) ⟨(Nat.le_of_ble_eq_true rfl), (Nat.le_of_ble_eq_true rfl)⟩ hl.1 (Nat.le_of_ble_eq_true rfl) dX6_count_41 (fun H locs hz => ?_)
    exact x_iret hB hz hE dX6_count_44
  have hE := (if_neg c1_0).symm.trans hE
  by_cases c1_1 : x1 = (1 : Int32)
  · have hE := (if_pos c1_1).symm.trans hE
    refine lv_tableIn (tgt := 45) hx hb dX6_count_1 (by rw [c1_1]; decide) (by rw [c1_1]; decide) (by rw [c1_1]; rfl) (by decide) ?_
    refine lv_aload_n hx hb dX6_count_45 rfl (lv_at hl 0 rfl) ?_
    refine g_X6_25 hB hz kdX_0 dX6_count_46 ?_
    refine g_X6_146 hB hz kdX_4 dX6_count_49 ?_
    exact x_iret hB hz hE dX6_count_52
  have hE := (if_neg c1_1).symm.trans hE
  by_cases c1_2 : x1 = (2 : Int32)
  · have hE := (if_pos c1_2).symm.trans hE
    refine lv_tableIn (tgt := 53) hx hb dX6_count_1 (by rw [c1_2]; decide) (by rw [c1_2]; decide) (by rw [c1_2]; rfl) (by decide) ?_
    refine lv_aload_n hx hb dX6_count_53 rfl (lv_at hl 0 rfl) ?_
    refine g_X6_25 hB hz kdX_0 dX6_count_54 ?_
    refine lv_iconst (v := (1 : Int32)) hx hb dX6_count_57 (by decide) ?_
    obtain ⟨q58, hq58, hE⟩ := x_bind hE
    refine i_X6_253 hB hz kdX_4 (c_X3_howManyOf l g kdX_4 hq58) ⟨(Nat.le_of_ble_eq_true rfl), (Nat.le_of_ble_eq_true rfl)⟩ hl.1 (Nat.le_of_ble_eq_true rfl) dX6_count_58 (fun H locs hz => ?_)
    refine lv_aload_n hx hb dX6_count_61 rfl (lv_at hl 0 rfl) ?_
    refine g_X6_25 hB hz kdX_0 dX6_count_62 ?_
    refine lv_iconst (v := (2 : Int32)) hx hb dX6_count_65 (by decide) ?_
    obtain ⟨q66, hq66, hE⟩ := x_bind hE
    refine i_X6_253 hB hz kdX_4 (c_X3_howManyOf l g kdX_4 hq66) ⟨(Nat.le_of_ble_eq_true rfl), (Nat.le_of_ble_eq_true rfl)⟩ hl.1 (Nat.le_of_ble_eq_true rfl) dX6_count_66 (fun H locs hz => ?_)
    refine lv_iadd hx hb dX6_count_69 ?_
    refine lv_aload_n hx hb dX6_count_70 rfl (lv_at hl 0 rfl) ?_
    refine g_X6_25 hB hz kdX_0 dX6_count_71 ?_
    refine lv_iconst (v := (3 : Int32)) hx hb dX6_count_74 (by decide) ?_
    obtain ⟨q75, hq75, hE⟩ := x_bind hE
    refine i_X6_253 hB hz kdX_4 (c_X3_howManyOf l g kdX_4 hq75) ⟨(Nat.le_of_ble_eq_true rfl), (Nat.le_of_ble_eq_true rfl)⟩ hl.1 (Nat.le_of_ble_eq_true rfl) dX6_count_75 (fun H locs hz => ?_)
    refine lv_iadd hx hb dX6_count_78 ?_
    exact x_iret hB hz hE dX6_count_79
  have hE := (if_neg c1_2).symm.trans hE
  by_cases c1_3 : x1 = (3 : Int32)
  · have hE := (if_pos c1_3).symm.trans hE
    refine lv_tableIn (tgt := 80) hx hb dX6_count_1 (by rw [c1_3]; decide) (by rw [c1_3]; decide) (by rw [c1_3]; rfl) (by decide) ?_
    refine lv_aload_n hx hb dX6_count_80 rfl (lv_at hl 0 rfl) ?_
    refine g_X6_25 hB hz kdX_0 dX6_count_81 ?_
    obtain ⟨q84, hq84, hE⟩ := x_bind hE
    refine i_X6_288 hB hz kdX_4 (c_X3_lastCounts l g kdX_4 hq84) ⟨(Nat.le_of_ble_eq_true rfl), (Nat.le_of_ble_eq_true rfl)⟩ hl.1 (Nat.le_of_ble_eq_true rfl) dX6_count_84 (fun H locs hz => ?_)
    exact x_iret hB hz hE dX6_count_87
  have hE := (if_neg c1_3).symm.trans hE
  by_cases c1_4 : x1 = (4 : Int32)
  · have hE := (if_pos c1_4).symm.trans hE
    refine lv_tableIn (tgt := 88) hx hb dX6_count_1 (by rw [c1_4]; decide) (by rw [c1_4]; decide) (by rw [c1_4]; rfl) (by decide) ?_
    refine lv_aload_n hx hb dX6_count_88 rfl (lv_at hl 0 rfl) ?_
    refine g_X6_39 hB hz kdX_0 dX6_count_89 ?_
    refine g_X6_147 hB hz kdX_67 dX6_count_92 ?_
    exact x_iret hB hz hE dX6_count_95
  have hE := (if_neg c1_4).symm.trans hE
  by_cases c1_5 : x1 = (5 : Int32)
  · have hE := (if_pos c1_5).symm.trans hE
    refine lv_tableIn (tgt := 96) hx hb dX6_count_1 (by rw [c1_5]; decide) (by rw [c1_5]; decide) (by rw [c1_5]; rfl) (by decide) ?_
    refine lv_aload_n hx hb dX6_count_96 rfl (lv_at hl 0 rfl) ?_
    refine g_X6_18 hB hz kdX_0 dX6_count_97 ?_
    refine g_X6_125 hB hz kdX_2 dX6_count_100 ?_
    exact x_iret hB hz hE dX6_count_103
  have hE := (if_neg c1_5).symm.trans hE
  have nc1_0 := x_nei c1_0 (k := 0) (by decide)
  have nc1_1 := x_nei c1_1 (k := 1) (by decide)
  have nc1_2 := x_nei c1_2 (k := 2) (by decide)
  have nc1_3 := x_nei c1_3 (k := 3) (by decide)
  have nc1_4 := x_nei c1_4 (k := 4) (by decide)
  have nc1_5 := x_nei c1_5 (k := 5) (by decide)
  refine lv_tableOut (tgt := 104) hx hb dX6_count_1 (by omega) (by decide) ?_
  refine lv_ldc (v := (-1000001 : Int32)) hx hb hown (hT _ kw_264) dX6_count_104 ?_
  exact x_iret hB hz hE dX6_count_106
theorem c_X6_count (l : Launch) (g : GP) {x1 : Int32} {V : Mem} {o : Int32 × Mem} (hE : f_X6_count x1 V = some o) : CT l g LX yX6_count cX6_count 2 (some .int) rm_X6_count [.ref (ad g 0), .int x1] V (some (.int o.1)) o.2 := by
  refine ct_of (by decide) (Nat.le_of_ble_eq_true rfl) ?_
  intro p e s m args below meth c ls hB hz hl
  exact w_X6_count hB _ _ _ _ _  hE hz hl
def rm_X6_status : Room := { frames := 0, cells := 0, slots := 0, locals := 0 }
set_option maxHeartbeats 4000000 in
set_option maxRecDepth 100000 in
theorem w_X6_status {p : Program} {l : Launch} {e : Env} {s : State} {m : MethodId} {args : Array Value} {below : List Frame} {meth : Method} {c : Code} {g : GP} (hB : BX p s m args meth c g LX cX6_status 1 RX6 (some .int)) {o : Int32 × Mem} : ∀ (V : Mem) (H : Heap) (locs : List Loc) (ls : Array Slot), f_X6_status V = some o → OK g LX V s H locs → lv_has ls 1 [(0, .ref (ad g 0))] → W p l e rm_X6_status s m args below meth c H locs 0 0 (MQ below (QQ g LX (some (.int o.1)) o.2) args s 0 0 (Ar g LX)) (F0 m 0 ls []) := by
  obtain ⟨hx, hb, hml, hown, hT, hr, hlk, hK, hJ, hZ, hN⟩ := id hB
  intro V H locs ls hE hz hl
  unfold f_X6_status at hE
  refine lv_aload_n hx hb dX6_status_0 rfl (lv_at hl 0 rfl) ?_
  refine g_X6_68 hB hz kdX_0 dX6_status_1 ?_
  exact x_iret hB hz hE dX6_status_4
theorem c_X6_status (l : Launch) (g : GP) {V : Mem} {o : Int32 × Mem} (hE : f_X6_status V = some o) : CT l g LX yX6_status cX6_status 1 (some .int) rm_X6_status [.ref (ad g 0)] V (some (.int o.1)) o.2 := by
  refine ct_of (by decide) (Nat.le_of_ble_eq_true rfl) ?_
  intro p e s m args below meth c ls hB hz hl
  exact w_X6_status hB  _ _ _ _  hE hz hl
def rm_X6_leaveTrace : Room := { frames := 0, cells := 0, slots := 0, locals := 0 }
set_option maxHeartbeats 4000000 in
set_option maxRecDepth 100000 in
theorem w_X6_leaveTrace {p : Program} {l : Launch} {e : Env} {s : State} {m : MethodId} {args : Array Value} {below : List Frame} {meth : Method} {c : Code} {g : GP} (hB : BX p s m args meth c g LX cX6_leaveTrace 2 RX6 none) {o : Mem} : ∀ (x1 : Int32) (V : Mem) (H : Heap) (locs : List Loc) (ls : Array Slot), f_X6_leaveTrace x1 V = some o → OK g LX V s H locs → lv_has ls 2 [(0, .ref (ad g 0)), (1, .int x1)] → W p l e rm_X6_leaveTrace s m args below meth c H locs 0 0 (MQ below (QQ g LX none o) args s 0 0 (Ar g LX)) (F0 m 0 ls []) := by
  obtain ⟨hx, hb, hml, hown, hT, hr, hlk, hK, hJ, hZ, hN⟩ := id hB
  intro x1 V H locs ls hE hz hl
  unfold f_X6_leaveTrace at hE
  refine lv_aload_n hx hb dX6_leaveTrace_0 rfl (lv_at hl 0 rfl) ?_
  refine g_X6_64 hB hz kdX_0 dX6_leaveTrace_1 ?_
  refine lv_bipush (v := (16 : Int32)) hx hb dX6_leaveTrace_4 (by decide) ?_
  refine lv_icmp_ge (tgt := 29) hx hb dX6_leaveTrace_6 (by decide) (fun c6 => ?_) (fun c6 => ?_)
  · have hE := (if_pos c6).symm.trans hE
    exact x_vret hB hz hE dX6_leaveTrace_29
  · have hE := (if_neg c6).symm.trans hE
    refine lv_aload_n hx hb dX6_leaveTrace_9 rfl (lv_at hl 0 rfl) ?_
    refine g_X6_61 hB hz kdX_0 dX6_leaveTrace_10 ?_
    refine lv_aload_n hx hb dX6_leaveTrace_13 rfl (lv_at hl 0 rfl) ?_
    refine g_X6_64 hB hz kdX_0 dX6_leaveTrace_14 ?_
    refine lv_iload_n hx hb dX6_leaveTrace_17 rfl (lv_at hl 1 rfl) ?_
    obtain ⟨hi18, hE⟩ := x_chk hE
    refine x_iast (n := 16) hB hz kdX_98 hi18 dX6_leaveTrace_18 (fun H locs hz => ?_)
    refine lv_aload_n hx hb dX6_leaveTrace_19 rfl (lv_at hl 0 rfl) ?_
    refine lv_dup hx hb dX6_leaveTrace_20 rfl ?_
    refine g_X6_64 hB hz kdX_0 dX6_leaveTrace_21 ?_
    refine lv_iconst (v := (1 : Int32)) hx hb dX6_leaveTrace_24 (by decide) ?_
    refine lv_iadd hx hb dX6_leaveTrace_25 ?_
    refine p_X6_64 hB hz kdX_0 dX6_leaveTrace_26 (fun H locs hz => ?_)
    exact x_vret hB hz hE dX6_leaveTrace_29
theorem c_X6_leaveTrace (l : Launch) (g : GP) {x1 : Int32} {V : Mem} {o : Mem} (hE : f_X6_leaveTrace x1 V = some o) : CT l g LX yX6_leaveTrace cX6_leaveTrace 2 none rm_X6_leaveTrace [.ref (ad g 0), .int x1] V none o := by
  refine ct_of (by decide) (Nat.le_of_ble_eq_true rfl) ?_
  intro p e s m args below meth c ls hB hz hl
  exact w_X6_leaveTrace hB _ _ _ _ _  hE hz hl

def rm_X6_register : Room := { frames := 5, cells := 0, slots := 0, locals := 193 }
theorem i_X6_230 {p : Program} {l : Launch} {e : Env} {R : Room} {s : State} {m : MethodId} {args : Array Value} {below : List Frame} {meth : Method} {c : Code} {H : Heap} {locs : List Loc} {Q : State → Prop} {cc : ByteArray} {pc : Nat} {ls : Array Slot} {rest : List Value} {g : GP} {V : Mem} {nL : Nat} {ret : Option FieldType} (hB : BX p s m args meth c g LX cc nL RX6 ret) (hz : OK g LX V s H locs) {i : Nat} (hk : KD LX i 5) {a0 : Int32} {r : Int32} {V1 : Mem} (hM : CT l g LX yX6_registeredAhead cX6_registeredAhead 5 (some .int) rm_X6_registeredAhead [.ref (ad g i), .int a0] V (some (.int r)) V1) (hR : rm_X6_registeredAhead.frames + 1 ≤ R.frames ∧ 8 + (5 + 11) + rm_X6_registeredAhead.locals ≤ R.locals) (hsz : ls.size = nL) (hrest : (rest.map fun v => v.category).sum ≤ 8) (hdg : decode cc pc = .ok (.invokevirtual 230, 3)) (kk : ∀ (H1 : Heap) (locs1 : List Loc), OK g LX V1 s H1 locs1 → W p l e R s m args below meth c H1 locs1 0 0 Q (F0 m (pc + 3) ls (.int r :: rest))) : W p l e R s m args below meth c H locs 0 0 Q (F0 m pc ls (.int a0 :: .ref (ad g i) :: rest)) :=
  x_cv (As := [.int a0]) (n := 1) (T := TX6) (N := 14) hB hz hM hk rfl rfl rfl rfl kw_557 kw_62 kw_554 kw_556 kw_15 (by decide +kernel) rfl hR hsz hrest hdg kk
set_option maxHeartbeats 4000000 in
set_option maxRecDepth 100000 in
theorem w_X6_register_89 {p : Program} {l : Launch} {e : Env} {s : State} {m : MethodId} {args : Array Value} {below : List Frame} {meth : Method} {c : Code} {g : GP} (hB : BX p s m args meth c g LX cX6_register 3 RX6 (some .int)) {o : Int32 × Mem} {k56 : Int32 → Int32 → Mem → Option (Int32 × Mem)} (hk56 : ∀ (x1 : Int32) (x2 : Int32) (V : Mem) (H : Heap) (locs : List Loc) (ls : Array Slot), k56 x1 x2 V = some o → OK g LX V s H locs → lv_has ls 3 [(0, .ref (ad g 0)), (1, .int x1), (2, .int x2)] → W p l e rm_X6_register s m args below meth c H locs 0 0 (MQ below (QQ g LX (some (.int o.1)) o.2) args s 0 0 (Ar g LX)) (F0 m 56 ls [])) : ∀ (x1 : Int32) (x2 : Int32) (V : Mem) (H : Heap) (locs : List Loc) (ls : Array Slot), f_X6_register_89 k56 x1 x2 V = some o → OK g LX V s H locs → lv_has ls 3 [(0, .ref (ad g 0)), (1, .int x1), (2, .int x2)] → W p l e rm_X6_register s m args below meth c H locs 0 0 (MQ below (QQ g LX (some (.int o.1)) o.2) args s 0 0 (Ar g LX)) (F0 m 89 ls []) := by
  obtain ⟨hx, hb, hml, hown, hT, hr, hlk, hK, hJ, hZ, hN⟩ := id hB
  intro x1 x2 V H locs ls hE hz hl
  unfold f_X6_register_89 at hE
  refine lv_iinc (v := (x2 + 1)) (lv' := [(2, .int (x2 + 1)), (0, .ref (ad g 0)), (1, .int x1)]) hx hb dX6_register_89 hl (k := 2) rfl rfl (by decide) rfl (fun ls hl => ?_)
  refine lv_goto (tgt := 56) hx hb dX6_register_92 (by decide) ?_
  exact hk56 _ _ _ _ _ _  hE hz (lv_sub hl [1, 2, 0] rfl)

set_option maxHeartbeats 4000000 in
set_option maxRecDepth 100000 in
theorem w_X6_register_56 {p : Program} {l : Launch} {e : Env} {s : State} {m : MethodId} {args : Array Value} {below : List Frame} {meth : Method} {c : Code} {g : GP} (hB : BX p s m args meth c g LX cX6_register 3 RX6 (some .int)) {o : Int32 × Mem} : ∀ (n : Nat), ∀ (x1 : Int32) (x2 : Int32) (V : Mem) (H : Heap) (locs : List Loc) (ls : Array Slot), f_X6_register_56 n x1 x2 V = some o → OK g LX V s H locs → lv_has ls 3 [(0, .ref (ad g 0)), (1, .int x1), (2, .int x2)] → W p l e rm_X6_register s m args below meth c H locs 0 0 (MQ below (QQ g LX (some (.int o.1)) o.2) args s 0 0 (Ar g LX)) (F0 m 56 ls []) := by
  obtain ⟨hx, hb, hml, hown, hT, hr, hlk, hK, hJ, hZ, hN⟩ := id hB
  intro n
  induction n with
  | zero =>
    intro x1 x2 V H locs ls hE hz hl
    exact absurd (show (none : Option (Int32 × Mem)) = some o from hE) (by simp)
  | succ n ih =>
    intro x1 x2 V H locs ls hE hz hl
    unfold f_X6_register_56 at hE
    refine lv_iload_n hx hb dX6_register_56 rfl (lv_at hl 2 rfl) ?_
    refine lv_aload_n hx hb dX6_register_57 rfl (lv_at hl 0 rfl) ?_
    refine g_X6_25 hB hz kdX_0 dX6_register_58 ?_
    refine g_X6_146 hB hz kdX_4 dX6_register_61 ?_
    refine lv_icmp_ge (tgt := 95) hx hb dX6_register_64 (by decide) (fun c64 => ?_) (fun c64 => ?_)
    · have hE := (if_pos c64).symm.trans hE
      refine lv_ldc (v := (-1000000 : Int32)) hx hb hown (hT _ kw_527) dX6_register_95 ?_
      exact x_iret hB hz hE dX6_register_97
    · have hE := (if_neg c64).symm.trans hE
      refine lv_aload_n hx hb dX6_register_67 rfl (lv_at hl 0 rfl) ?_
      refine g_X6_25 hB hz kdX_0 dX6_register_68 ?_
      refine lv_iload_n hx hb dX6_register_71 rfl (lv_at hl 2 rfl) ?_
      obtain ⟨q72, hq72, hE⟩ := x_bind hE
      refine i_X6_227 hB hz kdX_4 (c_X3_isLabelled l g kdX_4 hq72) ⟨(Nat.le_of_ble_eq_true rfl), (Nat.le_of_ble_eq_true rfl)⟩ hl.1 (Nat.le_of_ble_eq_true rfl) dX6_register_72 (fun H locs hz => ?_)
      refine lv_if_eq (tgt := 89) hx hb dX6_register_75 (by decide) (fun c75 => ?_) (fun c75 => ?_)
      · have hE := (if_pos c75).symm.trans hE
        exact w_X6_register_89 hB ih _ _ _ _ _ _  hE hz (lv_sub hl [0, 1, 2] rfl)
      · have hE := (if_neg c75).symm.trans hE
        refine lv_aload_n hx hb dX6_register_78 rfl (lv_at hl 0 rfl) ?_
        refine lv_iload_n hx hb dX6_register_79 rfl (lv_at hl 2 rfl) ?_
        obtain ⟨q80, hq80, hE⟩ := x_bind hE
        refine i_X6_230 hB hz kdX_0 (c_X6_registeredAhead l g  hq80) ⟨(Nat.le_of_ble_eq_true rfl), (Nat.le_of_ble_eq_true rfl)⟩ hl.1 (Nat.le_of_ble_eq_true rfl) dX6_register_80 (fun H locs hz => ?_)
        refine lv_iload_n hx hb dX6_register_83 rfl (lv_at hl 1 rfl) ?_
        refine lv_icmp_ne (tgt := 89) hx hb dX6_register_84 (by decide) (fun c84 => ?_) (fun c84 => ?_)
        · have hE := (if_neg c84).symm.trans hE
          exact w_X6_register_89 hB ih _ _ _ _ _ _  hE hz (lv_sub hl [0, 1, 2] rfl)
        · have hE := (if_pos c84).symm.trans hE
          refine lv_iload_n hx hb dX6_register_87 rfl (lv_at hl 2 rfl) ?_
          exact x_iret hB hz hE dX6_register_88

set_option maxHeartbeats 4000000 in
set_option maxRecDepth 100000 in
theorem w_X6_register_22 {p : Program} {l : Launch} {e : Env} {s : State} {m : MethodId} {args : Array Value} {below : List Frame} {meth : Method} {c : Code} {g : GP} (hB : BX p s m args meth c g LX cX6_register 3 RX6 (some .int)) {o : Int32 × Mem} : ∀ (n : Nat), ∀ (x1 : Int32) (x2 : Int32) (V : Mem) (H : Heap) (locs : List Loc) (ls : Array Slot), f_X6_register_22 n x1 x2 V = some o → OK g LX V s H locs → lv_has ls 3 [(0, .ref (ad g 0)), (1, .int x1), (2, .int x2)] → W p l e rm_X6_register s m args below meth c H locs 0 0 (MQ below (QQ g LX (some (.int o.1)) o.2) args s 0 0 (Ar g LX)) (F0 m 22 ls []) := by
  obtain ⟨hx, hb, hml, hown, hT, hr, hlk, hK, hJ, hZ, hN⟩ := id hB
  intro n
  induction n with
  | zero =>
    intro x1 x2 V H locs ls hE hz hl
    exact absurd (show (none : Option (Int32 × Mem)) = some o from hE) (by simp)
  | succ n ih =>
    intro x1 x2 V H locs ls hE hz hl
    unfold f_X6_register_22 at hE
    refine lv_iload_n hx hb dX6_register_22 rfl (lv_at hl 2 rfl) ?_
    refine lv_aload_n hx hb dX6_register_23 rfl (lv_at hl 0 rfl) ?_
    refine g_X6_25 hB hz kdX_0 dX6_register_24 ?_
    refine g_X6_146 hB hz kdX_4 dX6_register_27 ?_
    refine lv_icmp_ge (tgt := 54) hx hb dX6_register_30 (by decide) (fun c30 => ?_) (fun c30 => ?_)
    · have hE := (if_pos c30).symm.trans hE
      refine lv_iconst (v := (0 : Int32)) hx hb dX6_register_54 (by decide) ?_
      refine lv_istore_n (lv' := [(2, .int (0 : Int32)), (0, .ref (ad g 0)), (1, .int x1)]) hx hb dX6_register_55 rfl hl (by decide) rfl (fun ls hl => ?_)
      exact w_X6_register_56 hB  _ _ _ _ _ _ _  hE hz (lv_sub hl [1, 2, 0] rfl)
    · have hE := (if_neg c30).symm.trans hE
      refine lv_aload_n hx hb dX6_register_33 rfl (lv_at hl 0 rfl) ?_
      refine g_X6_25 hB hz kdX_0 dX6_register_34 ?_
      refine lv_iload_n hx hb dX6_register_37 rfl (lv_at hl 2 rfl) ?_
      refine lv_iconst (v := (0 : Int32)) hx hb dX6_register_38 (by decide) ?_
      refine lv_aload_n hx hb dX6_register_39 rfl (lv_at hl 0 rfl) ?_
      refine g_X6_45 hB hz kdX_0 dX6_register_40 ?_
      refine lv_iload_n hx hb dX6_register_43 rfl (lv_at hl 2 rfl) ?_
      obtain ⟨hi44, hE⟩ := x_chk hE
      refine x_aalS hB hz kdX_93 hi44 dX6_register_44 ?_
      obtain ⟨q45, hq45, hE⟩ := x_bind hE
      refine i_X6_202 hB hz kdX_4 (c_X3_writeLabel l g kdX_4 (kd_sn hi44) hq45) ⟨(Nat.le_of_ble_eq_true rfl), (Nat.le_of_ble_eq_true rfl)⟩ hl.1 (Nat.le_of_ble_eq_true rfl) dX6_register_45 (fun H locs hz => ?_)
      refine lv_iinc (v := (x2 + 1)) (lv' := [(2, .int (x2 + 1)), (0, .ref (ad g 0)), (1, .int x1)]) hx hb dX6_register_48 hl (k := 2) rfl rfl (by decide) rfl (fun ls hl => ?_)
      refine lv_goto (tgt := 22) hx hb dX6_register_51 (by decide) ?_
      exact ih _ _ _ _ _ _  hE hz (lv_sub hl [1, 2, 0] rfl)

set_option maxHeartbeats 4000000 in
set_option maxRecDepth 100000 in
theorem w_X6_register {p : Program} {l : Launch} {e : Env} {s : State} {m : MethodId} {args : Array Value} {below : List Frame} {meth : Method} {c : Code} {g : GP} (hB : BX p s m args meth c g LX cX6_register 3 RX6 (some .int)) {o : Int32 × Mem} : ∀ (x1 : Int32) (V : Mem) (H : Heap) (locs : List Loc) (ls : Array Slot), f_X6_register x1 V = some o → OK g LX V s H locs → lv_has ls 3 [(0, .ref (ad g 0)), (1, .int x1)] → W p l e rm_X6_register s m args below meth c H locs 0 0 (MQ below (QQ g LX (some (.int o.1)) o.2) args s 0 0 (Ar g LX)) (F0 m 0 ls []) := by
  obtain ⟨hx, hb, hml, hown, hT, hr, hlk, hK, hJ, hZ, hN⟩ := id hB
  intro x1 V H locs ls hE hz hl
  unfold f_X6_register at hE
  refine lv_aload_n hx hb dX6_register_0 rfl (lv_at hl 0 rfl) ?_
  refine g_X6_25 hB hz kdX_0 dX6_register_1 ?_
  obtain ⟨q4, hq4, hE⟩ := x_bind hE
  refine i_X6_152 hB hz kdX_4 (c_X3_isNone l g kdX_4 hq4) ⟨(Nat.le_of_ble_eq_true rfl), (Nat.le_of_ble_eq_true rfl)⟩ hl.1 (Nat.le_of_ble_eq_true rfl) dX6_register_4 (fun H locs hz => ?_)
  refine lv_if_eq (tgt := 13) hx hb dX6_register_7 (by decide) (fun c7 => ?_) (fun c7 => ?_)
  · have hE := (if_pos c7).symm.trans hE
    refine lv_iload_n hx hb dX6_register_13 rfl (lv_at hl 1 rfl) ?_
    refine lv_if_ge (tgt := 20) hx hb dX6_register_14 (by decide) (fun c14 => ?_) (fun c14 => ?_)
    · have hE := (if_pos c14).symm.trans hE
      refine lv_iconst (v := (0 : Int32)) hx hb dX6_register_20 (by decide) ?_
      refine lv_istore_n (lv' := [(2, .int (0 : Int32)), (0, .ref (ad g 0)), (1, .int x1)]) hx hb dX6_register_21 rfl hl (by decide) rfl (fun ls hl => ?_)
      exact w_X6_register_22 hB  _ _ _ _ _ _ _  hE hz (lv_sub hl [1, 2, 0] rfl)
    · have hE := (if_neg c14).symm.trans hE
      refine lv_ldc (v := (-1000001 : Int32)) hx hb hown (hT _ kw_264) dX6_register_17 ?_
      exact x_iret hB hz hE dX6_register_19
  · have hE := (if_neg c7).symm.trans hE
    refine lv_ldc (v := (-1000002 : Int32)) hx hb hown (hT _ kw_401) dX6_register_10 ?_
    exact x_iret hB hz hE dX6_register_12
theorem c_X6_register (l : Launch) (g : GP) {x1 : Int32} {V : Mem} {o : Int32 × Mem} (hE : f_X6_register x1 V = some o) : CT l g LX yX6_register cX6_register 3 (some .int) rm_X6_register [.ref (ad g 0), .int x1] V (some (.int o.1)) o.2 := by
  refine ct_of (by decide) (Nat.le_of_ble_eq_true rfl) ?_
  intro p e s m args below meth c ls hB hz hl
  exact w_X6_register hB _ _ _ _ _  hE hz hl
def rm_X6_bears : Room := { frames := 5, cells := 0, slots := 0, locals := 193 }
theorem i_X6_234 {p : Program} {l : Launch} {e : Env} {R : Room} {s : State} {m : MethodId} {args : Array Value} {below : List Frame} {meth : Method} {c : Code} {H : Heap} {locs : List Loc} {Q : State → Prop} {cc : ByteArray} {pc : Nat} {ls : Array Slot} {rest : List Value} {g : GP} {V : Mem} {nL : Nat} {ret : Option FieldType} (hB : BX p s m args meth c g LX cc nL RX6 ret) (hz : OK g LX V s H locs) {i : Nat} (hk : KD LX i 3) {a0 : Nat} {a1 : Int32} {a2 : Int32} {r : Int32} {V1 : Mem} (hM : CT l g LX yX4_areItems cX4_areItems 5 (some .boolean) rm_X4_areItems [.ref (ad g i), .ref (ad g a0), .int a1, .int a2] V (some (.int r)) V1) (hR : rm_X4_areItems.frames + 1 ≤ R.frames ∧ 8 + (5 + 11) + rm_X4_areItems.locals ≤ R.locals) (hsz : ls.size = nL) (hrest : (rest.map fun v => v.category).sum ≤ 8) (hdg : decode cc pc = .ok (.invokevirtual 234, 3)) (kk : ∀ (H1 : Heap) (locs1 : List Loc), OK g LX V1 s H1 locs1 → W p l e R s m args below meth c H1 locs1 0 0 Q (F0 m (pc + 3) ls (.int r :: rest))) : W p l e R s m args below meth c H locs 0 0 Q (F0 m pc ls (.int a2 :: .int a1 :: .ref (ad g a0) :: .ref (ad g i) :: rest)) :=
  x_cv (As := [.ref (ad g a0), .int a1, .int a2]) (n := 3) (T := TX4) (N := 2) hB hz hM hk rfl rfl rfl rfl kw_570 kw_66 kw_567 kw_568 kw_569 (by decide +kernel) rfl hR hsz hrest hdg kk
set_option maxHeartbeats 4000000 in
set_option maxRecDepth 100000 in
theorem w_X6_bears_65 {p : Program} {l : Launch} {e : Env} {s : State} {m : MethodId} {args : Array Value} {below : List Frame} {meth : Method} {c : Code} {g : GP} (hB : BX p s m args meth c g LX cX6_bears 7 RX6 (some .int)) {o : Int32 × Mem} : ∀ (n : Nat), ∀ (x2 : Int32) (x3 : Int32) (r4 : Nat) (x6 : Int32) (V : Mem) (H : Heap) (locs : List Loc) (ls : Array Slot), KD LX r4 1 → f_X6_bears_65 n x2 x3 r4 x6 V = some o → OK g LX V s H locs → lv_has ls 7 [(0, .ref (ad g 0)), (2, .int x2), (3, .int x3), (4, .ref (ad g r4)), (6, .int x6)] → W p l e rm_X6_bears s m args below meth c H locs 0 0 (MQ below (QQ g LX (some (.int o.1)) o.2) args s 0 0 (Ar g LX)) (F0 m 65 ls []) := by
  obtain ⟨hx, hb, hml, hown, hT, hr, hlk, hK, hJ, hZ, hN⟩ := id hB
  intro n
  induction n with
  | zero =>
    intro x2 x3 r4 x6 V H locs ls k_r4 hE hz hl
    exact absurd (show (none : Option (Int32 × Mem)) = some o from hE) (by simp)
  | succ n ih =>
    intro x2 x3 r4 x6 V H locs ls k_r4 hE hz hl
    unfold f_X6_bears_65 at hE
    refine lv_iload hx hb dX6_bears_65 (lv_at hl 4 rfl) ?_
    refine lv_aload_n hx hb dX6_bears_67 rfl (lv_at hl 0 rfl) ?_
    refine g_X6_25 hB hz kdX_0 dX6_bears_68 ?_
    refine g_X6_146 hB hz kdX_4 dX6_bears_71 ?_
    refine lv_icmp_ge (tgt := 118) hx hb dX6_bears_74 (by decide) (fun c74 => ?_) (fun c74 => ?_)
    · have hE := (if_pos c74).symm.trans hE
      refine lv_aload_n hx hb dX6_bears_118 rfl (lv_at hl 0 rfl) ?_
      refine lv_ldc (v := (-1000000 : Int32)) hx hb hown (hT _ kw_527) dX6_bears_119 ?_
      obtain ⟨q121, hq121, hE⟩ := x_bind hE
      refine i_X6_92 hB hz kdX_0 (c_X6_foundNothing l g  hq121) ⟨(Nat.le_of_ble_eq_true rfl), (Nat.le_of_ble_eq_true rfl)⟩ hl.1 (Nat.le_of_ble_eq_true rfl) dX6_bears_121 (fun H locs hz => ?_)
      exact x_iret hB hz hE dX6_bears_124
    · have hE := (if_neg c74).symm.trans hE
      refine lv_aload_n hx hb dX6_bears_77 rfl (lv_at hl 0 rfl) ?_
      refine g_X6_25 hB hz kdX_0 dX6_bears_78 ?_
      refine lv_iload hx hb dX6_bears_81 (lv_at hl 4 rfl) ?_
      refine lv_iconst (v := (0 : Int32)) hx hb dX6_bears_83 (by decide) ?_
      refine lv_aload_n hx hb dX6_bears_84 rfl (lv_at hl 0 rfl) ?_
      refine g_X6_50 hB hz kdX_0 dX6_bears_85 ?_
      obtain ⟨q88, hq88, hE⟩ := x_bind hE
      refine i_X6_202 hB hz kdX_4 (c_X3_writeLabel l g kdX_4 kdX_94 hq88) ⟨(Nat.le_of_ble_eq_true rfl), (Nat.le_of_ble_eq_true rfl)⟩ hl.1 (Nat.le_of_ble_eq_true rfl) dX6_bears_88 (fun H locs hz => ?_)
      refine lv_aload_n hx hb dX6_bears_91 rfl (lv_at hl 0 rfl) ?_
      refine g_X6_50 hB hz kdX_0 dX6_bears_92 ?_
      refine lv_aload hx hb dX6_bears_95 (lv_at hl 3 rfl) ?_
      refine lv_iload_n hx hb dX6_bears_97 rfl (lv_at hl 1 rfl) ?_
      refine lv_iload_n hx hb dX6_bears_98 rfl (lv_at hl 2 rfl) ?_
      obtain ⟨q99, hq99, hE⟩ := x_bind hE
      refine i_X6_234 hB hz kdX_94 (c_X4_areItems l g kdX_94 k_r4 hq99) ⟨(Nat.le_of_ble_eq_true rfl), (Nat.le_of_ble_eq_true rfl)⟩ hl.1 (Nat.le_of_ble_eq_true rfl) dX6_bears_99 (fun H locs hz => ?_)
      refine lv_if_eq (tgt := 112) hx hb dX6_bears_102 (by decide) (fun c102 => ?_) (fun c102 => ?_)
      · have hE := (if_pos c102).symm.trans hE
        refine lv_iinc (v := (x6 + 1)) (lv' := [(6, .int (x6 + 1)), (0, .ref (ad g 0)), (2, .int x2), (3, .int x3), (4, .ref (ad g r4))]) hx hb dX6_bears_112 hl (k := 4) rfl rfl (by decide) rfl (fun ls hl => ?_)
        refine lv_goto (tgt := 65) hx hb dX6_bears_115 (by decide) ?_
        exact ih _ _ _ _ _ _ _ _ k_r4 hE hz (lv_sub hl [1, 2, 3, 4, 0] rfl)
      · have hE := (if_neg c102).symm.trans hE
        refine lv_aload_n hx hb dX6_bears_105 rfl (lv_at hl 0 rfl) ?_
        refine lv_iload hx hb dX6_bears_106 (lv_at hl 4 rfl) ?_
        obtain ⟨q108, hq108, hE⟩ := x_bind hE
        refine i_X6_92 hB hz kdX_0 (c_X6_foundNothing l g  hq108) ⟨(Nat.le_of_ble_eq_true rfl), (Nat.le_of_ble_eq_true rfl)⟩ hl.1 (Nat.le_of_ble_eq_true rfl) dX6_bears_108 (fun H locs hz => ?_)
        exact x_iret hB hz hE dX6_bears_111

set_option maxHeartbeats 4000000 in
set_option maxRecDepth 100000 in
theorem w_X6_bears {p : Program} {l : Launch} {e : Env} {s : State} {m : MethodId} {args : Array Value} {below : List Frame} {meth : Method} {c : Code} {g : GP} (hB : BX p s m args meth c g LX cX6_bears 7 RX6 (some .int)) {o : Int32 × Mem} : ∀ (x1 : Int32) (x2 : Int32) (x3 : Int32) (V : Mem) (H : Heap) (locs : List Loc) (ls : Array Slot), f_X6_bears x1 x2 x3 V = some o → OK g LX V s H locs → lv_has ls 7 [(0, .ref (ad g 0)), (1, .int x1), (2, .int x2), (3, .int x3)] → W p l e rm_X6_bears s m args below meth c H locs 0 0 (MQ below (QQ g LX (some (.int o.1)) o.2) args s 0 0 (Ar g LX)) (F0 m 0 ls []) := by
  obtain ⟨hx, hb, hml, hown, hT, hr, hlk, hK, hJ, hZ, hN⟩ := id hB
  intro x1 x2 x3 V H locs ls hE hz hl
  unfold f_X6_bears at hE
  refine lv_aload_n hx hb dX6_bears_0 rfl (lv_at hl 0 rfl) ?_
  refine g_X6_25 hB hz kdX_0 dX6_bears_1 ?_
  obtain ⟨q4, hq4, hE⟩ := x_bind hE
  refine i_X6_152 hB hz kdX_4 (c_X3_isNone l g kdX_4 hq4) ⟨(Nat.le_of_ble_eq_true rfl), (Nat.le_of_ble_eq_true rfl)⟩ hl.1 (Nat.le_of_ble_eq_true rfl) dX6_bears_4 (fun H locs hz => ?_)
  refine lv_if_eq (tgt := 13) hx hb dX6_bears_7 (by decide) (fun c7 => ?_) (fun c7 => ?_)
  · have hE := (if_pos c7).symm.trans hE
    refine lv_iload_n hx hb dX6_bears_13 rfl (lv_at hl 1 rfl) ?_
    obtain ⟨q14, hq14, hE⟩ := x_bind hE
    refine i_X6_75 hB hz (c_X6_isRow l g  hq14) ⟨(Nat.le_of_ble_eq_true rfl), (Nat.le_of_ble_eq_true rfl)⟩ hl.1 (Nat.le_of_ble_eq_true rfl) dX6_bears_14 (fun H locs hz => ?_)
    refine lv_if_eq (tgt := 30) hx hb dX6_bears_17 (by decide) (fun c17 => ?_) (fun c17 => ?_)
    · have hE := (if_pos c17).symm.trans hE
      refine lv_ldc (v := (-1000001 : Int32)) hx hb hown (hT _ kw_264) dX6_bears_30 ?_
      exact x_iret hB hz hE dX6_bears_32
    · have hE := (if_neg c17).symm.trans hE
      refine lv_iload_n hx hb dX6_bears_20 rfl (lv_at hl 3 rfl) ?_
      refine lv_iconst (v := (1 : Int32)) hx hb dX6_bears_21 (by decide) ?_
      refine lv_bipush (v := (40 : Int32)) hx hb dX6_bears_22 (by decide) ?_
      obtain ⟨q24, hq24, hE⟩ := x_bind hE
      refine i_X6_79 hB hz (c_X6_isBetween l g  hq24) ⟨(Nat.le_of_ble_eq_true rfl), (Nat.le_of_ble_eq_true rfl)⟩ hl.1 (Nat.le_of_ble_eq_true rfl) dX6_bears_24 (fun H locs hz => ?_)
      refine lv_if_ne (tgt := 33) hx hb dX6_bears_27 (by decide) (fun c27 => ?_) (fun c27 => ?_)
      · have hE := (if_neg c27).symm.trans hE
        refine lv_aload_n hx hb dX6_bears_33 rfl (lv_at hl 0 rfl) ?_
        refine g_X6_11 hB hz kdX_0 dX6_bears_34 ?_
        refine lv_iload_n hx hb dX6_bears_37 rfl (lv_at hl 1 rfl) ?_
        obtain ⟨hi38, hE⟩ := x_chk hE
        refine x_aalR hB hz kdX_1 hi38 dX6_bears_38 ?_
        refine lv_astore (lv' := [(4, .ref (ad g (99 + 2 * (x1).toNatClampNeg))), (0, .ref (ad g 0)), (1, .int x1), (2, .int x2), (3, .int x3)]) hx hb dX6_bears_39 hl (by decide) rfl (fun ls hl => ?_)
        refine lv_aload hx hb dX6_bears_41 (lv_at hl 0 rfl) ?_
        refine lv_iload_n hx hb dX6_bears_43 rfl (lv_at hl 3 rfl) ?_
        refine lv_iload_n hx hb dX6_bears_44 rfl (lv_at hl 4 rfl) ?_
        obtain ⟨q45, hq45, hE⟩ := x_bind hE
        refine i_X6_95 hB hz (kd_rw hi38) (c_X2_findingAt l g (kd_rw hi38) hq45) ⟨(Nat.le_of_ble_eq_true rfl), (Nat.le_of_ble_eq_true rfl)⟩ hl.1 (Nat.le_of_ble_eq_true rfl) dX6_bears_45 (fun H locs hz => ?_)
        refine lv_istore (lv' := [(5, .int q45.1), (4, .ref (ad g (99 + 2 * (x1).toNatClampNeg))), (0, .ref (ad g 0)), (1, .int x1), (2, .int x2), (3, .int x3)]) hx hb dX6_bears_48 hl (by decide) rfl (fun ls hl => ?_)
        refine lv_iload hx hb dX6_bears_50 (lv_at hl 0 rfl) ?_
        refine lv_if_eq (tgt := 62) hx hb dX6_bears_52 (by decide) (fun c52 => ?_) (fun c52 => ?_)
        · have hE := (if_pos c52).symm.trans hE
          refine lv_iconst (v := (0 : Int32)) hx hb dX6_bears_62 (by decide) ?_
          refine lv_istore (lv' := [(6, .int (0 : Int32)), (5, .int q45.1), (4, .ref (ad g (99 + 2 * (x1).toNatClampNeg))), (0, .ref (ad g 0)), (1, .int x1), (2, .int x2), (3, .int x3)]) hx hb dX6_bears_63 hl (by decide) rfl (fun ls hl => ?_)
          exact w_X6_bears_65 hB  _ _ _ _ _ _ _ _ _ (kd_rw hi38) hE hz (lv_sub hl [3, 5, 6, 2, 0] rfl)
        · have hE := (if_neg c52).symm.trans hE
          refine lv_aload_n hx hb dX6_bears_55 rfl (lv_at hl 2 rfl) ?_
          refine lv_iload hx hb dX6_bears_56 (lv_at hl 0 rfl) ?_
          obtain ⟨q58, hq58, hE⟩ := x_bind hE
          refine i_X6_84 hB hz kdX_0 (c_X6_found l g  hq58) ⟨(Nat.le_of_ble_eq_true rfl), (Nat.le_of_ble_eq_true rfl)⟩ hl.1 (Nat.le_of_ble_eq_true rfl) dX6_bears_58 (fun H locs hz => ?_)
          exact x_iret hB hz hE dX6_bears_61
      · have hE := (if_pos c27).symm.trans hE
        refine lv_ldc (v := (-1000001 : Int32)) hx hb hown (hT _ kw_264) dX6_bears_30 ?_
        exact x_iret hB hz hE dX6_bears_32
  · have hE := (if_neg c7).symm.trans hE
    refine lv_ldc (v := (-1000002 : Int32)) hx hb hown (hT _ kw_401) dX6_bears_10 ?_
    exact x_iret hB hz hE dX6_bears_12
theorem c_X6_bears (l : Launch) (g : GP) {x1 : Int32} {x2 : Int32} {x3 : Int32} {V : Mem} {o : Int32 × Mem} (hE : f_X6_bears x1 x2 x3 V = some o) : CT l g LX yX6_bears cX6_bears 7 (some .int) rm_X6_bears [.ref (ad g 0), .int x1, .int x2, .int x3] V (some (.int o.1)) o.2 := by
  refine ct_of (by decide) (Nat.le_of_ble_eq_true rfl) ?_
  intro p e s m args below meth c ls hB hz hl
  exact w_X6_bears hB _ _ _ _ _ _ _  hE hz hl
def rm_X6_changed : Room := { frames := 5, cells := 0, slots := 0, locals := 193 }
set_option maxHeartbeats 4000000 in
set_option maxRecDepth 100000 in
theorem w_X6_changed_120 {p : Program} {l : Launch} {e : Env} {s : State} {m : MethodId} {args : Array Value} {below : List Frame} {meth : Method} {c : Code} {g : GP} (hB : BX p s m args meth c g LX cX6_changed 4 RX6 (some .int)) {o : Int32 × Mem} {k51 : Int32 → Int32 → Int32 → Mem → Option (Int32 × Mem)} (hk51 : ∀ (x1 : Int32) (x2 : Int32) (x3 : Int32) (V : Mem) (H : Heap) (locs : List Loc) (ls : Array Slot), k51 x1 x2 x3 V = some o → OK g LX V s H locs → lv_has ls 4 [(0, .ref (ad g 0)), (1, .int x1), (2, .int x2), (3, .int x3)] → W p l e rm_X6_changed s m args below meth c H locs 0 0 (MQ below (QQ g LX (some (.int o.1)) o.2) args s 0 0 (Ar g LX)) (F0 m 51 ls [])) : ∀ (x1 : Int32) (x2 : Int32) (x3 : Int32) (V : Mem) (H : Heap) (locs : List Loc) (ls : Array Slot), f_X6_changed_120 k51 x1 x2 x3 V = some o → OK g LX V s H locs → lv_has ls 4 [(0, .ref (ad g 0)), (1, .int x1), (2, .int x2), (3, .int x3)] → W p l e rm_X6_changed s m args below meth c H locs 0 0 (MQ below (QQ g LX (some (.int o.1)) o.2) args s 0 0 (Ar g LX)) (F0 m 120 ls []) := by
  obtain ⟨hx, hb, hml, hown, hT, hr, hlk, hK, hJ, hZ, hN⟩ := id hB
  intro x1 x2 x3 V H locs ls hE hz hl
  unfold f_X6_changed_120 at hE
  refine lv_iinc (v := (x3 + 1)) (lv' := [(3, .int (x3 + 1)), (0, .ref (ad g 0)), (1, .int x1), (2, .int x2)]) hx hb dX6_changed_120 hl (k := 3) rfl rfl (by decide) rfl (fun ls hl => ?_)
  refine lv_goto (tgt := 51) hx hb dX6_changed_123 (by decide) ?_
  exact hk51 _ _ _ _ _ _ _  hE hz (lv_sub hl [1, 2, 3, 0] rfl)

set_option maxHeartbeats 4000000 in
set_option maxRecDepth 100000 in
theorem w_X6_changed_78_c4 {p : Program} {l : Launch} {e : Env} {s : State} {m : MethodId} {args : Array Value} {below : List Frame} {meth : Method} {c : Code} {g : GP} (hB : BX p s m args meth c g LX cX6_changed 4 RX6 (some .int)) {o : Int32 × Mem} {k51 : Int32 → Int32 → Int32 → Mem → Option (Int32 × Mem)} (hk51 : ∀ (x1 : Int32) (x2 : Int32) (x3 : Int32) (V : Mem) (H : Heap) (locs : List Loc) (ls : Array Slot), k51 x1 x2 x3 V = some o → OK g LX V s H locs → lv_has ls 4 [(0, .ref (ad g 0)), (1, .int x1), (2, .int x2), (3, .int x3)] → W p l e rm_X6_changed s m args below meth c H locs 0 0 (MQ below (QQ g LX (some (.int o.1)) o.2) args s 0 0 (Ar g LX)) (F0 m 51 ls [])) : ∀ (x1 : Int32) (x2 : Int32) (x3 : Int32) (s1 : Int32) (V : Mem) (H : Heap) (locs : List Loc) (ls : Array Slot), f_X6_changed_78_c4 k51 x1 x2 x3 s1 V = some o → OK g LX V s H locs → lv_has ls 4 [(0, .ref (ad g 0)), (1, .int x1), (2, .int x2), (3, .int x3)] → W p l e rm_X6_changed s m args below meth c H locs 0 0 (MQ below (QQ g LX (some (.int o.1)) o.2) args s 0 0 (Ar g LX)) (F0 m 78 ls [.int s1, .ref (ad g 4)]) := by
  obtain ⟨hx, hb, hml, hown, hT, hr, hlk, hK, hJ, hZ, hN⟩ := id hB
  intro x1 x2 x3 s1 V H locs ls hE hz hl
  unfold f_X6_changed_78_c4 at hE
  refine lv_iconst (v := (0 : Int32)) hx hb dX6_changed_78 (by decide) ?_
  refine lv_aload_n hx hb dX6_changed_79 rfl (lv_at hl 0 rfl) ?_
  refine g_X6_45 hB hz kdX_0 dX6_changed_80 ?_
  refine lv_iload_n hx hb dX6_changed_83 rfl (lv_at hl 3 rfl) ?_
  obtain ⟨hi84, hE⟩ := x_chk hE
  refine x_aalS hB hz kdX_93 hi84 dX6_changed_84 ?_
  obtain ⟨q85, hq85, hE⟩ := x_bind hE
  refine i_X6_202 hB hz kdX_4 (c_X3_writeLabel l g kdX_4 (kd_sn hi84) hq85) ⟨(Nat.le_of_ble_eq_true rfl), (Nat.le_of_ble_eq_true rfl)⟩ hl.1 (Nat.le_of_ble_eq_true rfl) dX6_changed_85 (fun H locs hz => ?_)
  refine lv_aload_n hx hb dX6_changed_88 rfl (lv_at hl 0 rfl) ?_
  refine g_X6_29 hB hz kdX_0 dX6_changed_89 ?_
  refine lv_iload_n hx hb dX6_changed_92 rfl (lv_at hl 3 rfl) ?_
  refine lv_iconst (v := (0 : Int32)) hx hb dX6_changed_93 (by decide) ?_
  refine lv_aload_n hx hb dX6_changed_94 rfl (lv_at hl 0 rfl) ?_
  refine g_X6_50 hB hz kdX_0 dX6_changed_95 ?_
  obtain ⟨q98, hq98, hE⟩ := x_bind hE
  refine i_X6_202 hB hz kdX_35 (c_X3_writeLabel l g kdX_35 kdX_94 hq98) ⟨(Nat.le_of_ble_eq_true rfl), (Nat.le_of_ble_eq_true rfl)⟩ hl.1 (Nat.le_of_ble_eq_true rfl) dX6_changed_98 (fun H locs hz => ?_)
  refine lv_aload_n hx hb dX6_changed_101 rfl (lv_at hl 0 rfl) ?_
  refine g_X6_45 hB hz kdX_0 dX6_changed_102 ?_
  refine lv_iload_n hx hb dX6_changed_105 rfl (lv_at hl 3 rfl) ?_
  obtain ⟨hi106, hE⟩ := x_chk hE
  refine x_aalS hB hz kdX_93 hi106 dX6_changed_106 ?_
  refine lv_aload_n hx hb dX6_changed_107 rfl (lv_at hl 0 rfl) ?_
  refine g_X6_50 hB hz kdX_0 dX6_changed_108 ?_
  obtain ⟨q111, hq111, hE⟩ := x_bind hE
  refine i_X6_238 hB hz (kd_sn hi106) (c_X4_order l g (kd_sn hi106) kdX_94 hq111) ⟨(Nat.le_of_ble_eq_true rfl), (Nat.le_of_ble_eq_true rfl)⟩ hl.1 (Nat.le_of_ble_eq_true rfl) dX6_changed_111 (fun H locs hz => ?_)
  refine lv_if_eq (tgt := 120) hx hb dX6_changed_114 (by decide) (fun c114 => ?_) (fun c114 => ?_)
  · have hE := (if_pos c114).symm.trans hE
    exact w_X6_changed_120 hB hk51 _ _ _ _ _ _ _  hE hz (lv_sub hl [0, 1, 2, 3] rfl)
  · have hE := (if_neg c114).symm.trans hE
    refine lv_iinc (v := (x2 + 1)) (lv' := [(2, .int (x2 + 1)), (0, .ref (ad g 0)), (1, .int x1), (3, .int x3)]) hx hb dX6_changed_117 hl (k := 2) rfl rfl (by decide) rfl (fun ls hl => ?_)
    exact w_X6_changed_120 hB hk51 _ _ _ _ _ _ _  hE hz (lv_sub hl [1, 2, 0, 3] rfl)

set_option maxHeartbeats 4000000 in
set_option maxRecDepth 100000 in
theorem w_X6_changed_51 {p : Program} {l : Launch} {e : Env} {s : State} {m : MethodId} {args : Array Value} {below : List Frame} {meth : Method} {c : Code} {g : GP} (hB : BX p s m args meth c g LX cX6_changed 4 RX6 (some .int)) {o : Int32 × Mem} : ∀ (n : Nat), ∀ (x1 : Int32) (x2 : Int32) (x3 : Int32) (V : Mem) (H : Heap) (locs : List Loc) (ls : Array Slot), f_X6_changed_51 n x1 x2 x3 V = some o → OK g LX V s H locs → lv_has ls 4 [(0, .ref (ad g 0)), (1, .int x1), (2, .int x2), (3, .int x3)] → W p l e rm_X6_changed s m args below meth c H locs 0 0 (MQ below (QQ g LX (some (.int o.1)) o.2) args s 0 0 (Ar g LX)) (F0 m 51 ls []) := by
  obtain ⟨hx, hb, hml, hown, hT, hr, hlk, hK, hJ, hZ, hN⟩ := id hB
  intro n
  induction n with
  | zero =>
    intro x1 x2 x3 V H locs ls hE hz hl
    exact absurd (show (none : Option (Int32 × Mem)) = some o from hE) (by simp)
  | succ n ih =>
    intro x1 x2 x3 V H locs ls hE hz hl
    unfold f_X6_changed_51 at hE
    refine lv_iload_n hx hb dX6_changed_51 rfl (lv_at hl 3 rfl) ?_
    refine lv_aload_n hx hb dX6_changed_52 rfl (lv_at hl 0 rfl) ?_
    refine g_X6_29 hB hz kdX_0 dX6_changed_53 ?_
    refine g_X6_146 hB hz kdX_35 dX6_changed_56 ?_
    refine lv_icmp_ge (tgt := 126) hx hb dX6_changed_59 (by decide) (fun c59 => ?_) (fun c59 => ?_)
    · have hE := (if_pos c59).symm.trans hE
      refine lv_iload_n hx hb dX6_changed_126 rfl (lv_at hl 2 rfl) ?_
      exact x_iret hB hz hE dX6_changed_127
    · have hE := (if_neg c59).symm.trans hE
      refine lv_aload_n hx hb dX6_changed_62 rfl (lv_at hl 0 rfl) ?_
      refine g_X6_25 hB hz kdX_0 dX6_changed_63 ?_
      refine lv_iload_n hx hb dX6_changed_66 rfl (lv_at hl 3 rfl) ?_
      refine lv_iload_n hx hb dX6_changed_67 rfl (lv_at hl 1 rfl) ?_
      refine lv_icmp_ge (tgt := 75) hx hb dX6_changed_68 (by decide) (fun c68 => ?_) (fun c68 => ?_)
      · have hE := (if_pos c68).symm.trans hE
        refine lv_iload_n hx hb dX6_changed_75 rfl (lv_at hl 3 rfl) ?_
        refine lv_iconst (v := (1 : Int32)) hx hb dX6_changed_76 (by decide) ?_
        refine lv_iadd hx hb dX6_changed_77 ?_
        exact w_X6_changed_78_c4 hB ih _ _ _ _ _ _ _ _  hE hz (lv_sub hl [0, 1, 2, 3] rfl)
      · have hE := (if_neg c68).symm.trans hE
        refine lv_iload_n hx hb dX6_changed_71 rfl (lv_at hl 3 rfl) ?_
        refine lv_goto (tgt := 78) hx hb dX6_changed_72 (by decide) ?_
        exact w_X6_changed_78_c4 hB ih _ _ _ _ _ _ _ _  hE hz (lv_sub hl [0, 1, 2, 3] rfl)

set_option maxHeartbeats 4000000 in
set_option maxRecDepth 100000 in
theorem w_X6_changed {p : Program} {l : Launch} {e : Env} {s : State} {m : MethodId} {args : Array Value} {below : List Frame} {meth : Method} {c : Code} {g : GP} (hB : BX p s m args meth c g LX cX6_changed 4 RX6 (some .int)) {o : Int32 × Mem} : ∀ (x1 : Int32) (V : Mem) (H : Heap) (locs : List Loc) (ls : Array Slot), f_X6_changed x1 V = some o → OK g LX V s H locs → lv_has ls 4 [(0, .ref (ad g 0)), (1, .int x1)] → W p l e rm_X6_changed s m args below meth c H locs 0 0 (MQ below (QQ g LX (some (.int o.1)) o.2) args s 0 0 (Ar g LX)) (F0 m 0 ls []) := by
  obtain ⟨hx, hb, hml, hown, hT, hr, hlk, hK, hJ, hZ, hN⟩ := id hB
  intro x1 V H locs ls hE hz hl
  unfold f_X6_changed at hE
  refine lv_aload_n hx hb dX6_changed_0 rfl (lv_at hl 0 rfl) ?_
  refine g_X6_25 hB hz kdX_0 dX6_changed_1 ?_
  refine lv_iload_n hx hb dX6_changed_4 rfl (lv_at hl 1 rfl) ?_
  obtain ⟨q5, hq5, hE⟩ := x_bind hE
  refine i_X6_166 hB hz kdX_4 (c_X3_has l g kdX_4 hq5) ⟨(Nat.le_of_ble_eq_true rfl), (Nat.le_of_ble_eq_true rfl)⟩ hl.1 (Nat.le_of_ble_eq_true rfl) dX6_changed_5 (fun H locs hz => ?_)
  refine lv_if_ne (tgt := 14) hx hb dX6_changed_8 (by decide) (fun c8 => ?_) (fun c8 => ?_)
  · have hE := (if_neg c8).symm.trans hE
    refine lv_aload_n hx hb dX6_changed_14 rfl (lv_at hl 0 rfl) ?_
    refine g_X6_25 hB hz kdX_0 dX6_changed_15 ?_
    refine g_X6_146 hB hz kdX_4 dX6_changed_18 ?_
    refine lv_iconst (v := (1 : Int32)) hx hb dX6_changed_21 (by decide) ?_
    refine lv_icmp_ne (tgt := 28) hx hb dX6_changed_22 (by decide) (fun c22 => ?_) (fun c22 => ?_)
    · have hE := (if_neg c22).symm.trans hE
      refine lv_aload_n hx hb dX6_changed_28 rfl (lv_at hl 0 rfl) ?_
      refine g_X6_29 hB hz kdX_0 dX6_changed_29 ?_
      refine lv_aload_n hx hb dX6_changed_32 rfl (lv_at hl 0 rfl) ?_
      refine g_X6_25 hB hz kdX_0 dX6_changed_33 ?_
      obtain ⟨q36, hq36, hE⟩ := x_bind hE
      refine i_X6_140 hB hz kdX_35 (c_X3_become l g kdX_35 kdX_4 hq36) ⟨(Nat.le_of_ble_eq_true rfl), (Nat.le_of_ble_eq_true rfl)⟩ hl.1 (Nat.le_of_ble_eq_true rfl) dX6_changed_36 (fun H locs hz => ?_)
      refine lv_aload_n hx hb dX6_changed_39 rfl (lv_at hl 0 rfl) ?_
      refine g_X6_29 hB hz kdX_0 dX6_changed_40 ?_
      refine lv_iload_n hx hb dX6_changed_43 rfl (lv_at hl 1 rfl) ?_
      obtain ⟨q44, hq44, hE⟩ := x_bind hE
      refine i_X6_173 hB hz kdX_35 (c_X3_remove l g kdX_35 hq44) ⟨(Nat.le_of_ble_eq_true rfl), (Nat.le_of_ble_eq_true rfl)⟩ hl.1 (Nat.le_of_ble_eq_true rfl) dX6_changed_44 (fun H locs hz => ?_)
      refine lv_iconst (v := (0 : Int32)) hx hb dX6_changed_47 (by decide) ?_
      refine lv_istore_n (lv' := [(2, .int (0 : Int32)), (0, .ref (ad g 0)), (1, .int x1)]) hx hb dX6_changed_48 rfl hl (by decide) rfl (fun ls hl => ?_)
      refine lv_iconst (v := (0 : Int32)) hx hb dX6_changed_49 (by decide) ?_
      refine lv_istore_n (lv' := [(3, .int (0 : Int32)), (2, .int (0 : Int32)), (0, .ref (ad g 0)), (1, .int x1)]) hx hb dX6_changed_50 rfl hl (by decide) rfl (fun ls hl => ?_)
      exact w_X6_changed_51 hB  _ _ _ _ _ _ _ _  hE hz (lv_sub hl [2, 3, 1, 0] rfl)
    · have hE := (if_pos c22).symm.trans hE
      refine lv_ldc (v := (-1000002 : Int32)) hx hb hown (hT _ kw_401) dX6_changed_25 ?_
      exact x_iret hB hz hE dX6_changed_27
  · have hE := (if_pos c8).symm.trans hE
    refine lv_ldc (v := (-1000001 : Int32)) hx hb hown (hT _ kw_264) dX6_changed_11 ?_
    exact x_iret hB hz hE dX6_changed_13
theorem c_X6_changed (l : Launch) (g : GP) {x1 : Int32} {V : Mem} {o : Int32 × Mem} (hE : f_X6_changed x1 V = some o) : CT l g LX yX6_changed cX6_changed 4 (some .int) rm_X6_changed [.ref (ad g 0), .int x1] V (some (.int o.1)) o.2 := by
  refine ct_of (by decide) (Nat.le_of_ble_eq_true rfl) ?_
  intro p e s m args below meth c ls hB hz hl
  exact w_X6_changed hB _ _ _ _ _  hE hz hl
def rm_X6_countAt : Room := { frames := 3, cells := 0, slots := 0, locals := 146 }
theorem i_X6_306 {p : Program} {l : Launch} {e : Env} {R : Room} {s : State} {m : MethodId} {args : Array Value} {below : List Frame} {meth : Method} {c : Code} {H : Heap} {locs : List Loc} {Q : State → Prop} {cc : ByteArray} {pc : Nat} {ls : Array Slot} {rest : List Value} {g : GP} {V : Mem} {nL : Nat} {ret : Option FieldType} (hB : BX p s m args meth c g LX cc nL RX6 ret) (hz : OK g LX V s H locs) {i : Nat} (hk : KD LX i 2) {a0 : Int32} {r : Nat} {V1 : Mem} (hM : CT l g LX yX3_ahead cX3_ahead 4 (some (.array .int)) rm_X3_ahead [.ref (ad g i), .int a0] V (some (.ref (ad g r))) V1) (hR : rm_X3_ahead.frames + 1 ≤ R.frames ∧ 8 + (4 + 11) + rm_X3_ahead.locals ≤ R.locals) (hsz : ls.size = nL) (hrest : (rest.map fun v => v.category).sum ≤ 8) (hdg : decode cc pc = .ok (.invokevirtual 306, 3)) (kk : ∀ (H1 : Heap) (locs1 : List Loc), OK g LX V1 s H1 locs1 → W p l e R s m args below meth c H1 locs1 0 0 Q (F0 m (pc + 3) ls (.ref (ad g r) :: rest))) : W p l e R s m args below meth c H locs 0 0 Q (F0 m pc ls (.int a0 :: .ref (ad g i) :: rest)) :=
  x_cv (As := [.int a0]) (n := 1) (T := TX3) (N := 7) hB hz hM hk rfl rfl rfl rfl kw_472 kw_64 kw_583 kw_470 kw_471 (by decide +kernel) rfl hR hsz hrest hdg kk
set_option maxHeartbeats 4000000 in
set_option maxRecDepth 100000 in
theorem w_X6_countAt {p : Program} {l : Launch} {e : Env} {s : State} {m : MethodId} {args : Array Value} {below : List Frame} {meth : Method} {c : Code} {g : GP} (hB : BX p s m args meth c g LX cX6_countAt 3 RX6 (some .int)) {o : Int32 × Mem} : ∀ (x1 : Int32) (x2 : Int32) (V : Mem) (H : Heap) (locs : List Loc) (ls : Array Slot), f_X6_countAt x1 x2 V = some o → OK g LX V s H locs → lv_has ls 3 [(0, .ref (ad g 0)), (1, .int x1), (2, .int x2)] → W p l e rm_X6_countAt s m args below meth c H locs 0 0 (MQ below (QQ g LX (some (.int o.1)) o.2) args s 0 0 (Ar g LX)) (F0 m 0 ls []) := by
  obtain ⟨hx, hb, hml, hown, hT, hr, hlk, hK, hJ, hZ, hN⟩ := id hB
  intro x1 x2 V H locs ls hE hz hl
  unfold f_X6_countAt at hE
  refine lv_iload_n hx hb dX6_countAt_0 rfl (lv_at hl 2 rfl) ?_
  refine lv_iconst (v := (0 : Int32)) hx hb dX6_countAt_1 (by decide) ?_
  refine lv_aload_n hx hb dX6_countAt_2 rfl (lv_at hl 0 rfl) ?_
  refine g_X6_29 hB hz kdX_0 dX6_countAt_3 ?_
  refine g_X6_146 hB hz kdX_35 dX6_countAt_6 ?_
  obtain ⟨q9, hq9, hE⟩ := x_bind hE
  refine i_X6_79 hB hz (c_X6_isBetween l g  hq9) ⟨(Nat.le_of_ble_eq_true rfl), (Nat.le_of_ble_eq_true rfl)⟩ hl.1 (Nat.le_of_ble_eq_true rfl) dX6_countAt_9 (fun H locs hz => ?_)
  refine lv_if_ne (tgt := 18) hx hb dX6_countAt_12 (by decide) (fun c12 => ?_) (fun c12 => ?_)
  · have hE := (if_neg c12).symm.trans hE
    refine lv_aload_n hx hb dX6_countAt_18 rfl (lv_at hl 0 rfl) ?_
    refine g_X6_29 hB hz kdX_0 dX6_countAt_19 ?_
    refine lv_iload_n hx hb dX6_countAt_22 rfl (lv_at hl 2 rfl) ?_
    obtain ⟨q23, hq23, hE⟩ := x_bind hE
    refine i_X6_306 hB hz kdX_35 (c_X3_ahead l g kdX_35 hq23) ⟨(Nat.le_of_ble_eq_true rfl), (Nat.le_of_ble_eq_true rfl)⟩ hl.1 (Nat.le_of_ble_eq_true rfl) dX6_countAt_23 (fun H locs hz => ?_)
    obtain ⟨hk23, hE⟩ := x_chk hE
    refine lv_iconst (v := (0 : Int32)) hx hb dX6_countAt_26 (by decide) ?_
    refine lv_aload_n hx hb dX6_countAt_27 rfl (lv_at hl 0 rfl) ?_
    refine g_X6_54 hB hz kdX_0 dX6_countAt_28 ?_
    refine lv_iconst (v := (0 : Int32)) hx hb dX6_countAt_31 (by decide) ?_
    refine lv_bipush (v := (6 : Int32)) hx hb dX6_countAt_32 (by decide) ?_
    obtain ⟨hi34, hE⟩ := x_chk hE
    refine x_copy (n0 := 6) (n1 := 6) hB hz (kb_KD hk23) kdX_96 hi34 hl.1 kw_307 kw_309 kw_308 kw_70 (Nat.le_of_ble_eq_true rfl) (Nat.le_of_ble_eq_true rfl) dX6_countAt_34 (fun H locs hz => ?_)
    refine lv_aload_n hx hb dX6_countAt_37 rfl (lv_at hl 0 rfl) ?_
    refine g_X6_25 hB hz kdX_0 dX6_countAt_38 ?_
    refine lv_iload_n hx hb dX6_countAt_41 rfl (lv_at hl 1 rfl) ?_
    refine lv_aload_n hx hb dX6_countAt_42 rfl (lv_at hl 0 rfl) ?_
    refine g_X6_54 hB hz kdX_0 dX6_countAt_43 ?_
    obtain ⟨q46, hq46, hE⟩ := x_bind hE
    refine i_X6_217 hB hz kdX_4 (c_X3_countOver l g kdX_4 kdX_96 hq46) ⟨(Nat.le_of_ble_eq_true rfl), (Nat.le_of_ble_eq_true rfl)⟩ hl.1 (Nat.le_of_ble_eq_true rfl) dX6_countAt_46 (fun H locs hz => ?_)
    refine lv_aload_n hx hb dX6_countAt_49 rfl (lv_at hl 0 rfl) ?_
    refine g_X6_54 hB hz kdX_0 dX6_countAt_50 ?_
    refine lv_aload_n hx hb dX6_countAt_53 rfl (lv_at hl 0 rfl) ?_
    refine g_X6_25 hB hz kdX_0 dX6_countAt_54 ?_
    refine g_X6_180 hB hz kdX_4 dX6_countAt_57 ?_
    refine lv_iload_n hx hb dX6_countAt_60 rfl (lv_at hl 1 rfl) ?_
    obtain ⟨hi61, hE⟩ := x_chk hE
    refine x_iald (n := 24) hB hz kdX_7 hi61 dX6_countAt_61 ?_
    obtain ⟨hi62, hE⟩ := x_chk hE
    refine x_iald (n := 6) hB hz kdX_96 hi62 dX6_countAt_62 ?_
    exact x_iret hB hz hE dX6_countAt_63
  · have hE := (if_pos c12).symm.trans hE
    refine lv_ldc (v := (-1000000 : Int32)) hx hb hown (hT _ kw_527) dX6_countAt_15 ?_
    exact x_iret hB hz hE dX6_countAt_17
theorem c_X6_countAt (l : Launch) (g : GP) {x1 : Int32} {x2 : Int32} {V : Mem} {o : Int32 × Mem} (hE : f_X6_countAt x1 x2 V = some o) : CT l g LX yX6_countAt cX6_countAt 3 (some .int) rm_X6_countAt [.ref (ad g 0), .int x1, .int x2] V (some (.int o.1)) o.2 := by
  refine ct_of (by decide) (Nat.le_of_ble_eq_true rfl) ?_
  intro p e s m args below meth c ls hB hz hl
  exact w_X6_countAt hB _ _ _ _ _ _  hE hz hl
def rm_X6_nearest : Room := { frames := 4, cells := 0, slots := 0, locals := 168 }
theorem i_X6_242 {p : Program} {l : Launch} {e : Env} {R : Room} {s : State} {m : MethodId} {args : Array Value} {below : List Frame} {meth : Method} {c : Code} {H : Heap} {locs : List Loc} {Q : State → Prop} {cc : ByteArray} {pc : Nat} {ls : Array Slot} {rest : List Value} {g : GP} {V : Mem} {nL : Nat} {ret : Option FieldType} (hB : BX p s m args meth c g LX cc nL RX6 ret) (hz : OK g LX V s H locs) {i : Nat} (hk : KD LX i 5) {a0 : Int32} {a1 : Int32} {r : Int32} {V1 : Mem} (hM : CT l g LX yX6_countAt cX6_countAt 3 (some .int) rm_X6_countAt [.ref (ad g i), .int a0, .int a1] V (some (.int r)) V1) (hR : rm_X6_countAt.frames + 1 ≤ R.frames ∧ 8 + (3 + 11) + rm_X6_countAt.locals ≤ R.locals) (hsz : ls.size = nL) (hrest : (rest.map fun v => v.category).sum ≤ 8) (hdg : decode cc pc = .ok (.invokevirtual 242, 3)) (kk : ∀ (H1 : Heap) (locs1 : List Loc), OK g LX V1 s H1 locs1 → W p l e R s m args below meth c H1 locs1 0 0 Q (F0 m (pc + 3) ls (.int r :: rest))) : W p l e R s m args below meth c H locs 0 0 Q (F0 m pc ls (.int a1 :: .int a0 :: .ref (ad g i) :: rest)) :=
  x_cv (As := [.int a0, .int a1]) (n := 2) (T := TX6) (N := 14) hB hz hM hk rfl rfl rfl rfl kw_582 kw_62 kw_579 kw_581 kw_16 (by decide +kernel) rfl hR hsz hrest hdg kk
set_option maxHeartbeats 4000000 in
set_option maxRecDepth 100000 in
theorem w_X6_nearest_59 {p : Program} {l : Launch} {e : Env} {s : State} {m : MethodId} {args : Array Value} {below : List Frame} {meth : Method} {c : Code} {g : GP} (hB : BX p s m args meth c g LX cX6_nearest 4 RX6 (some .int)) {o : Int32 × Mem} : ∀ (n : Nat), ∀ (x1 : Int32) (x2 : Int32) (x3 : Int32) (V : Mem) (H : Heap) (locs : List Loc) (ls : Array Slot), f_X6_nearest_59 n x1 x2 x3 V = some o → OK g LX V s H locs → lv_has ls 4 [(0, .ref (ad g 0)), (1, .int x1), (2, .int x2), (3, .int x3)] → W p l e rm_X6_nearest s m args below meth c H locs 0 0 (MQ below (QQ g LX (some (.int o.1)) o.2) args s 0 0 (Ar g LX)) (F0 m 59 ls []) := by
  obtain ⟨hx, hb, hml, hown, hT, hr, hlk, hK, hJ, hZ, hN⟩ := id hB
  intro n
  induction n with
  | zero =>
    intro x1 x2 x3 V H locs ls hE hz hl
    exact absurd (show (none : Option (Int32 × Mem)) = some o from hE) (by simp)
  | succ n ih =>
    intro x1 x2 x3 V H locs ls hE hz hl
    unfold f_X6_nearest_59 at hE
    refine lv_iload_n hx hb dX6_nearest_59 rfl (lv_at hl 3 rfl) ?_
    refine lv_aload_n hx hb dX6_nearest_60 rfl (lv_at hl 0 rfl) ?_
    refine g_X6_25 hB hz kdX_0 dX6_nearest_61 ?_
    refine g_X6_146 hB hz kdX_4 dX6_nearest_64 ?_
    refine lv_icmp_ge (tgt := 108) hx hb dX6_nearest_67 (by decide) (fun c67 => ?_) (fun c67 => ?_)
    · have hE := (if_pos c67).symm.trans hE
      refine lv_ldc (v := (-1000000 : Int32)) hx hb hown (hT _ kw_527) dX6_nearest_108 ?_
      exact x_iret hB hz hE dX6_nearest_110
    · have hE := (if_neg c67).symm.trans hE
      refine lv_aload_n hx hb dX6_nearest_70 rfl (lv_at hl 0 rfl) ?_
      refine lv_iload_n hx hb dX6_nearest_71 rfl (lv_at hl 1 rfl) ?_
      refine lv_iload_n hx hb dX6_nearest_72 rfl (lv_at hl 1 rfl) ?_
      refine lv_iload_n hx hb dX6_nearest_73 rfl (lv_at hl 3 rfl) ?_
      refine lv_isub hx hb dX6_nearest_74 ?_
      obtain ⟨q75, hq75, hE⟩ := x_bind hE
      refine i_X6_242 hB hz kdX_0 (c_X6_countAt l g  hq75) ⟨(Nat.le_of_ble_eq_true rfl), (Nat.le_of_ble_eq_true rfl)⟩ hl.1 (Nat.le_of_ble_eq_true rfl) dX6_nearest_75 (fun H locs hz => ?_)
      refine lv_iload_n hx hb dX6_nearest_78 rfl (lv_at hl 2 rfl) ?_
      refine lv_icmp_ne (tgt := 86) hx hb dX6_nearest_79 (by decide) (fun c79 => ?_) (fun c79 => ?_)
      · have hE := (if_neg c79).symm.trans hE
        refine lv_aload_n hx hb dX6_nearest_86 rfl (lv_at hl 0 rfl) ?_
        refine lv_iload_n hx hb dX6_nearest_87 rfl (lv_at hl 1 rfl) ?_
        refine lv_iload_n hx hb dX6_nearest_88 rfl (lv_at hl 1 rfl) ?_
        refine lv_iload_n hx hb dX6_nearest_89 rfl (lv_at hl 3 rfl) ?_
        refine lv_iadd hx hb dX6_nearest_90 ?_
        obtain ⟨q91, hq91, hE⟩ := x_bind hE
        refine i_X6_242 hB hz kdX_0 (c_X6_countAt l g  hq91) ⟨(Nat.le_of_ble_eq_true rfl), (Nat.le_of_ble_eq_true rfl)⟩ hl.1 (Nat.le_of_ble_eq_true rfl) dX6_nearest_91 (fun H locs hz => ?_)
        refine lv_iload_n hx hb dX6_nearest_94 rfl (lv_at hl 2 rfl) ?_
        refine lv_icmp_ne (tgt := 102) hx hb dX6_nearest_95 (by decide) (fun c95 => ?_) (fun c95 => ?_)
        · have hE := (if_neg c95).symm.trans hE
          refine lv_iinc (v := (x3 + 1)) (lv' := [(3, .int (x3 + 1)), (0, .ref (ad g 0)), (1, .int x1), (2, .int x2)]) hx hb dX6_nearest_102 hl (k := 3) rfl rfl (by decide) rfl (fun ls hl => ?_)
          refine lv_goto (tgt := 59) hx hb dX6_nearest_105 (by decide) ?_
          exact ih _ _ _ _ _ _ _  hE hz (lv_sub hl [1, 2, 3, 0] rfl)
        · have hE := (if_pos c95).symm.trans hE
          refine lv_iload_n hx hb dX6_nearest_98 rfl (lv_at hl 1 rfl) ?_
          refine lv_iload_n hx hb dX6_nearest_99 rfl (lv_at hl 3 rfl) ?_
          refine lv_iadd hx hb dX6_nearest_100 ?_
          exact x_iret hB hz hE dX6_nearest_101
      · have hE := (if_pos c79).symm.trans hE
        refine lv_iload_n hx hb dX6_nearest_82 rfl (lv_at hl 1 rfl) ?_
        refine lv_iload_n hx hb dX6_nearest_83 rfl (lv_at hl 3 rfl) ?_
        refine lv_isub hx hb dX6_nearest_84 ?_
        exact x_iret hB hz hE dX6_nearest_85

set_option maxHeartbeats 4000000 in
set_option maxRecDepth 100000 in
theorem w_X6_nearest {p : Program} {l : Launch} {e : Env} {s : State} {m : MethodId} {args : Array Value} {below : List Frame} {meth : Method} {c : Code} {g : GP} (hB : BX p s m args meth c g LX cX6_nearest 4 RX6 (some .int)) {o : Int32 × Mem} : ∀ (x1 : Int32) (x2 : Int32) (V : Mem) (H : Heap) (locs : List Loc) (ls : Array Slot), f_X6_nearest x1 x2 V = some o → OK g LX V s H locs → lv_has ls 4 [(0, .ref (ad g 0)), (1, .int x1), (2, .int x2)] → W p l e rm_X6_nearest s m args below meth c H locs 0 0 (MQ below (QQ g LX (some (.int o.1)) o.2) args s 0 0 (Ar g LX)) (F0 m 0 ls []) := by
  obtain ⟨hx, hb, hml, hown, hT, hr, hlk, hK, hJ, hZ, hN⟩ := id hB
  intro x1 x2 V H locs ls hE hz hl
  unfold f_X6_nearest at hE
  refine lv_aload_n hx hb dX6_nearest_0 rfl (lv_at hl 0 rfl) ?_
  refine g_X6_25 hB hz kdX_0 dX6_nearest_1 ?_
  refine lv_iload_n hx hb dX6_nearest_4 rfl (lv_at hl 1 rfl) ?_
  obtain ⟨q5, hq5, hE⟩ := x_bind hE
  refine i_X6_166 hB hz kdX_4 (c_X3_has l g kdX_4 hq5) ⟨(Nat.le_of_ble_eq_true rfl), (Nat.le_of_ble_eq_true rfl)⟩ hl.1 (Nat.le_of_ble_eq_true rfl) dX6_nearest_5 (fun H locs hz => ?_)
  refine lv_if_eq (tgt := 21) hx hb dX6_nearest_8 (by decide) (fun c8 => ?_) (fun c8 => ?_)
  · have hE := (if_pos c8).symm.trans hE
    refine lv_ldc (v := (-1000001 : Int32)) hx hb hown (hT _ kw_264) dX6_nearest_21 ?_
    exact x_iret hB hz hE dX6_nearest_23
  · have hE := (if_neg c8).symm.trans hE
    refine lv_iload_n hx hb dX6_nearest_11 rfl (lv_at hl 2 rfl) ?_
    refine lv_iconst (v := (0 : Int32)) hx hb dX6_nearest_12 (by decide) ?_
    refine lv_bipush (v := (99 : Int32)) hx hb dX6_nearest_13 (by decide) ?_
    obtain ⟨q15, hq15, hE⟩ := x_bind hE
    refine i_X6_79 hB hz (c_X6_isBetween l g  hq15) ⟨(Nat.le_of_ble_eq_true rfl), (Nat.le_of_ble_eq_true rfl)⟩ hl.1 (Nat.le_of_ble_eq_true rfl) dX6_nearest_15 (fun H locs hz => ?_)
    refine lv_if_ne (tgt := 24) hx hb dX6_nearest_18 (by decide) (fun c18 => ?_) (fun c18 => ?_)
    · have hE := (if_neg c18).symm.trans hE
      refine lv_aload_n hx hb dX6_nearest_24 rfl (lv_at hl 0 rfl) ?_
      refine g_X6_25 hB hz kdX_0 dX6_nearest_25 ?_
      refine lv_iload_n hx hb dX6_nearest_28 rfl (lv_at hl 1 rfl) ?_
      obtain ⟨q29, hq29, hE⟩ := x_bind hE
      refine i_X6_227 hB hz kdX_4 (c_X3_isLabelled l g kdX_4 hq29) ⟨(Nat.le_of_ble_eq_true rfl), (Nat.le_of_ble_eq_true rfl)⟩ hl.1 (Nat.le_of_ble_eq_true rfl) dX6_nearest_29 (fun H locs hz => ?_)
      refine lv_if_ne (tgt := 38) hx hb dX6_nearest_32 (by decide) (fun c32 => ?_) (fun c32 => ?_)
      · have hE := (if_neg c32).symm.trans hE
        refine lv_aload_n hx hb dX6_nearest_38 rfl (lv_at hl 0 rfl) ?_
        refine g_X6_29 hB hz kdX_0 dX6_nearest_39 ?_
        refine lv_aload_n hx hb dX6_nearest_42 rfl (lv_at hl 0 rfl) ?_
        refine g_X6_25 hB hz kdX_0 dX6_nearest_43 ?_
        obtain ⟨q46, hq46, hE⟩ := x_bind hE
        refine i_X6_140 hB hz kdX_35 (c_X3_become l g kdX_35 kdX_4 hq46) ⟨(Nat.le_of_ble_eq_true rfl), (Nat.le_of_ble_eq_true rfl)⟩ hl.1 (Nat.le_of_ble_eq_true rfl) dX6_nearest_46 (fun H locs hz => ?_)
        refine lv_aload_n hx hb dX6_nearest_49 rfl (lv_at hl 0 rfl) ?_
        refine g_X6_29 hB hz kdX_0 dX6_nearest_50 ?_
        refine lv_iload_n hx hb dX6_nearest_53 rfl (lv_at hl 1 rfl) ?_
        obtain ⟨q54, hq54, hE⟩ := x_bind hE
        refine i_X6_173 hB hz kdX_35 (c_X3_remove l g kdX_35 hq54) ⟨(Nat.le_of_ble_eq_true rfl), (Nat.le_of_ble_eq_true rfl)⟩ hl.1 (Nat.le_of_ble_eq_true rfl) dX6_nearest_54 (fun H locs hz => ?_)
        refine lv_iconst (v := (0 : Int32)) hx hb dX6_nearest_57 (by decide) ?_
        refine lv_istore_n (lv' := [(3, .int (0 : Int32)), (0, .ref (ad g 0)), (1, .int x1), (2, .int x2)]) hx hb dX6_nearest_58 rfl hl (by decide) rfl (fun ls hl => ?_)
        exact w_X6_nearest_59 hB  _ _ _ _ _ _ _ _  hE hz (lv_sub hl [1, 2, 3, 0] rfl)
      · have hE := (if_pos c32).symm.trans hE
        refine lv_ldc (v := (-1000000 : Int32)) hx hb hown (hT _ kw_527) dX6_nearest_35 ?_
        exact x_iret hB hz hE dX6_nearest_37
    · have hE := (if_pos c18).symm.trans hE
      refine lv_ldc (v := (-1000001 : Int32)) hx hb hown (hT _ kw_264) dX6_nearest_21 ?_
      exact x_iret hB hz hE dX6_nearest_23
theorem c_X6_nearest (l : Launch) (g : GP) {x1 : Int32} {x2 : Int32} {V : Mem} {o : Int32 × Mem} (hE : f_X6_nearest x1 x2 V = some o) : CT l g LX yX6_nearest cX6_nearest 4 (some .int) rm_X6_nearest [.ref (ad g 0), .int x1, .int x2] V (some (.int o.1)) o.2 := by
  refine ct_of (by decide) (Nat.le_of_ble_eq_true rfl) ?_
  intro p e s m args below meth c ls hB hz hl
  exact w_X6_nearest hB _ _ _ _ _ _  hE hz hl
def rm_X6_sets : Room := { frames := 4, cells := 0, slots := 0, locals := 167 }
theorem i_X6_245 {p : Program} {l : Launch} {e : Env} {R : Room} {s : State} {m : MethodId} {args : Array Value} {below : List Frame} {meth : Method} {c : Code} {H : Heap} {locs : List Loc} {Q : State → Prop} {cc : ByteArray} {pc : Nat} {ls : Array Slot} {rest : List Value} {g : GP} {V : Mem} {nL : Nat} {ret : Option FieldType} (hB : BX p s m args meth c g LX cc nL RX6 ret) (hz : OK g LX V s H locs) {i : Nat} (hk : KD LX i 2) {a0 : Int32} {r : Int32} {V1 : Mem} (hM : CT l g LX yX3_ownCount cX3_ownCount 2 (some .int) rm_X3_ownCount [.ref (ad g i), .int a0] V (some (.int r)) V1) (hR : rm_X3_ownCount.frames + 1 ≤ R.frames ∧ 8 + (2 + 11) + rm_X3_ownCount.locals ≤ R.locals) (hsz : ls.size = nL) (hrest : (rest.map fun v => v.category).sum ≤ 8) (hdg : decode cc pc = .ok (.invokevirtual 245, 3)) (kk : ∀ (H1 : Heap) (locs1 : List Loc), OK g LX V1 s H1 locs1 → W p l e R s m args below meth c H1 locs1 0 0 Q (F0 m (pc + 3) ls (.int r :: rest))) : W p l e R s m args below meth c H locs 0 0 Q (F0 m pc ls (.int a0 :: .ref (ad g i) :: rest)) :=
  x_cv (As := [.int a0]) (n := 1) (T := TX3) (N := 7) hB hz hM hk rfl rfl rfl rfl kw_591 kw_64 kw_588 kw_589 kw_590 (by decide +kernel) rfl hR hsz hrest hdg kk
set_option maxHeartbeats 4000000 in
set_option maxRecDepth 100000 in
theorem w_X6_sets_70 {p : Program} {l : Launch} {e : Env} {s : State} {m : MethodId} {args : Array Value} {below : List Frame} {meth : Method} {c : Code} {g : GP} (hB : BX p s m args meth c g LX cX6_sets 4 RX6 (some .int)) {o : Int32 × Mem} {k30 : Int32 → Int32 → Int32 → Mem → Option (Int32 × Mem)} (hk30 : ∀ (x1 : Int32) (x2 : Int32) (x3 : Int32) (V : Mem) (H : Heap) (locs : List Loc) (ls : Array Slot), k30 x1 x2 x3 V = some o → OK g LX V s H locs → lv_has ls 4 [(0, .ref (ad g 0)), (1, .int x1), (2, .int x2), (3, .int x3)] → W p l e rm_X6_sets s m args below meth c H locs 0 0 (MQ below (QQ g LX (some (.int o.1)) o.2) args s 0 0 (Ar g LX)) (F0 m 30 ls [])) : ∀ (x1 : Int32) (x2 : Int32) (x3 : Int32) (V : Mem) (H : Heap) (locs : List Loc) (ls : Array Slot), f_X6_sets_70 k30 x1 x2 x3 V = some o → OK g LX V s H locs → lv_has ls 4 [(0, .ref (ad g 0)), (1, .int x1), (2, .int x2), (3, .int x3)] → W p l e rm_X6_sets s m args below meth c H locs 0 0 (MQ below (QQ g LX (some (.int o.1)) o.2) args s 0 0 (Ar g LX)) (F0 m 70 ls []) := by
  obtain ⟨hx, hb, hml, hown, hT, hr, hlk, hK, hJ, hZ, hN⟩ := id hB
  intro x1 x2 x3 V H locs ls hE hz hl
  unfold f_X6_sets_70 at hE
  refine lv_iinc (v := (x3 + 1)) (lv' := [(3, .int (x3 + 1)), (0, .ref (ad g 0)), (1, .int x1), (2, .int x2)]) hx hb dX6_sets_70 hl (k := 3) rfl rfl (by decide) rfl (fun ls hl => ?_)
  refine lv_goto (tgt := 30) hx hb dX6_sets_73 (by decide) ?_
  exact hk30 _ _ _ _ _ _ _  hE hz (lv_sub hl [1, 2, 3, 0] rfl)

set_option maxHeartbeats 4000000 in
set_option maxRecDepth 100000 in
theorem w_X6_sets_30 {p : Program} {l : Launch} {e : Env} {s : State} {m : MethodId} {args : Array Value} {below : List Frame} {meth : Method} {c : Code} {g : GP} (hB : BX p s m args meth c g LX cX6_sets 4 RX6 (some .int)) {o : Int32 × Mem} : ∀ (n : Nat), ∀ (x1 : Int32) (x2 : Int32) (x3 : Int32) (V : Mem) (H : Heap) (locs : List Loc) (ls : Array Slot), f_X6_sets_30 n x1 x2 x3 V = some o → OK g LX V s H locs → lv_has ls 4 [(0, .ref (ad g 0)), (1, .int x1), (2, .int x2), (3, .int x3)] → W p l e rm_X6_sets s m args below meth c H locs 0 0 (MQ below (QQ g LX (some (.int o.1)) o.2) args s 0 0 (Ar g LX)) (F0 m 30 ls []) := by
  obtain ⟨hx, hb, hml, hown, hT, hr, hlk, hK, hJ, hZ, hN⟩ := id hB
  intro n
  induction n with
  | zero =>
    intro x1 x2 x3 V H locs ls hE hz hl
    exact absurd (show (none : Option (Int32 × Mem)) = some o from hE) (by simp)
  | succ n ih =>
    intro x1 x2 x3 V H locs ls hE hz hl
    unfold f_X6_sets_30 at hE
    refine lv_iload_n hx hb dX6_sets_30 rfl (lv_at hl 3 rfl) ?_
    refine lv_aload_n hx hb dX6_sets_31 rfl (lv_at hl 0 rfl) ?_
    refine g_X6_25 hB hz kdX_0 dX6_sets_32 ?_
    refine g_X6_146 hB hz kdX_4 dX6_sets_35 ?_
    refine lv_icmp_ge (tgt := 76) hx hb dX6_sets_38 (by decide) (fun c38 => ?_) (fun c38 => ?_)
    · have hE := (if_pos c38).symm.trans hE
      refine lv_iload_n hx hb dX6_sets_76 rfl (lv_at hl 2 rfl) ?_
      exact x_iret hB hz hE dX6_sets_77
    · have hE := (if_neg c38).symm.trans hE
      refine lv_aload_n hx hb dX6_sets_41 rfl (lv_at hl 0 rfl) ?_
      refine g_X6_25 hB hz kdX_0 dX6_sets_42 ?_
      refine lv_iload_n hx hb dX6_sets_45 rfl (lv_at hl 3 rfl) ?_
      obtain ⟨q46, hq46, hE⟩ := x_bind hE
      refine i_X6_227 hB hz kdX_4 (c_X3_isLabelled l g kdX_4 hq46) ⟨(Nat.le_of_ble_eq_true rfl), (Nat.le_of_ble_eq_true rfl)⟩ hl.1 (Nat.le_of_ble_eq_true rfl) dX6_sets_46 (fun H locs hz => ?_)
      refine lv_if_eq (tgt := 70) hx hb dX6_sets_49 (by decide) (fun c49 => ?_) (fun c49 => ?_)
      · have hE := (if_pos c49).symm.trans hE
        exact w_X6_sets_70 hB ih _ _ _ _ _ _ _  hE hz (lv_sub hl [0, 1, 2, 3] rfl)
      · have hE := (if_neg c49).symm.trans hE
        refine lv_aload_n hx hb dX6_sets_52 rfl (lv_at hl 0 rfl) ?_
        refine g_X6_25 hB hz kdX_0 dX6_sets_53 ?_
        refine lv_iload_n hx hb dX6_sets_56 rfl (lv_at hl 3 rfl) ?_
        obtain ⟨q57, hq57, hE⟩ := x_bind hE
        refine i_X6_245 hB hz kdX_4 (c_X3_ownCount l g kdX_4 hq57) ⟨(Nat.le_of_ble_eq_true rfl), (Nat.le_of_ble_eq_true rfl)⟩ hl.1 (Nat.le_of_ble_eq_true rfl) dX6_sets_57 (fun H locs hz => ?_)
        refine lv_iload_n hx hb dX6_sets_60 rfl (lv_at hl 1 rfl) ?_
        refine lv_icmp_ne (tgt := 70) hx hb dX6_sets_61 (by decide) (fun c61 => ?_) (fun c61 => ?_)
        · have hE := (if_neg c61).symm.trans hE
          exact w_X6_sets_70 hB ih _ _ _ _ _ _ _  hE hz (lv_sub hl [0, 1, 2, 3] rfl)
        · have hE := (if_pos c61).symm.trans hE
          refine lv_iload_n hx hb dX6_sets_64 rfl (lv_at hl 2 rfl) ?_
          refine lv_iconst (v := (1 : Int32)) hx hb dX6_sets_65 (by decide) ?_
          refine lv_iload_n hx hb dX6_sets_66 rfl (lv_at hl 3 rfl) ?_
          refine lv_ishl hx hb dX6_sets_67 ?_
          refine lv_ior hx hb dX6_sets_68 ?_
          refine lv_istore_n (lv' := [(2, .int (x2 ||| ((1 : Int32) <<< (x3 &&& 31)))), (0, .ref (ad g 0)), (1, .int x1), (3, .int x3)]) hx hb dX6_sets_69 rfl hl (by decide) rfl (fun ls hl => ?_)
          exact w_X6_sets_70 hB ih _ _ _ _ _ _ _  hE hz (lv_sub hl [1, 2, 0, 3] rfl)

set_option maxHeartbeats 4000000 in
set_option maxRecDepth 100000 in
theorem w_X6_sets {p : Program} {l : Launch} {e : Env} {s : State} {m : MethodId} {args : Array Value} {below : List Frame} {meth : Method} {c : Code} {g : GP} (hB : BX p s m args meth c g LX cX6_sets 4 RX6 (some .int)) {o : Int32 × Mem} : ∀ (x1 : Int32) (V : Mem) (H : Heap) (locs : List Loc) (ls : Array Slot), f_X6_sets x1 V = some o → OK g LX V s H locs → lv_has ls 4 [(0, .ref (ad g 0)), (1, .int x1)] → W p l e rm_X6_sets s m args below meth c H locs 0 0 (MQ below (QQ g LX (some (.int o.1)) o.2) args s 0 0 (Ar g LX)) (F0 m 0 ls []) := by
  obtain ⟨hx, hb, hml, hown, hT, hr, hlk, hK, hJ, hZ, hN⟩ := id hB
  intro x1 V H locs ls hE hz hl
  unfold f_X6_sets at hE
  refine lv_aload_n hx hb dX6_sets_0 rfl (lv_at hl 0 rfl) ?_
  refine g_X6_25 hB hz kdX_0 dX6_sets_1 ?_
  obtain ⟨q4, hq4, hE⟩ := x_bind hE
  refine i_X6_152 hB hz kdX_4 (c_X3_isNone l g kdX_4 hq4) ⟨(Nat.le_of_ble_eq_true rfl), (Nat.le_of_ble_eq_true rfl)⟩ hl.1 (Nat.le_of_ble_eq_true rfl) dX6_sets_4 (fun H locs hz => ?_)
  refine lv_if_eq (tgt := 13) hx hb dX6_sets_7 (by decide) (fun c7 => ?_) (fun c7 => ?_)
  · have hE := (if_pos c7).symm.trans hE
    refine lv_iload_n hx hb dX6_sets_13 rfl (lv_at hl 1 rfl) ?_
    refine lv_iconst (v := (0 : Int32)) hx hb dX6_sets_14 (by decide) ?_
    refine lv_bipush (v := (99 : Int32)) hx hb dX6_sets_15 (by decide) ?_
    obtain ⟨q17, hq17, hE⟩ := x_bind hE
    refine i_X6_79 hB hz (c_X6_isBetween l g  hq17) ⟨(Nat.le_of_ble_eq_true rfl), (Nat.le_of_ble_eq_true rfl)⟩ hl.1 (Nat.le_of_ble_eq_true rfl) dX6_sets_17 (fun H locs hz => ?_)
    refine lv_if_ne (tgt := 26) hx hb dX6_sets_20 (by decide) (fun c20 => ?_) (fun c20 => ?_)
    · have hE := (if_neg c20).symm.trans hE
      refine lv_iconst (v := (0 : Int32)) hx hb dX6_sets_26 (by decide) ?_
      refine lv_istore_n (lv' := [(2, .int (0 : Int32)), (0, .ref (ad g 0)), (1, .int x1)]) hx hb dX6_sets_27 rfl hl (by decide) rfl (fun ls hl => ?_)
      refine lv_iconst (v := (0 : Int32)) hx hb dX6_sets_28 (by decide) ?_
      refine lv_istore_n (lv' := [(3, .int (0 : Int32)), (2, .int (0 : Int32)), (0, .ref (ad g 0)), (1, .int x1)]) hx hb dX6_sets_29 rfl hl (by decide) rfl (fun ls hl => ?_)
      exact w_X6_sets_30 hB  _ _ _ _ _ _ _ _  hE hz (lv_sub hl [2, 3, 1, 0] rfl)
    · have hE := (if_pos c20).symm.trans hE
      refine lv_ldc (v := (-1000001 : Int32)) hx hb hown (hT _ kw_264) dX6_sets_23 ?_
      exact x_iret hB hz hE dX6_sets_25
  · have hE := (if_neg c7).symm.trans hE
    refine lv_ldc (v := (-1000002 : Int32)) hx hb hown (hT _ kw_401) dX6_sets_10 ?_
    exact x_iret hB hz hE dX6_sets_12
theorem c_X6_sets (l : Launch) (g : GP) {x1 : Int32} {V : Mem} {o : Int32 × Mem} (hE : f_X6_sets x1 V = some o) : CT l g LX yX6_sets cX6_sets 4 (some .int) rm_X6_sets [.ref (ad g 0), .int x1] V (some (.int o.1)) o.2 := by
  refine ct_of (by decide) (Nat.le_of_ble_eq_true rfl) ?_
  intro p e s m args below meth c ls hB hz hl
  exact w_X6_sets hB _ _ _ _ _  hE hz hl
def rm_X6_deepest : Room := { frames := 5, cells := 0, slots := 0, locals := 193 }
set_option maxHeartbeats 4000000 in
set_option maxRecDepth 100000 in
theorem w_X6_deepest_81 {p : Program} {l : Launch} {e : Env} {s : State} {m : MethodId} {args : Array Value} {below : List Frame} {meth : Method} {c : Code} {g : GP} (hB : BX p s m args meth c g LX cX6_deepest 5 RX6 (some .int)) {o : Int32 × Mem} {k33 : Int32 → Int32 → Int32 → Int32 → Mem → Option (Int32 × Mem)} (hk33 : ∀ (x1 : Int32) (x2 : Int32) (x3 : Int32) (x4 : Int32) (V : Mem) (H : Heap) (locs : List Loc) (ls : Array Slot), k33 x1 x2 x3 x4 V = some o → OK g LX V s H locs → lv_has ls 5 [(0, .ref (ad g 0)), (1, .int x1), (2, .int x2), (3, .int x3), (4, .int x4)] → W p l e rm_X6_deepest s m args below meth c H locs 0 0 (MQ below (QQ g LX (some (.int o.1)) o.2) args s 0 0 (Ar g LX)) (F0 m 33 ls [])) : ∀ (x1 : Int32) (x2 : Int32) (x3 : Int32) (x4 : Int32) (V : Mem) (H : Heap) (locs : List Loc) (ls : Array Slot), f_X6_deepest_81 k33 x1 x2 x3 x4 V = some o → OK g LX V s H locs → lv_has ls 5 [(0, .ref (ad g 0)), (1, .int x1), (2, .int x2), (3, .int x3), (4, .int x4)] → W p l e rm_X6_deepest s m args below meth c H locs 0 0 (MQ below (QQ g LX (some (.int o.1)) o.2) args s 0 0 (Ar g LX)) (F0 m 81 ls []) := by
  obtain ⟨hx, hb, hml, hown, hT, hr, hlk, hK, hJ, hZ, hN⟩ := id hB
  intro x1 x2 x3 x4 V H locs ls hE hz hl
  unfold f_X6_deepest_81 at hE
  refine lv_iinc (v := (x4 + 1)) (lv' := [(4, .int (x4 + 1)), (0, .ref (ad g 0)), (1, .int x1), (2, .int x2), (3, .int x3)]) hx hb dX6_deepest_81 hl (k := 4) rfl rfl (by decide) rfl (fun ls hl => ?_)
  refine lv_goto (tgt := 33) hx hb dX6_deepest_84 (by decide) ?_
  exact hk33 _ _ _ _ _ _ _ _  hE hz (lv_sub hl [1, 2, 3, 4, 0] rfl)

set_option maxHeartbeats 4000000 in
set_option maxRecDepth 100000 in
theorem w_X6_deepest_33 {p : Program} {l : Launch} {e : Env} {s : State} {m : MethodId} {args : Array Value} {below : List Frame} {meth : Method} {c : Code} {g : GP} (hB : BX p s m args meth c g LX cX6_deepest 5 RX6 (some .int)) {o : Int32 × Mem} : ∀ (n : Nat), ∀ (x1 : Int32) (x2 : Int32) (x3 : Int32) (x4 : Int32) (V : Mem) (H : Heap) (locs : List Loc) (ls : Array Slot), f_X6_deepest_33 n x1 x2 x3 x4 V = some o → OK g LX V s H locs → lv_has ls 5 [(0, .ref (ad g 0)), (1, .int x1), (2, .int x2), (3, .int x3), (4, .int x4)] → W p l e rm_X6_deepest s m args below meth c H locs 0 0 (MQ below (QQ g LX (some (.int o.1)) o.2) args s 0 0 (Ar g LX)) (F0 m 33 ls []) := by
  obtain ⟨hx, hb, hml, hown, hT, hr, hlk, hK, hJ, hZ, hN⟩ := id hB
  intro n
  induction n with
  | zero =>
    intro x1 x2 x3 x4 V H locs ls hE hz hl
    exact absurd (show (none : Option (Int32 × Mem)) = some o from hE) (by simp)
  | succ n ih =>
    intro x1 x2 x3 x4 V H locs ls hE hz hl
    unfold f_X6_deepest_33 at hE
    refine lv_iload hx hb dX6_deepest_33 (lv_at hl 4 rfl) ?_
    refine lv_aload_n hx hb dX6_deepest_35 rfl (lv_at hl 0 rfl) ?_
    refine g_X6_25 hB hz kdX_0 dX6_deepest_36 ?_
    refine g_X6_146 hB hz kdX_4 dX6_deepest_39 ?_
    refine lv_icmp_ge (tgt := 87) hx hb dX6_deepest_42 (by decide) (fun c42 => ?_) (fun c42 => ?_)
    · have hE := (if_pos c42).symm.trans hE
      refine lv_iload_n hx hb dX6_deepest_87 rfl (lv_at hl 1 rfl) ?_
      refine lv_iconst (v := (1 : Int32)) hx hb dX6_deepest_88 (by decide) ?_
      refine lv_icmp_eq (tgt := 98) hx hb dX6_deepest_89 (by decide) (fun c89 => ?_) (fun c89 => ?_)
      · have hE := (if_pos c89).symm.trans hE
        refine lv_iload_n hx hb dX6_deepest_98 rfl (lv_at hl 3 rfl) ?_
        refine lv_goto (tgt := 103) hx hb dX6_deepest_99 (by decide) ?_
        exact x_iret hB hz hE dX6_deepest_103
      · have hE := (if_neg c89).symm.trans hE
        refine lv_iload_n hx hb dX6_deepest_92 rfl (lv_at hl 3 rfl) ?_
        refine lv_ldc (v := (-1000000 : Int32)) hx hb hown (hT _ kw_527) dX6_deepest_93 ?_
        refine lv_icmp_ne (tgt := 102) hx hb dX6_deepest_95 (by decide) (fun c95 => ?_) (fun c95 => ?_)
        · have hE := (if_neg c95).symm.trans hE
          refine lv_iload_n hx hb dX6_deepest_102 rfl (lv_at hl 2 rfl) ?_
          exact x_iret hB hz hE dX6_deepest_103
        · have hE := (if_pos c95).symm.trans hE
          refine lv_iload_n hx hb dX6_deepest_98 rfl (lv_at hl 3 rfl) ?_
          refine lv_goto (tgt := 103) hx hb dX6_deepest_99 (by decide) ?_
          exact x_iret hB hz hE dX6_deepest_103
    · have hE := (if_neg c42).symm.trans hE
      refine lv_aload_n hx hb dX6_deepest_45 rfl (lv_at hl 0 rfl) ?_
      refine g_X6_25 hB hz kdX_0 dX6_deepest_46 ?_
      refine lv_iload hx hb dX6_deepest_49 (lv_at hl 4 rfl) ?_
      refine lv_iconst (v := (0 : Int32)) hx hb dX6_deepest_51 (by decide) ?_
      refine lv_aload_n hx hb dX6_deepest_52 rfl (lv_at hl 0 rfl) ?_
      refine g_X6_50 hB hz kdX_0 dX6_deepest_53 ?_
      obtain ⟨q56, hq56, hE⟩ := x_bind hE
      refine i_X6_202 hB hz kdX_4 (c_X3_writeLabel l g kdX_4 kdX_94 hq56) ⟨(Nat.le_of_ble_eq_true rfl), (Nat.le_of_ble_eq_true rfl)⟩ hl.1 (Nat.le_of_ble_eq_true rfl) dX6_deepest_56 (fun H locs hz => ?_)
      refine lv_aload_n hx hb dX6_deepest_59 rfl (lv_at hl 0 rfl) ?_
      refine g_X6_50 hB hz kdX_0 dX6_deepest_60 ?_
      refine g_X6_206 hB hz kdX_94 dX6_deepest_63 ?_
      refine lv_iload_n hx hb dX6_deepest_66 rfl (lv_at hl 2 rfl) ?_
      refine lv_icmp_le (tgt := 81) hx hb dX6_deepest_67 (by decide) (fun c67 => ?_) (fun c67 => ?_)
      · have hE := (if_pos c67).symm.trans hE
        exact w_X6_deepest_81 hB ih _ _ _ _ _ _ _ _  hE hz (lv_sub hl [0, 1, 2, 3, 4] rfl)
      · have hE := (if_neg c67).symm.trans hE
        refine lv_aload_n hx hb dX6_deepest_70 rfl (lv_at hl 0 rfl) ?_
        refine g_X6_50 hB hz kdX_0 dX6_deepest_71 ?_
        refine g_X6_206 hB hz kdX_94 dX6_deepest_74 ?_
        refine lv_istore_n (lv' := [(2, .int (q56 94 1)), (0, .ref (ad g 0)), (1, .int x1), (3, .int x3), (4, .int x4)]) hx hb dX6_deepest_77 rfl hl (by decide) rfl (fun ls hl => ?_)
        refine lv_iload hx hb dX6_deepest_78 (lv_at hl 4 rfl) ?_
        refine lv_istore_n (lv' := [(3, .int x4), (2, .int (q56 94 1)), (0, .ref (ad g 0)), (1, .int x1), (4, .int x4)]) hx hb dX6_deepest_80 rfl hl (by decide) rfl (fun ls hl => ?_)
        exact w_X6_deepest_81 hB ih _ _ _ _ _ _ _ _  hE hz (lv_sub hl [2, 3, 1, 0, 4] rfl)

set_option maxHeartbeats 4000000 in
set_option maxRecDepth 100000 in
theorem w_X6_deepest {p : Program} {l : Launch} {e : Env} {s : State} {m : MethodId} {args : Array Value} {below : List Frame} {meth : Method} {c : Code} {g : GP} (hB : BX p s m args meth c g LX cX6_deepest 5 RX6 (some .int)) {o : Int32 × Mem} : ∀ (x1 : Int32) (V : Mem) (H : Heap) (locs : List Loc) (ls : Array Slot), f_X6_deepest x1 V = some o → OK g LX V s H locs → lv_has ls 5 [(0, .ref (ad g 0)), (1, .int x1)] → W p l e rm_X6_deepest s m args below meth c H locs 0 0 (MQ below (QQ g LX (some (.int o.1)) o.2) args s 0 0 (Ar g LX)) (F0 m 0 ls []) := by
  obtain ⟨hx, hb, hml, hown, hT, hr, hlk, hK, hJ, hZ, hN⟩ := id hB
  intro x1 V H locs ls hE hz hl
  unfold f_X6_deepest at hE
  refine lv_aload_n hx hb dX6_deepest_0 rfl (lv_at hl 0 rfl) ?_
  refine g_X6_25 hB hz kdX_0 dX6_deepest_1 ?_
  obtain ⟨q4, hq4, hE⟩ := x_bind hE
  refine i_X6_152 hB hz kdX_4 (c_X3_isNone l g kdX_4 hq4) ⟨(Nat.le_of_ble_eq_true rfl), (Nat.le_of_ble_eq_true rfl)⟩ hl.1 (Nat.le_of_ble_eq_true rfl) dX6_deepest_4 (fun H locs hz => ?_)
  refine lv_if_eq (tgt := 13) hx hb dX6_deepest_7 (by decide) (fun c7 => ?_) (fun c7 => ?_)
  · have hE := (if_pos c7).symm.trans hE
    refine lv_iload_n hx hb dX6_deepest_13 rfl (lv_at hl 1 rfl) ?_
    refine lv_iconst (v := (0 : Int32)) hx hb dX6_deepest_14 (by decide) ?_
    refine lv_iconst (v := (1 : Int32)) hx hb dX6_deepest_15 (by decide) ?_
    obtain ⟨q16, hq16, hE⟩ := x_bind hE
    refine i_X6_79 hB hz (c_X6_isBetween l g  hq16) ⟨(Nat.le_of_ble_eq_true rfl), (Nat.le_of_ble_eq_true rfl)⟩ hl.1 (Nat.le_of_ble_eq_true rfl) dX6_deepest_16 (fun H locs hz => ?_)
    refine lv_if_ne (tgt := 25) hx hb dX6_deepest_19 (by decide) (fun c19 => ?_) (fun c19 => ?_)
    · have hE := (if_neg c19).symm.trans hE
      refine lv_iconst (v := (0 : Int32)) hx hb dX6_deepest_25 (by decide) ?_
      refine lv_istore_n (lv' := [(2, .int (0 : Int32)), (0, .ref (ad g 0)), (1, .int x1)]) hx hb dX6_deepest_26 rfl hl (by decide) rfl (fun ls hl => ?_)
      refine lv_ldc (v := (-1000000 : Int32)) hx hb hown (hT _ kw_527) dX6_deepest_27 ?_
      refine lv_istore_n (lv' := [(3, .int (-1000000 : Int32)), (2, .int (0 : Int32)), (0, .ref (ad g 0)), (1, .int x1)]) hx hb dX6_deepest_29 rfl hl (by decide) rfl (fun ls hl => ?_)
      refine lv_iconst (v := (0 : Int32)) hx hb dX6_deepest_30 (by decide) ?_
      refine lv_istore (lv' := [(4, .int (0 : Int32)), (3, .int (-1000000 : Int32)), (2, .int (0 : Int32)), (0, .ref (ad g 0)), (1, .int x1)]) hx hb dX6_deepest_31 hl (by decide) rfl (fun ls hl => ?_)
      exact w_X6_deepest_33 hB  _ _ _ _ _ _ _ _ _  hE hz (lv_sub hl [3, 4, 2, 1, 0] rfl)
    · have hE := (if_pos c19).symm.trans hE
      refine lv_ldc (v := (-1000001 : Int32)) hx hb hown (hT _ kw_264) dX6_deepest_22 ?_
      exact x_iret hB hz hE dX6_deepest_24
  · have hE := (if_neg c7).symm.trans hE
    refine lv_ldc (v := (-1000002 : Int32)) hx hb hown (hT _ kw_401) dX6_deepest_10 ?_
    exact x_iret hB hz hE dX6_deepest_12
theorem c_X6_deepest (l : Launch) (g : GP) {x1 : Int32} {V : Mem} {o : Int32 × Mem} (hE : f_X6_deepest x1 V = some o) : CT l g LX yX6_deepest cX6_deepest 5 (some .int) rm_X6_deepest [.ref (ad g 0), .int x1] V (some (.int o.1)) o.2 := by
  refine ct_of (by decide) (Nat.le_of_ble_eq_true rfl) ?_
  intro p e s m args below meth c ls hB hz hl
  exact w_X6_deepest hB _ _ _ _ _  hE hz hl
def rm_X6_who : Room := { frames := 5, cells := 0, slots := 0, locals := 192 }
theorem i_X6_248 {p : Program} {l : Launch} {e : Env} {R : Room} {s : State} {m : MethodId} {args : Array Value} {below : List Frame} {meth : Method} {c : Code} {H : Heap} {locs : List Loc} {Q : State → Prop} {cc : ByteArray} {pc : Nat} {ls : Array Slot} {rest : List Value} {g : GP} {V : Mem} {nL : Nat} {ret : Option FieldType} (hB : BX p s m args meth c g LX cc nL RX6 ret) (hz : OK g LX V s H locs) {i : Nat} (hk : KD LX i 2) {a0 : Nat} {a1 : Int32} {a2 : Int32} {r : Int32} {V1 : Mem} (hM : CT l g LX yX3_isToldBy cX3_isToldBy 6 (some .boolean) rm_X3_isToldBy [.ref (ad g i), .ref (ad g a0), .int a1, .int a2] V (some (.int r)) V1) (hR : rm_X3_isToldBy.frames + 1 ≤ R.frames ∧ 8 + (6 + 11) + rm_X3_isToldBy.locals ≤ R.locals) (hsz : ls.size = nL) (hrest : (rest.map fun v => v.category).sum ≤ 8) (hdg : decode cc pc = .ok (.invokevirtual 248, 3)) (kk : ∀ (H1 : Heap) (locs1 : List Loc), OK g LX V1 s H1 locs1 → W p l e R s m args below meth c H1 locs1 0 0 Q (F0 m (pc + 3) ls (.int r :: rest))) : W p l e R s m args below meth c H locs 0 0 Q (F0 m pc ls (.int a2 :: .int a1 :: .ref (ad g a0) :: .ref (ad g i) :: rest)) :=
  x_cv (As := [.ref (ad g a0), .int a1, .int a2]) (n := 3) (T := TX3) (N := 7) hB hz hM hk rfl rfl rfl rfl kw_603 kw_64 kw_600 kw_601 kw_602 (by decide +kernel) rfl hR hsz hrest hdg kk
set_option maxHeartbeats 4000000 in
set_option maxRecDepth 100000 in
theorem w_X6_who_235 {p : Program} {l : Launch} {e : Env} {s : State} {m : MethodId} {args : Array Value} {below : List Frame} {meth : Method} {c : Code} {g : GP} (hB : BX p s m args meth c g LX cX6_who 15 RX6 (some .int)) {o : Int32 × Mem} {k160 : Int32 → Int32 → Int32 → Int32 → Nat → Int32 → Int32 → Int32 → Int32 → Int32 → Int32 → Mem → Option (Int32 × Mem)} (hk160 : ∀ (x1 : Int32) (x2 : Int32) (x4 : Int32) (x5 : Int32) (r6 : Nat) (x8 : Int32) (x9 : Int32) (x10 : Int32) (x12 : Int32) (x13 : Int32) (x14 : Int32) (V : Mem) (H : Heap) (locs : List Loc) (ls : Array Slot), KD LX r6 1 → k160 x1 x2 x4 x5 r6 x8 x9 x10 x12 x13 x14 V = some o → OK g LX V s H locs → lv_has ls 15 [(0, .ref (ad g 0)), (1, .int x1), (2, .int x2), (4, .int x4), (5, .int x5), (6, .ref (ad g r6)), (8, .int x8), (9, .int x9), (10, .int x10), (12, .int x12), (13, .int x13), (14, .int x14)] → W p l e rm_X6_who s m args below meth c H locs 0 0 (MQ below (QQ g LX (some (.int o.1)) o.2) args s 0 0 (Ar g LX)) (F0 m 160 ls [])) : ∀ (x1 : Int32) (x2 : Int32) (x4 : Int32) (x5 : Int32) (r6 : Nat) (x8 : Int32) (x9 : Int32) (x10 : Int32) (x12 : Int32) (x13 : Int32) (x14 : Int32) (V : Mem) (H : Heap) (locs : List Loc) (ls : Array Slot), KD LX r6 1 → f_X6_who_235 k160 x1 x2 x4 x5 r6 x8 x9 x10 x12 x13 x14 V = some o → OK g LX V s H locs → lv_has ls 15 [(0, .ref (ad g 0)), (1, .int x1), (2, .int x2), (4, .int x4), (5, .int x5), (6, .ref (ad g r6)), (8, .int x8), (9, .int x9), (10, .int x10), (12, .int x12), (13, .int x13), (14, .int x14)] → W p l e rm_X6_who s m args below meth c H locs 0 0 (MQ below (QQ g LX (some (.int o.1)) o.2) args s 0 0 (Ar g LX)) (F0 m 235 ls []) := by
  obtain ⟨hx, hb, hml, hown, hT, hr, hlk, hK, hJ, hZ, hN⟩ := id hB
  intro x1 x2 x4 x5 r6 x8 x9 x10 x12 x13 x14 V H locs ls k_r6 hE hz hl
  unfold f_X6_who_235 at hE
  refine lv_iinc (v := (x14 + 1)) (lv' := [(14, .int (x14 + 1)), (0, .ref (ad g 0)), (1, .int x1), (2, .int x2), (4, .int x4), (5, .int x5), (6, .ref (ad g r6)), (8, .int x8), (9, .int x9), (10, .int x10), (12, .int x12), (13, .int x13)]) hx hb dX6_who_235 hl (k := 11) rfl rfl (by decide) rfl (fun ls hl => ?_)
  refine lv_goto (tgt := 160) hx hb dX6_who_238 (by decide) ?_
  exact hk160 _ _ _ _ _ _ _ _ _ _ _ _ _ _ _ k_r6 hE hz (lv_sub hl [1, 2, 3, 4, 5, 6, 7, 8, 9, 10, 11, 0] rfl)

set_option maxHeartbeats 4000000 in
set_option maxRecDepth 100000 in
theorem w_X6_who_207_c35 {p : Program} {l : Launch} {e : Env} {s : State} {m : MethodId} {args : Array Value} {below : List Frame} {meth : Method} {c : Code} {g : GP} (hB : BX p s m args meth c g LX cX6_who 15 RX6 (some .int)) {o : Int32 × Mem} {k160 : Int32 → Int32 → Int32 → Int32 → Nat → Int32 → Int32 → Int32 → Int32 → Int32 → Int32 → Mem → Option (Int32 × Mem)} (hk160 : ∀ (x1 : Int32) (x2 : Int32) (x4 : Int32) (x5 : Int32) (r6 : Nat) (x8 : Int32) (x9 : Int32) (x10 : Int32) (x12 : Int32) (x13 : Int32) (x14 : Int32) (V : Mem) (H : Heap) (locs : List Loc) (ls : Array Slot), KD LX r6 1 → k160 x1 x2 x4 x5 r6 x8 x9 x10 x12 x13 x14 V = some o → OK g LX V s H locs → lv_has ls 15 [(0, .ref (ad g 0)), (1, .int x1), (2, .int x2), (4, .int x4), (5, .int x5), (6, .ref (ad g r6)), (8, .int x8), (9, .int x9), (10, .int x10), (12, .int x12), (13, .int x13), (14, .int x14)] → W p l e rm_X6_who s m args below meth c H locs 0 0 (MQ below (QQ g LX (some (.int o.1)) o.2) args s 0 0 (Ar g LX)) (F0 m 160 ls [])) : ∀ (x1 : Int32) (x2 : Int32) (x4 : Int32) (x5 : Int32) (r6 : Nat) (x8 : Int32) (x9 : Int32) (x10 : Int32) (x12 : Int32) (x13 : Int32) (x14 : Int32) (s1 : Int32) (s2 : Int32) (s3 : Int32) (s4 : Int32) (V : Mem) (H : Heap) (locs : List Loc) (ls : Array Slot), KD LX r6 1 → f_X6_who_207_c35 k160 x1 x2 x4 x5 r6 x8 x9 x10 x12 x13 x14 s1 s2 s3 s4 V = some o → OK g LX V s H locs → lv_has ls 15 [(0, .ref (ad g 0)), (1, .int x1), (2, .int x2), (4, .int x4), (5, .int x5), (6, .ref (ad g r6)), (8, .int x8), (9, .int x9), (10, .int x10), (12, .int x12), (13, .int x13), (14, .int x14)] → W p l e rm_X6_who s m args below meth c H locs 0 0 (MQ below (QQ g LX (some (.int o.1)) o.2) args s 0 0 (Ar g LX)) (F0 m 207 ls [.int s4, .int s3, .int s2, .int s1, .ref (ad g 35)]) := by
  obtain ⟨hx, hb, hml, hown, hT, hr, hlk, hK, hJ, hZ, hN⟩ := id hB
  intro x1 x2 x4 x5 r6 x8 x9 x10 x12 x13 x14 s1 s2 s3 s4 V H locs ls k_r6 hE hz hl
  unfold f_X6_who_207_c35 at hE
  obtain ⟨q207, hq207, hE⟩ := x_bind hE
  refine i_X6_186 hB hz kdX_35 (c_X3_alter l g kdX_35 hq207) ⟨(Nat.le_of_ble_eq_true rfl), (Nat.le_of_ble_eq_true rfl)⟩ hl.1 (Nat.le_of_ble_eq_true rfl) dX6_who_207 (fun H locs hz => ?_)
  refine lv_aload_n hx hb dX6_who_210 rfl (lv_at hl 0 rfl) ?_
  refine g_X6_29 hB hz kdX_0 dX6_who_211 ?_
  refine lv_aload hx hb dX6_who_214 (lv_at hl 5 rfl) ?_
  refine lv_iload hx hb dX6_who_216 (lv_at hl 3 rfl) ?_
  refine lv_iload hx hb dX6_who_218 (lv_at hl 4 rfl) ?_
  obtain ⟨q220, hq220, hE⟩ := x_bind hE
  refine i_X6_248 hB hz kdX_35 (c_X3_isToldBy l g kdX_35 k_r6 hq220) ⟨(Nat.le_of_ble_eq_true rfl), (Nat.le_of_ble_eq_true rfl)⟩ hl.1 (Nat.le_of_ble_eq_true rfl) dX6_who_220 (fun H locs hz => ?_)
  refine lv_if_eq (tgt := 235) hx hb dX6_who_223 (by decide) (fun c223 => ?_) (fun c223 => ?_)
  · have hE := (if_pos c223).symm.trans hE
    exact w_X6_who_235 hB hk160 _ _ _ _ _ _ _ _ _ _ _ _ _ _ _ k_r6 hE hz (lv_sub hl [0, 1, 2, 3, 4, 5, 6, 7, 8, 9, 10, 11] rfl)
  · have hE := (if_neg c223).symm.trans hE
    refine lv_iload hx hb dX6_who_226 (lv_at hl 10 rfl) ?_
    refine lv_iconst (v := (1 : Int32)) hx hb dX6_who_228 (by decide) ?_
    refine lv_iload hx hb dX6_who_229 (lv_at hl 11 rfl) ?_
    refine lv_ishl hx hb dX6_who_231 ?_
    refine lv_ior hx hb dX6_who_232 ?_
    refine lv_istore (lv' := [(13, .int (x13 ||| ((1 : Int32) <<< (x14 &&& 31)))), (0, .ref (ad g 0)), (1, .int x1), (2, .int x2), (4, .int x4), (5, .int x5), (6, .ref (ad g r6)), (8, .int x8), (9, .int x9), (10, .int x10), (12, .int x12), (14, .int x14)]) hx hb dX6_who_233 hl (by decide) rfl (fun ls hl => ?_)
    exact w_X6_who_235 hB hk160 _ _ _ _ _ _ _ _ _ _ _ _ _ _ _ k_r6 hE hz (lv_sub hl [1, 2, 3, 4, 5, 6, 7, 8, 9, 10, 0, 11] rfl)

set_option maxHeartbeats 4000000 in
set_option maxRecDepth 100000 in
theorem w_X6_who_195_c35 {p : Program} {l : Launch} {e : Env} {s : State} {m : MethodId} {args : Array Value} {below : List Frame} {meth : Method} {c : Code} {g : GP} (hB : BX p s m args meth c g LX cX6_who 15 RX6 (some .int)) {o : Int32 × Mem} {k160 : Int32 → Int32 → Int32 → Int32 → Nat → Int32 → Int32 → Int32 → Int32 → Int32 → Int32 → Mem → Option (Int32 × Mem)} (hk160 : ∀ (x1 : Int32) (x2 : Int32) (x4 : Int32) (x5 : Int32) (r6 : Nat) (x8 : Int32) (x9 : Int32) (x10 : Int32) (x12 : Int32) (x13 : Int32) (x14 : Int32) (V : Mem) (H : Heap) (locs : List Loc) (ls : Array Slot), KD LX r6 1 → k160 x1 x2 x4 x5 r6 x8 x9 x10 x12 x13 x14 V = some o → OK g LX V s H locs → lv_has ls 15 [(0, .ref (ad g 0)), (1, .int x1), (2, .int x2), (4, .int x4), (5, .int x5), (6, .ref (ad g r6)), (8, .int x8), (9, .int x9), (10, .int x10), (12, .int x12), (13, .int x13), (14, .int x14)] → W p l e rm_X6_who s m args below meth c H locs 0 0 (MQ below (QQ g LX (some (.int o.1)) o.2) args s 0 0 (Ar g LX)) (F0 m 160 ls [])) : ∀ (x1 : Int32) (x2 : Int32) (x4 : Int32) (x5 : Int32) (r6 : Nat) (x8 : Int32) (x9 : Int32) (x10 : Int32) (x12 : Int32) (x13 : Int32) (x14 : Int32) (s1 : Int32) (s2 : Int32) (s3 : Int32) (V : Mem) (H : Heap) (locs : List Loc) (ls : Array Slot), KD LX r6 1 → f_X6_who_195_c35 k160 x1 x2 x4 x5 r6 x8 x9 x10 x12 x13 x14 s1 s2 s3 V = some o → OK g LX V s H locs → lv_has ls 15 [(0, .ref (ad g 0)), (1, .int x1), (2, .int x2), (4, .int x4), (5, .int x5), (6, .ref (ad g r6)), (8, .int x8), (9, .int x9), (10, .int x10), (12, .int x12), (13, .int x13), (14, .int x14)] → W p l e rm_X6_who s m args below meth c H locs 0 0 (MQ below (QQ g LX (some (.int o.1)) o.2) args s 0 0 (Ar g LX)) (F0 m 195 ls [.int s3, .int s2, .int s1, .ref (ad g 35)]) := by
  obtain ⟨hx, hb, hml, hown, hT, hr, hlk, hK, hJ, hZ, hN⟩ := id hB
  intro x1 x2 x4 x5 r6 x8 x9 x10 x12 x13 x14 s1 s2 s3 V H locs ls k_r6 hE hz hl
  unfold f_X6_who_195_c35 at hE
  refine lv_iload_n hx hb dX6_who_195 rfl (lv_at hl 2 rfl) ?_
  refine lv_iconst (v := (2 : Int32)) hx hb dX6_who_196 (by decide) ?_
  refine lv_icmp_ne (tgt := 205) hx hb dX6_who_197 (by decide) (fun c197 => ?_) (fun c197 => ?_)
  · have hE := (if_neg c197).symm.trans hE
    refine lv_iload hx hb dX6_who_205 (lv_at hl 8 rfl) ?_
    exact w_X6_who_207_c35 hB hk160 _ _ _ _ _ _ _ _ _ _ _ _ _ _ _ _ _ _ _ k_r6 hE hz (lv_sub hl [0, 1, 2, 3, 4, 5, 6, 7, 8, 9, 10, 11] rfl)
  · have hE := (if_pos c197).symm.trans hE
    refine lv_iload hx hb dX6_who_200 (lv_at hl 11 rfl) ?_
    refine lv_goto (tgt := 207) hx hb dX6_who_202 (by decide) ?_
    exact w_X6_who_207_c35 hB hk160 _ _ _ _ _ _ _ _ _ _ _ _ _ _ _ _ _ _ _ k_r6 hE hz (lv_sub hl [0, 1, 2, 3, 4, 5, 6, 7, 8, 9, 10, 11] rfl)

set_option maxHeartbeats 4000000 in
set_option maxRecDepth 100000 in
theorem w_X6_who_183_c35 {p : Program} {l : Launch} {e : Env} {s : State} {m : MethodId} {args : Array Value} {below : List Frame} {meth : Method} {c : Code} {g : GP} (hB : BX p s m args meth c g LX cX6_who 15 RX6 (some .int)) {o : Int32 × Mem} {k160 : Int32 → Int32 → Int32 → Int32 → Nat → Int32 → Int32 → Int32 → Int32 → Int32 → Int32 → Mem → Option (Int32 × Mem)} (hk160 : ∀ (x1 : Int32) (x2 : Int32) (x4 : Int32) (x5 : Int32) (r6 : Nat) (x8 : Int32) (x9 : Int32) (x10 : Int32) (x12 : Int32) (x13 : Int32) (x14 : Int32) (V : Mem) (H : Heap) (locs : List Loc) (ls : Array Slot), KD LX r6 1 → k160 x1 x2 x4 x5 r6 x8 x9 x10 x12 x13 x14 V = some o → OK g LX V s H locs → lv_has ls 15 [(0, .ref (ad g 0)), (1, .int x1), (2, .int x2), (4, .int x4), (5, .int x5), (6, .ref (ad g r6)), (8, .int x8), (9, .int x9), (10, .int x10), (12, .int x12), (13, .int x13), (14, .int x14)] → W p l e rm_X6_who s m args below meth c H locs 0 0 (MQ below (QQ g LX (some (.int o.1)) o.2) args s 0 0 (Ar g LX)) (F0 m 160 ls [])) : ∀ (x1 : Int32) (x2 : Int32) (x4 : Int32) (x5 : Int32) (r6 : Nat) (x8 : Int32) (x9 : Int32) (x10 : Int32) (x12 : Int32) (x13 : Int32) (x14 : Int32) (s1 : Int32) (s2 : Int32) (V : Mem) (H : Heap) (locs : List Loc) (ls : Array Slot), KD LX r6 1 → f_X6_who_183_c35 k160 x1 x2 x4 x5 r6 x8 x9 x10 x12 x13 x14 s1 s2 V = some o → OK g LX V s H locs → lv_has ls 15 [(0, .ref (ad g 0)), (1, .int x1), (2, .int x2), (4, .int x4), (5, .int x5), (6, .ref (ad g r6)), (8, .int x8), (9, .int x9), (10, .int x10), (12, .int x12), (13, .int x13), (14, .int x14)] → W p l e rm_X6_who s m args below meth c H locs 0 0 (MQ below (QQ g LX (some (.int o.1)) o.2) args s 0 0 (Ar g LX)) (F0 m 183 ls [.int s2, .int s1, .ref (ad g 35)]) := by
  obtain ⟨hx, hb, hml, hown, hT, hr, hlk, hK, hJ, hZ, hN⟩ := id hB
  intro x1 x2 x4 x5 r6 x8 x9 x10 x12 x13 x14 s1 s2 V H locs ls k_r6 hE hz hl
  unfold f_X6_who_183_c35 at hE
  refine lv_iload_n hx hb dX6_who_183 rfl (lv_at hl 2 rfl) ?_
  refine lv_iconst (v := (1 : Int32)) hx hb dX6_who_184 (by decide) ?_
  refine lv_icmp_ne (tgt := 193) hx hb dX6_who_185 (by decide) (fun c185 => ?_) (fun c185 => ?_)
  · have hE := (if_neg c185).symm.trans hE
    refine lv_iload hx hb dX6_who_193 (lv_at hl 7 rfl) ?_
    exact w_X6_who_195_c35 hB hk160 _ _ _ _ _ _ _ _ _ _ _ _ _ _ _ _ _ _ k_r6 hE hz (lv_sub hl [0, 1, 2, 3, 4, 5, 6, 7, 8, 9, 10, 11] rfl)
  · have hE := (if_pos c185).symm.trans hE
    refine lv_iload hx hb dX6_who_188 (lv_at hl 11 rfl) ?_
    refine lv_goto (tgt := 195) hx hb dX6_who_190 (by decide) ?_
    exact w_X6_who_195_c35 hB hk160 _ _ _ _ _ _ _ _ _ _ _ _ _ _ _ _ _ _ k_r6 hE hz (lv_sub hl [0, 1, 2, 3, 4, 5, 6, 7, 8, 9, 10, 11] rfl)

set_option maxHeartbeats 4000000 in
set_option maxRecDepth 100000 in
theorem w_X6_who_160 {p : Program} {l : Launch} {e : Env} {s : State} {m : MethodId} {args : Array Value} {below : List Frame} {meth : Method} {c : Code} {g : GP} (hB : BX p s m args meth c g LX cX6_who 15 RX6 (some .int)) {o : Int32 × Mem} : ∀ (n : Nat), ∀ (x1 : Int32) (x2 : Int32) (x4 : Int32) (x5 : Int32) (r6 : Nat) (x8 : Int32) (x9 : Int32) (x10 : Int32) (x12 : Int32) (x13 : Int32) (x14 : Int32) (V : Mem) (H : Heap) (locs : List Loc) (ls : Array Slot), KD LX r6 1 → f_X6_who_160 n x1 x2 x4 x5 r6 x8 x9 x10 x12 x13 x14 V = some o → OK g LX V s H locs → lv_has ls 15 [(0, .ref (ad g 0)), (1, .int x1), (2, .int x2), (4, .int x4), (5, .int x5), (6, .ref (ad g r6)), (8, .int x8), (9, .int x9), (10, .int x10), (12, .int x12), (13, .int x13), (14, .int x14)] → W p l e rm_X6_who s m args below meth c H locs 0 0 (MQ below (QQ g LX (some (.int o.1)) o.2) args s 0 0 (Ar g LX)) (F0 m 160 ls []) := by
  obtain ⟨hx, hb, hml, hown, hT, hr, hlk, hK, hJ, hZ, hN⟩ := id hB
  intro n
  induction n with
  | zero =>
    intro x1 x2 x4 x5 r6 x8 x9 x10 x12 x13 x14 V H locs ls k_r6 hE hz hl
    exact absurd (show (none : Option (Int32 × Mem)) = some o from hE) (by simp)
  | succ n ih =>
    intro x1 x2 x4 x5 r6 x8 x9 x10 x12 x13 x14 V H locs ls k_r6 hE hz hl
    unfold f_X6_who_160 at hE
    refine lv_iload hx hb dX6_who_160 (lv_at hl 11 rfl) ?_
    refine lv_iload hx hb dX6_who_162 (lv_at hl 9 rfl) ?_
    refine lv_icmp_gt (tgt := 241) hx hb dX6_who_164 (by decide) (fun c164 => ?_) (fun c164 => ?_)
    · have hE := (if_pos c164).symm.trans hE
      refine lv_aload_n hx hb dX6_who_241 rfl (lv_at hl 0 rfl) ?_
      refine lv_iload hx hb dX6_who_242 (lv_at hl 10 rfl) ?_
      obtain ⟨q244, hq244, hE⟩ := x_bind hE
      refine i_X6_92 hB hz kdX_0 (c_X6_foundNothing l g  hq244) ⟨(Nat.le_of_ble_eq_true rfl), (Nat.le_of_ble_eq_true rfl)⟩ hl.1 (Nat.le_of_ble_eq_true rfl) dX6_who_244 (fun H locs hz => ?_)
      exact x_iret hB hz hE dX6_who_247
    · have hE := (if_neg c164).symm.trans hE
      refine lv_aload_n hx hb dX6_who_167 rfl (lv_at hl 0 rfl) ?_
      refine g_X6_29 hB hz kdX_0 dX6_who_168 ?_
      refine lv_iload_n hx hb dX6_who_171 rfl (lv_at hl 1 rfl) ?_
      refine lv_iload_n hx hb dX6_who_172 rfl (lv_at hl 2 rfl) ?_
      refine lv_if_ne (tgt := 181) hx hb dX6_who_173 (by decide) (fun c173 => ?_) (fun c173 => ?_)
      · have hE := (if_neg c173).symm.trans hE
        refine lv_iload hx hb dX6_who_181 (lv_at hl 6 rfl) ?_
        exact w_X6_who_183_c35 hB ih _ _ _ _ _ _ _ _ _ _ _ _ _ _ _ _ _ k_r6 hE hz (lv_sub hl [0, 1, 2, 3, 4, 5, 6, 7, 8, 9, 10, 11] rfl)
      · have hE := (if_pos c173).symm.trans hE
        refine lv_iload hx hb dX6_who_176 (lv_at hl 11 rfl) ?_
        refine lv_goto (tgt := 183) hx hb dX6_who_178 (by decide) ?_
        exact w_X6_who_183_c35 hB ih _ _ _ _ _ _ _ _ _ _ _ _ _ _ _ _ _ k_r6 hE hz (lv_sub hl [0, 1, 2, 3, 4, 5, 6, 7, 8, 9, 10, 11] rfl)

set_option maxHeartbeats 4000000 in
set_option maxRecDepth 100000 in
theorem w_X6_who_140 {p : Program} {l : Launch} {e : Env} {s : State} {m : MethodId} {args : Array Value} {below : List Frame} {meth : Method} {c : Code} {g : GP} (hB : BX p s m args meth c g LX cX6_who 15 RX6 (some .int)) {o : Int32 × Mem} : ∀ (x1 : Int32) (x2 : Int32) (x4 : Int32) (x5 : Int32) (r6 : Nat) (x8 : Int32) (x9 : Int32) (x10 : Int32) (x11 : Int32) (s0 : Int32) (V : Mem) (H : Heap) (locs : List Loc) (ls : Array Slot), KD LX r6 1 → f_X6_who_140 x1 x2 x4 x5 r6 x8 x9 x10 x11 s0 V = some o → OK g LX V s H locs → lv_has ls 15 [(0, .ref (ad g 0)), (1, .int x1), (2, .int x2), (4, .int x4), (5, .int x5), (6, .ref (ad g r6)), (8, .int x8), (9, .int x9), (10, .int x10), (11, .int x11)] → W p l e rm_X6_who s m args below meth c H locs 0 0 (MQ below (QQ g LX (some (.int o.1)) o.2) args s 0 0 (Ar g LX)) (F0 m 140 ls [.int s0]) := by
  obtain ⟨hx, hb, hml, hown, hT, hr, hlk, hK, hJ, hZ, hN⟩ := id hB
  intro x1 x2 x4 x5 r6 x8 x9 x10 x11 s0 V H locs ls k_r6 hE hz hl
  unfold f_X6_who_140 at hE
  refine lv_istore (lv' := [(12, .int s0), (0, .ref (ad g 0)), (1, .int x1), (2, .int x2), (4, .int x4), (5, .int x5), (6, .ref (ad g r6)), (8, .int x8), (9, .int x9), (10, .int x10), (11, .int x11)]) hx hb dX6_who_140 hl (by decide) rfl (fun ls hl => ?_)
  refine lv_iconst (v := (0 : Int32)) hx hb dX6_who_142 (by decide) ?_
  refine lv_istore (lv' := [(13, .int (0 : Int32)), (12, .int s0), (0, .ref (ad g 0)), (1, .int x1), (2, .int x2), (4, .int x4), (5, .int x5), (6, .ref (ad g r6)), (8, .int x8), (9, .int x9), (10, .int x10), (11, .int x11)]) hx hb dX6_who_143 hl (by decide) rfl (fun ls hl => ?_)
  refine lv_aload_n hx hb dX6_who_145 rfl (lv_at hl 2 rfl) ?_
  refine g_X6_29 hB hz kdX_0 dX6_who_146 ?_
  refine lv_aload_n hx hb dX6_who_149 rfl (lv_at hl 2 rfl) ?_
  refine g_X6_25 hB hz kdX_0 dX6_who_150 ?_
  obtain ⟨q153, hq153, hE⟩ := x_bind hE
  refine i_X6_140 hB hz kdX_35 (c_X3_become l g kdX_35 kdX_4 hq153) ⟨(Nat.le_of_ble_eq_true rfl), (Nat.le_of_ble_eq_true rfl)⟩ hl.1 (Nat.le_of_ble_eq_true rfl) dX6_who_153 (fun H locs hz => ?_)
  refine lv_iload hx hb dX6_who_156 (lv_at hl 11 rfl) ?_
  refine lv_istore (lv' := [(14, .int x11), (13, .int (0 : Int32)), (12, .int s0), (0, .ref (ad g 0)), (1, .int x1), (2, .int x2), (4, .int x4), (5, .int x5), (6, .ref (ad g r6)), (8, .int x8), (9, .int x9), (10, .int x10), (11, .int x11)]) hx hb dX6_who_158 hl (by decide) rfl (fun ls hl => ?_)
  exact w_X6_who_160 hB  _ _ _ _ _ _ _ _ _ _ _ _ _ _ _ _ k_r6 hE hz (lv_sub hl [3, 4, 5, 6, 7, 8, 9, 10, 11, 2, 1, 0] rfl)

set_option maxHeartbeats 4000000 in
set_option maxRecDepth 100000 in
theorem w_X6_who_119 {p : Program} {l : Launch} {e : Env} {s : State} {m : MethodId} {args : Array Value} {below : List Frame} {meth : Method} {c : Code} {g : GP} (hB : BX p s m args meth c g LX cX6_who 15 RX6 (some .int)) {o : Int32 × Mem} : ∀ (x1 : Int32) (x2 : Int32) (x4 : Int32) (x5 : Int32) (r6 : Nat) (x8 : Int32) (x9 : Int32) (x10 : Int32) (s0 : Int32) (V : Mem) (H : Heap) (locs : List Loc) (ls : Array Slot), KD LX r6 1 → f_X6_who_119 x1 x2 x4 x5 r6 x8 x9 x10 s0 V = some o → OK g LX V s H locs → lv_has ls 15 [(0, .ref (ad g 0)), (1, .int x1), (2, .int x2), (4, .int x4), (5, .int x5), (6, .ref (ad g r6)), (8, .int x8), (9, .int x9), (10, .int x10)] → W p l e rm_X6_who s m args below meth c H locs 0 0 (MQ below (QQ g LX (some (.int o.1)) o.2) args s 0 0 (Ar g LX)) (F0 m 119 ls [.int s0]) := by
  obtain ⟨hx, hb, hml, hown, hT, hr, hlk, hK, hJ, hZ, hN⟩ := id hB
  intro x1 x2 x4 x5 r6 x8 x9 x10 s0 V H locs ls k_r6 hE hz hl
  unfold f_X6_who_119 at hE
  refine lv_istore (lv' := [(11, .int s0), (0, .ref (ad g 0)), (1, .int x1), (2, .int x2), (4, .int x4), (5, .int x5), (6, .ref (ad g r6)), (8, .int x8), (9, .int x9), (10, .int x10)]) hx hb dX6_who_119 hl (by decide) rfl (fun ls hl => ?_)
  refine lv_iload_n hx hb dX6_who_121 rfl (lv_at hl 3 rfl) ?_
  refine lv_if_ne (tgt := 129) hx hb dX6_who_122 (by decide) (fun c122 => ?_) (fun c122 => ?_)
  · have hE := (if_neg c122).symm.trans hE
    refine lv_iload_n hx hb dX6_who_129 rfl (lv_at hl 3 rfl) ?_
    refine lv_iconst (v := (1 : Int32)) hx hb dX6_who_130 (by decide) ?_
    refine lv_icmp_ne (tgt := 138) hx hb dX6_who_131 (by decide) (fun c131 => ?_) (fun c131 => ?_)
    · have hE := (if_neg c131).symm.trans hE
      refine lv_bipush (v := (20 : Int32)) hx hb dX6_who_138 (by decide) ?_
      exact w_X6_who_140 hB  _ _ _ _ _ _ _ _ _ _ _ _ _ _ k_r6 hE hz (lv_sub hl [1, 2, 3, 4, 5, 6, 7, 8, 9, 0] rfl)
    · have hE := (if_pos c131).symm.trans hE
      refine lv_iconst (v := (2 : Int32)) hx hb dX6_who_134 (by decide) ?_
      refine lv_goto (tgt := 140) hx hb dX6_who_135 (by decide) ?_
      exact w_X6_who_140 hB  _ _ _ _ _ _ _ _ _ _ _ _ _ _ k_r6 hE hz (lv_sub hl [1, 2, 3, 4, 5, 6, 7, 8, 9, 0] rfl)
  · have hE := (if_pos c122).symm.trans hE
    refine lv_iconst (v := (5 : Int32)) hx hb dX6_who_125 (by decide) ?_
    refine lv_goto (tgt := 140) hx hb dX6_who_126 (by decide) ?_
    exact w_X6_who_140 hB  _ _ _ _ _ _ _ _ _ _ _ _ _ _ k_r6 hE hz (lv_sub hl [1, 2, 3, 4, 5, 6, 7, 8, 9, 0] rfl)

set_option maxHeartbeats 4000000 in
set_option maxRecDepth 100000 in
theorem w_X6_who {p : Program} {l : Launch} {e : Env} {s : State} {m : MethodId} {args : Array Value} {below : List Frame} {meth : Method} {c : Code} {g : GP} (hB : BX p s m args meth c g LX cX6_who 15 RX6 (some .int)) {o : Int32 × Mem} : ∀ (x1 : Int32) (x2 : Int32) (x3 : Int32) (x4 : Int32) (x5 : Int32) (V : Mem) (H : Heap) (locs : List Loc) (ls : Array Slot), f_X6_who x1 x2 x3 x4 x5 V = some o → OK g LX V s H locs → lv_has ls 15 [(0, .ref (ad g 0)), (1, .int x1), (2, .int x2), (3, .int x3), (4, .int x4), (5, .int x5)] → W p l e rm_X6_who s m args below meth c H locs 0 0 (MQ below (QQ g LX (some (.int o.1)) o.2) args s 0 0 (Ar g LX)) (F0 m 0 ls []) := by
  obtain ⟨hx, hb, hml, hown, hT, hr, hlk, hK, hJ, hZ, hN⟩ := id hB
  intro x1 x2 x3 x4 x5 V H locs ls hE hz hl
  unfold f_X6_who at hE
  refine lv_aload_n hx hb dX6_who_0 rfl (lv_at hl 0 rfl) ?_
  refine g_X6_25 hB hz kdX_0 dX6_who_1 ?_
  refine lv_iload_n hx hb dX6_who_4 rfl (lv_at hl 1 rfl) ?_
  obtain ⟨q5, hq5, hE⟩ := x_bind hE
  refine i_X6_166 hB hz kdX_4 (c_X3_has l g kdX_4 hq5) ⟨(Nat.le_of_ble_eq_true rfl), (Nat.le_of_ble_eq_true rfl)⟩ hl.1 (Nat.le_of_ble_eq_true rfl) dX6_who_5 (fun H locs hz => ?_)
  refine lv_if_eq (tgt := 43) hx hb dX6_who_8 (by decide) (fun c8 => ?_) (fun c8 => ?_)
  · have hE := (if_pos c8).symm.trans hE
    refine lv_ldc (v := (-1000001 : Int32)) hx hb hown (hT _ kw_264) dX6_who_43 ?_
    exact x_iret hB hz hE dX6_who_45
  · have hE := (if_neg c8).symm.trans hE
    refine lv_iload_n hx hb dX6_who_11 rfl (lv_at hl 2 rfl) ?_
    refine lv_iconst (v := (0 : Int32)) hx hb dX6_who_12 (by decide) ?_
    refine lv_iconst (v := (2 : Int32)) hx hb dX6_who_13 (by decide) ?_
    obtain ⟨q14, hq14, hE⟩ := x_bind hE
    refine i_X6_79 hB hz (c_X6_isBetween l g  hq14) ⟨(Nat.le_of_ble_eq_true rfl), (Nat.le_of_ble_eq_true rfl)⟩ hl.1 (Nat.le_of_ble_eq_true rfl) dX6_who_14 (fun H locs hz => ?_)
    refine lv_if_eq (tgt := 43) hx hb dX6_who_17 (by decide) (fun c17 => ?_) (fun c17 => ?_)
    · have hE := (if_pos c17).symm.trans hE
      refine lv_ldc (v := (-1000001 : Int32)) hx hb hown (hT _ kw_264) dX6_who_43 ?_
      exact x_iret hB hz hE dX6_who_45
    · have hE := (if_neg c17).symm.trans hE
      refine lv_iload_n hx hb dX6_who_20 rfl (lv_at hl 3 rfl) ?_
      obtain ⟨q21, hq21, hE⟩ := x_bind hE
      refine i_X6_75 hB hz (c_X6_isRow l g  hq21) ⟨(Nat.le_of_ble_eq_true rfl), (Nat.le_of_ble_eq_true rfl)⟩ hl.1 (Nat.le_of_ble_eq_true rfl) dX6_who_21 (fun H locs hz => ?_)
      refine lv_if_eq (tgt := 43) hx hb dX6_who_24 (by decide) (fun c24 => ?_) (fun c24 => ?_)
      · have hE := (if_pos c24).symm.trans hE
        refine lv_ldc (v := (-1000001 : Int32)) hx hb hown (hT _ kw_264) dX6_who_43 ?_
        exact x_iret hB hz hE dX6_who_45
      · have hE := (if_neg c24).symm.trans hE
        refine lv_iload hx hb dX6_who_27 (lv_at hl 5 rfl) ?_
        refine lv_iconst (v := (1 : Int32)) hx hb dX6_who_29 (by decide) ?_
        refine lv_aload_n hx hb dX6_who_30 rfl (lv_at hl 0 rfl) ?_
        refine g_X6_25 hB hz kdX_0 dX6_who_31 ?_
        refine g_X6_146 hB hz kdX_4 dX6_who_34 ?_
        obtain ⟨q37, hq37, hE⟩ := x_bind hE
        refine i_X6_79 hB hz (c_X6_isBetween l g  hq37) ⟨(Nat.le_of_ble_eq_true rfl), (Nat.le_of_ble_eq_true rfl)⟩ hl.1 (Nat.le_of_ble_eq_true rfl) dX6_who_37 (fun H locs hz => ?_)
        refine lv_if_ne (tgt := 46) hx hb dX6_who_40 (by decide) (fun c40 => ?_) (fun c40 => ?_)
        · have hE := (if_neg c40).symm.trans hE
          refine lv_aload_n hx hb dX6_who_46 rfl (lv_at hl 0 rfl) ?_
          refine g_X6_11 hB hz kdX_0 dX6_who_47 ?_
          refine lv_iload_n hx hb dX6_who_50 rfl (lv_at hl 3 rfl) ?_
          obtain ⟨hi51, hE⟩ := x_chk hE
          refine x_aalR hB hz kdX_1 hi51 dX6_who_51 ?_
          refine lv_astore (lv' := [(6, .ref (ad g (99 + 2 * (x3).toNatClampNeg))), (0, .ref (ad g 0)), (1, .int x1), (2, .int x2), (3, .int x3), (4, .int x4), (5, .int x5)]) hx hb dX6_who_52 hl (by decide) rfl (fun ls hl => ?_)
          refine lv_aload hx hb dX6_who_54 (lv_at hl 0 rfl) ?_
          refine lv_iload hx hb dX6_who_56 (lv_at hl 5 rfl) ?_
          refine lv_iload hx hb dX6_who_58 (lv_at hl 6 rfl) ?_
          obtain ⟨q60, hq60, hE⟩ := x_bind hE
          refine i_X6_95 hB hz (kd_rw hi51) (c_X2_findingAt l g (kd_rw hi51) hq60) ⟨(Nat.le_of_ble_eq_true rfl), (Nat.le_of_ble_eq_true rfl)⟩ hl.1 (Nat.le_of_ble_eq_true rfl) dX6_who_60 (fun H locs hz => ?_)
          refine lv_istore (lv' := [(7, .int q60.1), (6, .ref (ad g (99 + 2 * (x3).toNatClampNeg))), (0, .ref (ad g 0)), (1, .int x1), (2, .int x2), (3, .int x3), (4, .int x4), (5, .int x5)]) hx hb dX6_who_63 hl (by decide) rfl (fun ls hl => ?_)
          refine lv_iload hx hb dX6_who_65 (lv_at hl 0 rfl) ?_
          refine lv_if_eq (tgt := 77) hx hb dX6_who_67 (by decide) (fun c67 => ?_) (fun c67 => ?_)
          · have hE := (if_pos c67).symm.trans hE
            refine lv_aload_n hx hb dX6_who_77 rfl (lv_at hl 2 rfl) ?_
            refine g_X6_25 hB hz kdX_0 dX6_who_78 ?_
            refine g_X6_183 hB hz kdX_4 dX6_who_81 ?_
            refine lv_iload_n hx hb dX6_who_84 rfl (lv_at hl 3 rfl) ?_
            obtain ⟨hi85, hE⟩ := x_chk hE
            refine x_iald (n := 24) hB hz kdX_6 hi85 dX6_who_85 ?_
            refine lv_istore (lv' := [(8, .int (q60.2 6 (x1).toNatClampNeg)), (7, .int q60.1), (6, .ref (ad g (99 + 2 * (x3).toNatClampNeg))), (0, .ref (ad g 0)), (1, .int x1), (2, .int x2), (3, .int x3), (4, .int x4), (5, .int x5)]) hx hb dX6_who_86 hl (by decide) rfl (fun ls hl => ?_)
            refine lv_aload_n hx hb dX6_who_88 rfl (lv_at hl 3 rfl) ?_
            refine g_X6_25 hB hz kdX_0 dX6_who_89 ?_
            refine g_X6_180 hB hz kdX_4 dX6_who_92 ?_
            refine lv_iload_n hx hb dX6_who_95 rfl (lv_at hl 4 rfl) ?_
            obtain ⟨hi96, hE⟩ := x_chk hE
            refine x_iald (n := 24) hB hz kdX_7 hi96 dX6_who_96 ?_
            refine lv_istore (lv' := [(9, .int (q60.2 7 (x1).toNatClampNeg)), (8, .int (q60.2 6 (x1).toNatClampNeg)), (7, .int q60.1), (6, .ref (ad g (99 + 2 * (x3).toNatClampNeg))), (0, .ref (ad g 0)), (1, .int x1), (2, .int x2), (3, .int x3), (4, .int x4), (5, .int x5)]) hx hb dX6_who_97 hl (by decide) rfl (fun ls hl => ?_)
            refine lv_aload_n hx hb dX6_who_99 rfl (lv_at hl 4 rfl) ?_
            refine g_X6_25 hB hz kdX_0 dX6_who_100 ?_
            refine g_X6_195 hB hz kdX_4 dX6_who_103 ?_
            refine lv_iload_n hx hb dX6_who_106 rfl (lv_at hl 5 rfl) ?_
            obtain ⟨hi107, hE⟩ := x_chk hE
            refine x_iald (n := 24) hB hz kdX_8 hi107 dX6_who_107 ?_
            refine lv_istore (lv' := [(10, .int (q60.2 8 (x1).toNatClampNeg)), (9, .int (q60.2 7 (x1).toNatClampNeg)), (8, .int (q60.2 6 (x1).toNatClampNeg)), (7, .int q60.1), (6, .ref (ad g (99 + 2 * (x3).toNatClampNeg))), (0, .ref (ad g 0)), (1, .int x1), (2, .int x2), (3, .int x3), (4, .int x4), (5, .int x5)]) hx hb dX6_who_108 hl (by decide) rfl (fun ls hl => ?_)
            refine lv_iload_n hx hb dX6_who_110 rfl (lv_at hl 7 rfl) ?_
            refine lv_if_ne (tgt := 118) hx hb dX6_who_111 (by decide) (fun c111 => ?_) (fun c111 => ?_)
            · have hE := (if_neg c111).symm.trans hE
              refine lv_iconst (v := (0 : Int32)) hx hb dX6_who_118 (by decide) ?_
              exact w_X6_who_119 hB  _ _ _ _ _ _ _ _ _ _ _ _ _ (kd_rw hi51) hE hz (lv_sub hl [5, 6, 7, 9, 10, 4, 2, 1, 0] rfl)
            · have hE := (if_pos c111).symm.trans hE
              refine lv_iconst (v := (1 : Int32)) hx hb dX6_who_114 (by decide) ?_
              refine lv_goto (tgt := 119) hx hb dX6_who_115 (by decide) ?_
              exact w_X6_who_119 hB  _ _ _ _ _ _ _ _ _ _ _ _ _ (kd_rw hi51) hE hz (lv_sub hl [5, 6, 7, 9, 10, 4, 2, 1, 0] rfl)
          · have hE := (if_neg c67).symm.trans hE
            refine lv_aload_n hx hb dX6_who_70 rfl (lv_at hl 2 rfl) ?_
            refine lv_iload hx hb dX6_who_71 (lv_at hl 0 rfl) ?_
            obtain ⟨q73, hq73, hE⟩ := x_bind hE
            refine i_X6_84 hB hz kdX_0 (c_X6_found l g  hq73) ⟨(Nat.le_of_ble_eq_true rfl), (Nat.le_of_ble_eq_true rfl)⟩ hl.1 (Nat.le_of_ble_eq_true rfl) dX6_who_73 (fun H locs hz => ?_)
            exact x_iret hB hz hE dX6_who_76
        · have hE := (if_pos c40).symm.trans hE
          refine lv_ldc (v := (-1000001 : Int32)) hx hb hown (hT _ kw_264) dX6_who_43 ?_
          exact x_iret hB hz hE dX6_who_45
theorem c_X6_who (l : Launch) (g : GP) {x1 : Int32} {x2 : Int32} {x3 : Int32} {x4 : Int32} {x5 : Int32} {V : Mem} {o : Int32 × Mem} (hE : f_X6_who x1 x2 x3 x4 x5 V = some o) : CT l g LX yX6_who cX6_who 15 (some .int) rm_X6_who [.ref (ad g 0), .int x1, .int x2, .int x3, .int x4, .int x5] V (some (.int o.1)) o.2 := by
  refine ct_of (by decide) (Nat.le_of_ble_eq_true rfl) ?_
  intro p e s m args below meth c ls hB hz hl
  exact w_X6_who hB _ _ _ _ _ _ _ _ _  hE hz hl
def rm_X6_noteRestarts : Room := { frames := 0, cells := 0, slots := 0, locals := 0 }
set_option maxHeartbeats 4000000 in
set_option maxRecDepth 100000 in
theorem w_X6_noteRestarts_43 {p : Program} {l : Launch} {e : Env} {s : State} {m : MethodId} {args : Array Value} {below : List Frame} {meth : Method} {c : Code} {g : GP} (hB : BX p s m args meth c g LX cX6_noteRestarts 3 RX6 none) {o : Mem} {k4 : Int32 → Int32 → Mem → Option (Mem)} (hk4 : ∀ (x1 : Int32) (x2 : Int32) (V : Mem) (H : Heap) (locs : List Loc) (ls : Array Slot), k4 x1 x2 V = some o → OK g LX V s H locs → lv_has ls 3 [(0, .ref (ad g 0)), (1, .int x1), (2, .int x2)] → W p l e rm_X6_noteRestarts s m args below meth c H locs 0 0 (MQ below (QQ g LX none o) args s 0 0 (Ar g LX)) (F0 m 4 ls [])) : ∀ (x1 : Int32) (x2 : Int32) (V : Mem) (H : Heap) (locs : List Loc) (ls : Array Slot), f_X6_noteRestarts_43 k4 x1 x2 V = some o → OK g LX V s H locs → lv_has ls 3 [(0, .ref (ad g 0)), (1, .int x1), (2, .int x2)] → W p l e rm_X6_noteRestarts s m args below meth c H locs 0 0 (MQ below (QQ g LX none o) args s 0 0 (Ar g LX)) (F0 m 43 ls []) := by
  obtain ⟨hx, hb, hml, hown, hT, hr, hlk, hK, hJ, hZ, hN⟩ := id hB
  intro x1 x2 V H locs ls hE hz hl
  unfold f_X6_noteRestarts_43 at hE
  refine lv_iinc (v := (x2 + 1)) (lv' := [(2, .int (x2 + 1)), (0, .ref (ad g 0)), (1, .int x1)]) hx hb dX6_noteRestarts_43 hl (k := 2) rfl rfl (by decide) rfl (fun ls hl => ?_)
  refine lv_goto (tgt := 4) hx hb dX6_noteRestarts_46 (by decide) ?_
  exact hk4 _ _ _ _ _ _  hE hz (lv_sub hl [1, 2, 0] rfl)

set_option maxHeartbeats 4000000 in
set_option maxRecDepth 100000 in
theorem w_X6_noteRestarts_4 {p : Program} {l : Launch} {e : Env} {s : State} {m : MethodId} {args : Array Value} {below : List Frame} {meth : Method} {c : Code} {g : GP} (hB : BX p s m args meth c g LX cX6_noteRestarts 3 RX6 none) {o : Mem} : ∀ (n : Nat), ∀ (x1 : Int32) (x2 : Int32) (V : Mem) (H : Heap) (locs : List Loc) (ls : Array Slot), f_X6_noteRestarts_4 n x1 x2 V = some o → OK g LX V s H locs → lv_has ls 3 [(0, .ref (ad g 0)), (1, .int x1), (2, .int x2)] → W p l e rm_X6_noteRestarts s m args below meth c H locs 0 0 (MQ below (QQ g LX none o) args s 0 0 (Ar g LX)) (F0 m 4 ls []) := by
  obtain ⟨hx, hb, hml, hown, hT, hr, hlk, hK, hJ, hZ, hN⟩ := id hB
  intro n
  induction n with
  | zero =>
    intro x1 x2 V H locs ls hE hz hl
    exact absurd (show (none : Option (Mem)) = some o from hE) (by simp)
  | succ n ih =>
    intro x1 x2 V H locs ls hE hz hl
    unfold f_X6_noteRestarts_4 at hE
    refine lv_iload_n hx hb dX6_noteRestarts_4 rfl (lv_at hl 2 rfl) ?_
    refine lv_aload_n hx hb dX6_noteRestarts_5 rfl (lv_at hl 0 rfl) ?_
    refine g_X6_25 hB hz kdX_0 dX6_noteRestarts_6 ?_
    refine g_X6_146 hB hz kdX_4 dX6_noteRestarts_9 ?_
    refine lv_icmp_ge (tgt := 49) hx hb dX6_noteRestarts_12 (by decide) (fun c12 => ?_) (fun c12 => ?_)
    · have hE := (if_pos c12).symm.trans hE
      exact x_vret hB hz hE dX6_noteRestarts_49
    · have hE := (if_neg c12).symm.trans hE
      refine lv_aload_n hx hb dX6_noteRestarts_15 rfl (lv_at hl 0 rfl) ?_
      refine g_X6_25 hB hz kdX_0 dX6_noteRestarts_16 ?_
      refine g_X6_183 hB hz kdX_4 dX6_noteRestarts_19 ?_
      refine lv_iload_n hx hb dX6_noteRestarts_22 rfl (lv_at hl 2 rfl) ?_
      obtain ⟨hi23, hE⟩ := x_chk hE
      refine x_iald (n := 24) hB hz kdX_6 hi23 dX6_noteRestarts_23 ?_
      refine lv_iconst (v := (2 : Int32)) hx hb dX6_noteRestarts_24 (by decide) ?_
      refine lv_icmp_ne (tgt := 43) hx hb dX6_noteRestarts_25 (by decide) (fun c25 => ?_) (fun c25 => ?_)
      · have hE := (if_neg c25).symm.trans hE
        exact w_X6_noteRestarts_43 hB ih _ _ _ _ _ _  hE hz (lv_sub hl [0, 1, 2] rfl)
      · have hE := (if_pos c25).symm.trans hE
        refine lv_iload_n hx hb dX6_noteRestarts_28 rfl (lv_at hl 1 rfl) ?_
        refine lv_iconst (v := (5 : Int32)) hx hb dX6_noteRestarts_29 (by decide) ?_
        refine lv_icmp_ge (tgt := 43) hx hb dX6_noteRestarts_30 (by decide) (fun c30 => ?_) (fun c30 => ?_)
        · have hE := (if_pos c30).symm.trans hE
          exact w_X6_noteRestarts_43 hB ih _ _ _ _ _ _  hE hz (lv_sub hl [0, 1, 2] rfl)
        · have hE := (if_neg c30).symm.trans hE
          refine lv_aload_n hx hb dX6_noteRestarts_33 rfl (lv_at hl 0 rfl) ?_
          refine g_X6_58 hB hz kdX_0 dX6_noteRestarts_34 ?_
          refine lv_iload_n hx hb dX6_noteRestarts_37 rfl (lv_at hl 1 rfl) ?_
          refine lv_iload_n hx hb dX6_noteRestarts_38 rfl (lv_at hl 2 rfl) ?_
          obtain ⟨hi39, hE⟩ := x_chk hE
          refine x_iast (n := 5) hB hz kdX_97 hi39 dX6_noteRestarts_39 (fun H locs hz => ?_)
          refine lv_iinc (v := (x1 + 1)) (lv' := [(1, .int (x1 + 1)), (0, .ref (ad g 0)), (2, .int x2)]) hx hb dX6_noteRestarts_40 hl (k := 1) rfl rfl (by decide) rfl (fun ls hl => ?_)
          exact w_X6_noteRestarts_43 hB ih _ _ _ _ _ _  hE hz (lv_sub hl [1, 0, 2] rfl)

set_option maxHeartbeats 4000000 in
set_option maxRecDepth 100000 in
theorem w_X6_noteRestarts {p : Program} {l : Launch} {e : Env} {s : State} {m : MethodId} {args : Array Value} {below : List Frame} {meth : Method} {c : Code} {g : GP} (hB : BX p s m args meth c g LX cX6_noteRestarts 3 RX6 none) {o : Mem} : ∀ (V : Mem) (H : Heap) (locs : List Loc) (ls : Array Slot), f_X6_noteRestarts V = some o → OK g LX V s H locs → lv_has ls 3 [(0, .ref (ad g 0))] → W p l e rm_X6_noteRestarts s m args below meth c H locs 0 0 (MQ below (QQ g LX none o) args s 0 0 (Ar g LX)) (F0 m 0 ls []) := by
  obtain ⟨hx, hb, hml, hown, hT, hr, hlk, hK, hJ, hZ, hN⟩ := id hB
  intro V H locs ls hE hz hl
  unfold f_X6_noteRestarts at hE
  refine lv_iconst (v := (0 : Int32)) hx hb dX6_noteRestarts_0 (by decide) ?_
  refine lv_istore_n (lv' := [(1, .int (0 : Int32)), (0, .ref (ad g 0))]) hx hb dX6_noteRestarts_1 rfl hl (by decide) rfl (fun ls hl => ?_)
  refine lv_iconst (v := (0 : Int32)) hx hb dX6_noteRestarts_2 (by decide) ?_
  refine lv_istore_n (lv' := [(2, .int (0 : Int32)), (1, .int (0 : Int32)), (0, .ref (ad g 0))]) hx hb dX6_noteRestarts_3 rfl hl (by decide) rfl (fun ls hl => ?_)
  exact w_X6_noteRestarts_4 hB  _ _ _ _ _ _ _  hE hz (lv_sub hl [2, 1, 0] rfl)
theorem c_X6_noteRestarts (l : Launch) (g : GP) {V : Mem} {o : Mem} (hE : f_X6_noteRestarts V = some o) : CT l g LX yX6_noteRestarts cX6_noteRestarts 3 none rm_X6_noteRestarts [.ref (ad g 0)] V none o := by
  refine ct_of (by decide) (Nat.le_of_ble_eq_true rfl) ?_
  intro p e s m args below meth c ls hB hz hl
  exact w_X6_noteRestarts hB  _ _ _ _  hE hz hl
def rm_X6_loseRestarts : Room := { frames := 2, cells := 0, slots := 0, locals := 124 }
set_option maxHeartbeats 4000000 in
set_option maxRecDepth 100000 in
theorem w_X6_loseRestarts_35_c35 {p : Program} {l : Launch} {e : Env} {s : State} {m : MethodId} {args : Array Value} {below : List Frame} {meth : Method} {c : Code} {g : GP} (hB : BX p s m args meth c g LX cX6_loseRestarts 5 RX6 none) {o : Mem} {k2 : Int32 → Int32 → Int32 → Mem → Option (Mem)} (hk2 : ∀ (x1 : Int32) (x2 : Int32) (x3 : Int32) (V : Mem) (H : Heap) (locs : List Loc) (ls : Array Slot), k2 x1 x2 x3 V = some o → OK g LX V s H locs → lv_has ls 5 [(0, .ref (ad g 0)), (1, .int x1), (2, .int x2), (3, .int x3)] → W p l e rm_X6_loseRestarts s m args below meth c H locs 0 0 (MQ below (QQ g LX none o) args s 0 0 (Ar g LX)) (F0 m 2 ls [])) : ∀ (x1 : Int32) (x2 : Int32) (x3 : Int32) (x4 : Int32) (s1 : Int32) (s2 : Int32) (V : Mem) (H : Heap) (locs : List Loc) (ls : Array Slot), f_X6_loseRestarts_35_c35 k2 x1 x2 x3 x4 s1 s2 V = some o → OK g LX V s H locs → lv_has ls 5 [(0, .ref (ad g 0)), (1, .int x1), (2, .int x2), (3, .int x3), (4, .int x4)] → W p l e rm_X6_loseRestarts s m args below meth c H locs 0 0 (MQ below (QQ g LX none o) args s 0 0 (Ar g LX)) (F0 m 35 ls [.int s2, .int s1, .ref (ad g 35)]) := by
  obtain ⟨hx, hb, hml, hown, hT, hr, hlk, hK, hJ, hZ, hN⟩ := id hB
  intro x1 x2 x3 x4 s1 s2 V H locs ls hE hz hl
  unfold f_X6_loseRestarts_35_c35 at hE
  refine lv_aload_n hx hb dX6_loseRestarts_35 rfl (lv_at hl 0 rfl) ?_
  refine g_X6_25 hB hz kdX_0 dX6_loseRestarts_36 ?_
  refine g_X6_180 hB hz kdX_4 dX6_loseRestarts_39 ?_
  refine lv_iload hx hb dX6_loseRestarts_42 (lv_at hl 4 rfl) ?_
  obtain ⟨hi44, hE⟩ := x_chk hE
  refine x_iald (n := 24) hB hz kdX_7 hi44 dX6_loseRestarts_44 ?_
  refine lv_aload_n hx hb dX6_loseRestarts_45 rfl (lv_at hl 0 rfl) ?_
  refine g_X6_25 hB hz kdX_0 dX6_loseRestarts_46 ?_
  refine g_X6_195 hB hz kdX_4 dX6_loseRestarts_49 ?_
  refine lv_iload hx hb dX6_loseRestarts_52 (lv_at hl 4 rfl) ?_
  obtain ⟨hi54, hE⟩ := x_chk hE
  refine x_iald (n := 24) hB hz kdX_8 hi54 dX6_loseRestarts_54 ?_
  obtain ⟨q55, hq55, hE⟩ := x_bind hE
  refine i_X6_186 hB hz kdX_35 (c_X3_alter l g kdX_35 hq55) ⟨(Nat.le_of_ble_eq_true rfl), (Nat.le_of_ble_eq_true rfl)⟩ hl.1 (Nat.le_of_ble_eq_true rfl) dX6_loseRestarts_55 (fun H locs hz => ?_)
  refine lv_iinc (v := (x3 + 1)) (lv' := [(3, .int (x3 + 1)), (0, .ref (ad g 0)), (1, .int x1), (2, .int x2), (4, .int x4)]) hx hb dX6_loseRestarts_58 hl (k := 3) rfl rfl (by decide) rfl (fun ls hl => ?_)
  refine lv_goto (tgt := 2) hx hb dX6_loseRestarts_61 (by decide) ?_
  exact hk2 _ _ _ _ _ _ _  hE hz (lv_sub hl [1, 2, 3, 0] rfl)

set_option maxHeartbeats 4000000 in
set_option maxRecDepth 100000 in
theorem w_X6_loseRestarts_2 {p : Program} {l : Launch} {e : Env} {s : State} {m : MethodId} {args : Array Value} {below : List Frame} {meth : Method} {c : Code} {g : GP} (hB : BX p s m args meth c g LX cX6_loseRestarts 5 RX6 none) {o : Mem} : ∀ (n : Nat), ∀ (x1 : Int32) (x2 : Int32) (x3 : Int32) (V : Mem) (H : Heap) (locs : List Loc) (ls : Array Slot), f_X6_loseRestarts_2 n x1 x2 x3 V = some o → OK g LX V s H locs → lv_has ls 5 [(0, .ref (ad g 0)), (1, .int x1), (2, .int x2), (3, .int x3)] → W p l e rm_X6_loseRestarts s m args below meth c H locs 0 0 (MQ below (QQ g LX none o) args s 0 0 (Ar g LX)) (F0 m 2 ls []) := by
  obtain ⟨hx, hb, hml, hown, hT, hr, hlk, hK, hJ, hZ, hN⟩ := id hB
  intro n
  induction n with
  | zero =>
    intro x1 x2 x3 V H locs ls hE hz hl
    exact absurd (show (none : Option (Mem)) = some o from hE) (by simp)
  | succ n ih =>
    intro x1 x2 x3 V H locs ls hE hz hl
    unfold f_X6_loseRestarts_2 at hE
    refine lv_iload_n hx hb dX6_loseRestarts_2 rfl (lv_at hl 3 rfl) ?_
    refine lv_iload_n hx hb dX6_loseRestarts_3 rfl (lv_at hl 2 rfl) ?_
    refine lv_icmp_ge (tgt := 64) hx hb dX6_loseRestarts_4 (by decide) (fun c4 => ?_) (fun c4 => ?_)
    · have hE := (if_pos c4).symm.trans hE
      exact x_vret hB hz hE dX6_loseRestarts_64
    · have hE := (if_neg c4).symm.trans hE
      refine lv_aload_n hx hb dX6_loseRestarts_7 rfl (lv_at hl 0 rfl) ?_
      refine g_X6_58 hB hz kdX_0 dX6_loseRestarts_8 ?_
      refine lv_iload_n hx hb dX6_loseRestarts_11 rfl (lv_at hl 3 rfl) ?_
      obtain ⟨hi12, hE⟩ := x_chk hE
      refine x_iald (n := 5) hB hz kdX_97 hi12 dX6_loseRestarts_12 ?_
      refine lv_istore (lv' := [(4, .int (V 97 (x3).toNatClampNeg)), (0, .ref (ad g 0)), (1, .int x1), (2, .int x2), (3, .int x3)]) hx hb dX6_loseRestarts_13 hl (by decide) rfl (fun ls hl => ?_)
      refine lv_aload_n hx hb dX6_loseRestarts_15 rfl (lv_at hl 1 rfl) ?_
      refine g_X6_29 hB hz kdX_0 dX6_loseRestarts_16 ?_
      refine lv_iload hx hb dX6_loseRestarts_19 (lv_at hl 0 rfl) ?_
      refine lv_iload_n hx hb dX6_loseRestarts_21 rfl (lv_at hl 2 rfl) ?_
      refine lv_iload_n hx hb dX6_loseRestarts_22 rfl (lv_at hl 4 rfl) ?_
      refine lv_ishr hx hb dX6_loseRestarts_23 ?_
      refine lv_iconst (v := (1 : Int32)) hx hb dX6_loseRestarts_24 (by decide) ?_
      refine lv_iand hx hb dX6_loseRestarts_25 ?_
      refine lv_iconst (v := (1 : Int32)) hx hb dX6_loseRestarts_26 (by decide) ?_
      refine lv_icmp_ne (tgt := 34) hx hb dX6_loseRestarts_27 (by decide) (fun c27 => ?_) (fun c27 => ?_)
      · have hE := (if_neg c27).symm.trans hE
        refine lv_iconst (v := (2 : Int32)) hx hb dX6_loseRestarts_34 (by decide) ?_
        exact w_X6_loseRestarts_35_c35 hB ih _ _ _ _ _ _ _ _ _ _  hE hz (lv_sub hl [1, 2, 3, 4, 0] rfl)
      · have hE := (if_pos c27).symm.trans hE
        refine lv_iconst (v := (1 : Int32)) hx hb dX6_loseRestarts_30 (by decide) ?_
        refine lv_goto (tgt := 35) hx hb dX6_loseRestarts_31 (by decide) ?_
        exact w_X6_loseRestarts_35_c35 hB ih _ _ _ _ _ _ _ _ _ _  hE hz (lv_sub hl [1, 2, 3, 4, 0] rfl)

set_option maxHeartbeats 4000000 in
set_option maxRecDepth 100000 in
theorem w_X6_loseRestarts {p : Program} {l : Launch} {e : Env} {s : State} {m : MethodId} {args : Array Value} {below : List Frame} {meth : Method} {c : Code} {g : GP} (hB : BX p s m args meth c g LX cX6_loseRestarts 5 RX6 none) {o : Mem} : ∀ (x1 : Int32) (x2 : Int32) (V : Mem) (H : Heap) (locs : List Loc) (ls : Array Slot), f_X6_loseRestarts x1 x2 V = some o → OK g LX V s H locs → lv_has ls 5 [(0, .ref (ad g 0)), (1, .int x1), (2, .int x2)] → W p l e rm_X6_loseRestarts s m args below meth c H locs 0 0 (MQ below (QQ g LX none o) args s 0 0 (Ar g LX)) (F0 m 0 ls []) := by
  obtain ⟨hx, hb, hml, hown, hT, hr, hlk, hK, hJ, hZ, hN⟩ := id hB
  intro x1 x2 V H locs ls hE hz hl
  unfold f_X6_loseRestarts at hE
  refine lv_iconst (v := (0 : Int32)) hx hb dX6_loseRestarts_0 (by decide) ?_
  refine lv_istore_n (lv' := [(3, .int (0 : Int32)), (0, .ref (ad g 0)), (1, .int x1), (2, .int x2)]) hx hb dX6_loseRestarts_1 rfl hl (by decide) rfl (fun ls hl => ?_)
  exact w_X6_loseRestarts_2 hB  _ _ _ _ _ _ _ _  hE hz (lv_sub hl [1, 2, 3, 0] rfl)
theorem c_X6_loseRestarts (l : Launch) (g : GP) {x1 : Int32} {x2 : Int32} {V : Mem} {o : Mem} (hE : f_X6_loseRestarts x1 x2 V = some o) : CT l g LX yX6_loseRestarts cX6_loseRestarts 5 none rm_X6_loseRestarts [.ref (ad g 0), .int x1, .int x2] V none o := by
  refine ct_of (by decide) (Nat.le_of_ble_eq_true rfl) ?_
  intro p e s m args below meth c ls hB hz hl
  exact w_X6_loseRestarts hB _ _ _ _ _ _  hE hz hl
def rm_X6_power : Room := { frames := 0, cells := 0, slots := 0, locals := 0 }
set_option maxHeartbeats 4000000 in
set_option maxRecDepth 100000 in
theorem w_X6_power_5 {p : Program} {l : Launch} {e : Env} {s : State} {m : MethodId} {args : Array Value} {below : List Frame} {meth : Method} {c : Code} {g : GP} (hB : BX p s m args meth c g LX cX6_power 6 RX6 (some .long)) {o : Int64 × Mem} : ∀ (n : Nat), ∀ (x0 : Int64) (x2 : Int32) (x3 : Int64) (x5 : Int32) (V : Mem) (H : Heap) (locs : List Loc) (ls : Array Slot), f_X6_power_5 n x0 x2 x3 x5 V = some o → OK g LX V s H locs → lv_has ls 6 [(0, .long x0), (2, .int x2), (3, .long x3), (5, .int x5)] → W p l e rm_X6_power s m args below meth c H locs 0 0 (MQ below (QQ g LX (some (.long o.1)) o.2) args s 0 0 (Ar g LX)) (F0 m 5 ls []) := by
  obtain ⟨hx, hb, hml, hown, hT, hr, hlk, hK, hJ, hZ, hN⟩ := id hB
  intro n
  induction n with
  | zero =>
    intro x0 x2 x3 x5 V H locs ls hE hz hl
    exact absurd (show (none : Option (Int64 × Mem)) = some o from hE) (by simp)
  | succ n ih =>
    intro x0 x2 x3 x5 V H locs ls hE hz hl
    unfold f_X6_power_5 at hE
    refine lv_iload hx hb dX6_power_5 (lv_at hl 3 rfl) ?_
    refine lv_iload_n hx hb dX6_power_7 rfl (lv_at hl 1 rfl) ?_
    refine lv_icmp_ge (tgt := 21) hx hb dX6_power_8 (by decide) (fun c8 => ?_) (fun c8 => ?_)
    · have hE := (if_pos c8).symm.trans hE
      refine lv_lload_n hx hb dX6_power_21 rfl (lv_at hl 2 rfl) ?_
      exact x_lret hB hz hE dX6_power_22
    · have hE := (if_neg c8).symm.trans hE
      refine lv_lload_n hx hb dX6_power_11 rfl (lv_at hl 2 rfl) ?_
      refine lv_lload_n hx hb dX6_power_12 rfl (lv_at hl 0 rfl) ?_
      refine lv_lmul hx hb dX6_power_13 ?_
      refine lv_lstore_n (lv' := [(3, .long (x3 * x0)), (0, .long x0), (2, .int x2), (5, .int x5)]) hx hb dX6_power_14 rfl hl (by decide) rfl (fun ls hl => ?_)
      refine lv_iinc (v := (x5 + 1)) (lv' := [(5, .int (x5 + 1)), (3, .long (x3 * x0)), (0, .long x0), (2, .int x2)]) hx hb dX6_power_15 hl (k := 3) rfl rfl (by decide) rfl (fun ls hl => ?_)
      refine lv_goto (tgt := 5) hx hb dX6_power_18 (by decide) ?_
      exact ih _ _ _ _ _ _ _ _  hE hz (lv_sub hl [2, 3, 1, 0] rfl)

set_option maxHeartbeats 4000000 in
set_option maxRecDepth 100000 in
theorem w_X6_power {p : Program} {l : Launch} {e : Env} {s : State} {m : MethodId} {args : Array Value} {below : List Frame} {meth : Method} {c : Code} {g : GP} (hB : BX p s m args meth c g LX cX6_power 6 RX6 (some .long)) {o : Int64 × Mem} : ∀ (x0 : Int64) (x2 : Int32) (V : Mem) (H : Heap) (locs : List Loc) (ls : Array Slot), f_X6_power x0 x2 V = some o → OK g LX V s H locs → lv_has ls 6 [(0, .long x0), (2, .int x2)] → W p l e rm_X6_power s m args below meth c H locs 0 0 (MQ below (QQ g LX (some (.long o.1)) o.2) args s 0 0 (Ar g LX)) (F0 m 0 ls []) := by
  obtain ⟨hx, hb, hml, hown, hT, hr, hlk, hK, hJ, hZ, hN⟩ := id hB
  intro x0 x2 V H locs ls hE hz hl
  unfold f_X6_power at hE
  refine lv_lconst (v := (1 : Int64)) hx hb dX6_power_0 (by decide) ?_
  refine lv_lstore_n (lv' := [(3, .long (1 : Int64)), (0, .long x0), (2, .int x2)]) hx hb dX6_power_1 rfl hl (by decide) rfl (fun ls hl => ?_)
  refine lv_iconst (v := (0 : Int32)) hx hb dX6_power_2 (by decide) ?_
  refine lv_istore (lv' := [(5, .int (0 : Int32)), (3, .long (1 : Int64)), (0, .long x0), (2, .int x2)]) hx hb dX6_power_3 hl (by decide) rfl (fun ls hl => ?_)
  exact w_X6_power_5 hB  _ _ _ _ _ _ _ _ _  hE hz (lv_sub hl [2, 3, 1, 0] rfl)
theorem c_X6_power (l : Launch) (g : GP) {x0 : Int64} {x2 : Int32} {V : Mem} {o : Int64 × Mem} (hE : f_X6_power x0 x2 V = some o) : CT l g LX yX6_power cX6_power 6 (some .long) rm_X6_power [.long x0, .int x2] V (some (.long o.1)) o.2 := by
  refine ct_of (by decide) (Nat.le_of_ble_eq_true rfl) ?_
  intro p e s m args below meth c ls hB hz hl
  exact w_X6_power hB _ _ _ _ _ _  hE hz hl
def rm_X6_commonDivisor : Room := { frames := 1, cells := 0, slots := 0, locals := 100 }
set_option maxHeartbeats 4000000 in
set_option maxRecDepth 100000 in
theorem w_X6_commonDivisor_44 {p : Program} {l : Launch} {e : Env} {s : State} {m : MethodId} {args : Array Value} {below : List Frame} {meth : Method} {c : Code} {g : GP} (hB : BX p s m args meth c g LX cX6_commonDivisor 11 RX6 (some .long)) {o : Int64 × Mem} : ∀ (x4 : Int64) (V : Mem) (H : Heap) (locs : List Loc) (ls : Array Slot), f_X6_commonDivisor_44 x4 V = some o → OK g LX V s H locs → lv_has ls 11 [(4, .long x4)] → W p l e rm_X6_commonDivisor s m args below meth c H locs 0 0 (MQ below (QQ g LX (some (.long o.1)) o.2) args s 0 0 (Ar g LX)) (F0 m 44 ls []) := by
  obtain ⟨hx, hb, hml, hown, hT, hr, hlk, hK, hJ, hZ, hN⟩ := id hB
  intro x4 V H locs ls hE hz hl
  unfold f_X6_commonDivisor_44 at hE
  refine lv_lload hx hb dX6_commonDivisor_44 (lv_at hl 0 rfl) ?_
  refine lv_lconst (v := (1 : Int64)) hx hb dX6_commonDivisor_46 (by decide) ?_
  refine va_mmax_long hx hb (hml.trans hl.1.symm) hown (hT _ kw_636) (hT _ kw_637) (hT _ kw_71) (hT _ kw_638) (Nat.le_of_ble_eq_true rfl) (Nat.le_of_ble_eq_true rfl) (Nat.le_of_ble_eq_true rfl) (Nat.le_of_ble_eq_true rfl) dX6_commonDivisor_47 ?_
  exact x_lret hB hz hE dX6_commonDivisor_50

set_option maxHeartbeats 4000000 in
set_option maxRecDepth 100000 in
theorem w_X6_commonDivisor_9 {p : Program} {l : Launch} {e : Env} {s : State} {m : MethodId} {args : Array Value} {below : List Frame} {meth : Method} {c : Code} {g : GP} (hB : BX p s m args meth c g LX cX6_commonDivisor 11 RX6 (some .long)) {o : Int64 × Mem} : ∀ (n : Nat), ∀ (x4 : Int64) (x6 : Int64) (x8 : Int32) (V : Mem) (H : Heap) (locs : List Loc) (ls : Array Slot), f_X6_commonDivisor_9 n x4 x6 x8 V = some o → OK g LX V s H locs → lv_has ls 11 [(4, .long x4), (6, .long x6), (8, .int x8)] → W p l e rm_X6_commonDivisor s m args below meth c H locs 0 0 (MQ below (QQ g LX (some (.long o.1)) o.2) args s 0 0 (Ar g LX)) (F0 m 9 ls []) := by
  obtain ⟨hx, hb, hml, hown, hT, hr, hlk, hK, hJ, hZ, hN⟩ := id hB
  intro n
  induction n with
  | zero =>
    intro x4 x6 x8 V H locs ls hE hz hl
    exact absurd (show (none : Option (Int64 × Mem)) = some o from hE) (by simp)
  | succ n ih =>
    intro x4 x6 x8 V H locs ls hE hz hl
    unfold f_X6_commonDivisor_9 at hE
    refine lv_iload hx hb dX6_commonDivisor_9 (lv_at hl 2 rfl) ?_
    refine lv_bipush (v := (100 : Int32)) hx hb dX6_commonDivisor_11 (by decide) ?_
    refine lv_icmp_ge (tgt := 44) hx hb dX6_commonDivisor_13 (by decide) (fun c13 => ?_) (fun c13 => ?_)
    · have hE := (if_pos c13).symm.trans hE
      exact w_X6_commonDivisor_44 hB  _ _ _ _ _  hE hz (lv_sub hl [0] rfl)
    · have hE := (if_neg c13).symm.trans hE
      refine lv_lload hx hb dX6_commonDivisor_16 (lv_at hl 1 rfl) ?_
      refine lv_lconst (v := (0 : Int64)) hx hb dX6_commonDivisor_18 (by decide) ?_
      refine W.lcmp hx hb dX6_commonDivisor_19 ?_
      refine lv_if_le (tgt := 44) hx hb dX6_commonDivisor_20 (by decide) (fun c20 => ?_) (fun c20 => ?_)
      · have hE := (if_pos c20).symm.trans hE
        exact w_X6_commonDivisor_44 hB  _ _ _ _ _  hE hz (lv_sub hl [0] rfl)
      · have hE := (if_neg c20).symm.trans hE
        refine lv_lload hx hb dX6_commonDivisor_23 (lv_at hl 0 rfl) ?_
        refine lv_lload hx hb dX6_commonDivisor_25 (lv_at hl 1 rfl) ?_
        obtain ⟨hn27, hE⟩ := x_ne0 hE
        refine lv_lrem hx hb dX6_commonDivisor_27 hn27 ?_
        refine lv_lstore (lv' := [(9, .long (x4 - (x4 / x6) * x6)), (4, .long x4), (6, .long x6), (8, .int x8)]) hx hb dX6_commonDivisor_28 hl (by decide) rfl (fun ls hl => ?_)
        refine lv_lload hx hb dX6_commonDivisor_30 (lv_at hl 2 rfl) ?_
        refine lv_lstore (lv' := [(4, .long x6), (9, .long (x4 - (x4 / x6) * x6)), (6, .long x6), (8, .int x8)]) hx hb dX6_commonDivisor_32 hl (by decide) rfl (fun ls hl => ?_)
        refine lv_lload hx hb dX6_commonDivisor_34 (lv_at hl 1 rfl) ?_
        refine lv_lstore (lv' := [(6, .long (x4 - (x4 / x6) * x6)), (4, .long x6), (9, .long (x4 - (x4 / x6) * x6)), (8, .int x8)]) hx hb dX6_commonDivisor_36 hl (by decide) rfl (fun ls hl => ?_)
        refine lv_iinc (v := (x8 + 1)) (lv' := [(8, .int (x8 + 1)), (6, .long (x4 - (x4 / x6) * x6)), (4, .long x6), (9, .long (x4 - (x4 / x6) * x6))]) hx hb dX6_commonDivisor_38 hl (k := 3) rfl rfl (by decide) rfl (fun ls hl => ?_)
        refine lv_goto (tgt := 9) hx hb dX6_commonDivisor_41 (by decide) ?_
        exact ih _ _ _ _ _ _ _  hE hz (lv_sub hl [2, 1, 0] rfl)

set_option maxHeartbeats 4000000 in
set_option maxRecDepth 100000 in
theorem w_X6_commonDivisor {p : Program} {l : Launch} {e : Env} {s : State} {m : MethodId} {args : Array Value} {below : List Frame} {meth : Method} {c : Code} {g : GP} (hB : BX p s m args meth c g LX cX6_commonDivisor 11 RX6 (some .long)) {o : Int64 × Mem} : ∀ (x0 : Int64) (x2 : Int64) (V : Mem) (H : Heap) (locs : List Loc) (ls : Array Slot), f_X6_commonDivisor x0 x2 V = some o → OK g LX V s H locs → lv_has ls 11 [(0, .long x0), (2, .long x2)] → W p l e rm_X6_commonDivisor s m args below meth c H locs 0 0 (MQ below (QQ g LX (some (.long o.1)) o.2) args s 0 0 (Ar g LX)) (F0 m 0 ls []) := by
  obtain ⟨hx, hb, hml, hown, hT, hr, hlk, hK, hJ, hZ, hN⟩ := id hB
  intro x0 x2 V H locs ls hE hz hl
  unfold f_X6_commonDivisor at hE
  refine lv_lload_n hx hb dX6_commonDivisor_0 rfl (lv_at hl 1 rfl) ?_
  refine lv_lstore (lv' := [(4, .long x2), (0, .long x0), (2, .long x2)]) hx hb dX6_commonDivisor_1 hl (by decide) rfl (fun ls hl => ?_)
  refine lv_lload_n hx hb dX6_commonDivisor_3 rfl (lv_at hl 1 rfl) ?_
  refine lv_lstore (lv' := [(6, .long x0), (4, .long x2), (0, .long x0), (2, .long x2)]) hx hb dX6_commonDivisor_4 hl (by decide) rfl (fun ls hl => ?_)
  refine lv_iconst (v := (0 : Int32)) hx hb dX6_commonDivisor_6 (by decide) ?_
  refine lv_istore (lv' := [(8, .int (0 : Int32)), (6, .long x0), (4, .long x2), (0, .long x0), (2, .long x2)]) hx hb dX6_commonDivisor_7 hl (by decide) rfl (fun ls hl => ?_)
  exact w_X6_commonDivisor_9 hB  _ _ _ _ _ _ _ _  hE hz (lv_sub hl [2, 1, 0] rfl)
theorem c_X6_commonDivisor (l : Launch) (g : GP) {x0 : Int64} {x2 : Int64} {V : Mem} {o : Int64 × Mem} (hE : f_X6_commonDivisor x0 x2 V = some o) : CT l g LX yX6_commonDivisor cX6_commonDivisor 11 (some .long) rm_X6_commonDivisor [.long x0, .long x2] V (some (.long o.1)) o.2 := by
  refine ct_of (by decide) (Nat.le_of_ble_eq_true rfl) ?_
  intro p e s m args below meth c ls hB hz hl
  exact w_X6_commonDivisor hB _ _ _ _ _ _  hE hz hl
def rm_X6_lost : Room := { frames := 4, cells := 0, slots := 0, locals := 167 }
theorem i_X6_253 {p : Program} {l : Launch} {e : Env} {R : Room} {s : State} {m : MethodId} {args : Array Value} {below : List Frame} {meth : Method} {c : Code} {H : Heap} {locs : List Loc} {Q : State → Prop} {cc : ByteArray} {pc : Nat} {ls : Array Slot} {rest : List Value} {g : GP} {V : Mem} {nL : Nat} {ret : Option FieldType} (hB : BX p s m args meth c g LX cc nL RX6 ret) (hz : OK g LX V s H locs) {i : Nat} (hk : KD LX i 2) {a0 : Int32} {r : Int32} {V1 : Mem} (hM : CT l g LX yX3_howManyOf cX3_howManyOf 4 (some .int) rm_X3_howManyOf [.ref (ad g i), .int a0] V (some (.int r)) V1) (hR : rm_X3_howManyOf.frames + 1 ≤ R.frames ∧ 8 + (4 + 11) + rm_X3_howManyOf.locals ≤ R.locals) (hsz : ls.size = nL) (hrest : (rest.map fun v => v.category).sum ≤ 8) (hdg : decode cc pc = .ok (.invokevirtual 253, 3)) (kk : ∀ (H1 : Heap) (locs1 : List Loc), OK g LX V1 s H1 locs1 → W p l e R s m args below meth c H1 locs1 0 0 Q (F0 m (pc + 3) ls (.int r :: rest))) : W p l e R s m args below meth c H locs 0 0 Q (F0 m pc ls (.int a0 :: .ref (ad g i) :: rest)) :=
  x_cv (As := [.int a0]) (n := 1) (T := TX3) (N := 7) hB hz hM hk rfl rfl rfl rfl kw_613 kw_64 kw_610 kw_611 kw_612 (by decide +kernel) rfl hR hsz hrest hdg kk
theorem i_X6_258 {p : Program} {l : Launch} {e : Env} {R : Room} {s : State} {m : MethodId} {args : Array Value} {below : List Frame} {meth : Method} {c : Code} {H : Heap} {locs : List Loc} {Q : State → Prop} {cc : ByteArray} {pc : Nat} {ls : Array Slot} {rest : List Value} {g : GP} {V : Mem} {nL : Nat} {ret : Option FieldType} (hB : BX p s m args meth c g LX cc nL RX6 ret) (hz : OK g LX V s H locs) {i : Nat} (hk : KD LX i 5) {V1 : Mem} (hM : CT l g LX yX6_noteRestarts cX6_noteRestarts 3 none rm_X6_noteRestarts [.ref (ad g i)] V none V1) (hR : rm_X6_noteRestarts.frames + 1 ≤ R.frames ∧ 8 + (3 + 11) + rm_X6_noteRestarts.locals ≤ R.locals) (hsz : ls.size = nL) (hrest : (rest.map fun v => v.category).sum ≤ 8) (hdg : decode cc pc = .ok (.invokevirtual 258, 3)) (kk : ∀ (H1 : Heap) (locs1 : List Loc), OK g LX V1 s H1 locs1 → W p l e R s m args below meth c H1 locs1 0 0 Q (F0 m (pc + 3) ls (rest))) : W p l e R s m args below meth c H locs 0 0 Q (F0 m pc ls (.ref (ad g i) :: rest)) :=
  x_cv (As := []) (n := 0) (T := TX6) (N := 14) hB hz hM hk rfl rfl rfl rfl kw_618 kw_62 kw_615 kw_617 kw_17 (by decide +kernel) rfl hR hsz hrest hdg kk
theorem i_X6_269 {p : Program} {l : Launch} {e : Env} {R : Room} {s : State} {m : MethodId} {args : Array Value} {below : List Frame} {meth : Method} {c : Code} {H : Heap} {locs : List Loc} {Q : State → Prop} {cc : ByteArray} {pc : Nat} {ls : Array Slot} {rest : List Value} {g : GP} {V : Mem} {nL : Nat} {ret : Option FieldType} (hB : BX p s m args meth c g LX cc nL RX6 ret) (hz : OK g LX V s H locs) {a0 : Int64} {a1 : Int32} {r : Int64} {V1 : Mem} (hM : CT l g LX yX6_power cX6_power 6 (some .long) rm_X6_power [.long a0, .int a1] V (some (.long r)) V1) (hR : rm_X6_power.frames + 1 ≤ R.frames ∧ 8 + (6 + 11) + rm_X6_power.locals ≤ R.locals) (hsz : ls.size = nL) (hrest : (rest.map fun v => v.category).sum ≤ 8) (hdg : decode cc pc = .ok (.invokestatic 269, 3)) (kk : ∀ (H1 : Heap) (locs1 : List Loc), OK g LX V1 s H1 locs1 → W p l e R s m args below meth c H1 locs1 0 0 Q (F0 m (pc + 3) ls (.long r :: rest))) : W p l e R s m args below meth c H locs 0 0 Q (F0 m pc ls (.int a1 :: .long a0 :: rest)) :=
  x_cs (As := [.long a0, .int a1]) (n := 2) hB hz hM rfl rfl kw_631 kw_62 kw_629 kw_630 (by decide +kernel) rfl hR hsz hrest hdg kk
theorem i_X6_275 {p : Program} {l : Launch} {e : Env} {R : Room} {s : State} {m : MethodId} {args : Array Value} {below : List Frame} {meth : Method} {c : Code} {H : Heap} {locs : List Loc} {Q : State → Prop} {cc : ByteArray} {pc : Nat} {ls : Array Slot} {rest : List Value} {g : GP} {V : Mem} {nL : Nat} {ret : Option FieldType} (hB : BX p s m args meth c g LX cc nL RX6 ret) (hz : OK g LX V s H locs) {a0 : Int64} {a1 : Int64} {r : Int64} {V1 : Mem} (hM : CT l g LX yX6_commonDivisor cX6_commonDivisor 11 (some .long) rm_X6_commonDivisor [.long a0, .long a1] V (some (.long r)) V1) (hR : rm_X6_commonDivisor.frames + 1 ≤ R.frames ∧ 8 + (11 + 11) + rm_X6_commonDivisor.locals ≤ R.locals) (hsz : ls.size = nL) (hrest : (rest.map fun v => v.category).sum ≤ 8) (hdg : decode cc pc = .ok (.invokestatic 275, 3)) (kk : ∀ (H1 : Heap) (locs1 : List Loc), OK g LX V1 s H1 locs1 → W p l e R s m args below meth c H1 locs1 0 0 Q (F0 m (pc + 3) ls (.long r :: rest))) : W p l e R s m args below meth c H locs 0 0 Q (F0 m pc ls (.long a1 :: .long a0 :: rest)) :=
  x_cs (As := [.long a0, .long a1]) (n := 2) hB hz hM rfl rfl kw_635 kw_62 kw_633 kw_634 (by decide +kernel) rfl hR hsz hrest hdg kk
theorem i_X6_261 {p : Program} {l : Launch} {e : Env} {R : Room} {s : State} {m : MethodId} {args : Array Value} {below : List Frame} {meth : Method} {c : Code} {H : Heap} {locs : List Loc} {Q : State → Prop} {cc : ByteArray} {pc : Nat} {ls : Array Slot} {rest : List Value} {g : GP} {V : Mem} {nL : Nat} {ret : Option FieldType} (hB : BX p s m args meth c g LX cc nL RX6 ret) (hz : OK g LX V s H locs) {i : Nat} (hk : KD LX i 5) {a0 : Int32} {a1 : Int32} {V1 : Mem} (hM : CT l g LX yX6_loseRestarts cX6_loseRestarts 5 none rm_X6_loseRestarts [.ref (ad g i), .int a0, .int a1] V none V1) (hR : rm_X6_loseRestarts.frames + 1 ≤ R.frames ∧ 8 + (5 + 11) + rm_X6_loseRestarts.locals ≤ R.locals) (hsz : ls.size = nL) (hrest : (rest.map fun v => v.category).sum ≤ 8) (hdg : decode cc pc = .ok (.invokevirtual 261, 3)) (kk : ∀ (H1 : Heap) (locs1 : List Loc), OK g LX V1 s H1 locs1 → W p l e R s m args below meth c H1 locs1 0 0 Q (F0 m (pc + 3) ls (rest))) : W p l e R s m args below meth c H locs 0 0 Q (F0 m pc ls (.int a1 :: .int a0 :: .ref (ad g i) :: rest)) :=
  x_cv (As := [.int a0, .int a1]) (n := 2) (T := TX6) (N := 14) hB hz hM hk rfl rfl rfl rfl kw_622 kw_62 kw_619 kw_621 kw_18 (by decide +kernel) rfl hR hsz hrest hdg kk
theorem i_X6_264 {p : Program} {l : Launch} {e : Env} {R : Room} {s : State} {m : MethodId} {args : Array Value} {below : List Frame} {meth : Method} {c : Code} {H : Heap} {locs : List Loc} {Q : State → Prop} {cc : ByteArray} {pc : Nat} {ls : Array Slot} {rest : List Value} {g : GP} {V : Mem} {nL : Nat} {ret : Option FieldType} (hB : BX p s m args meth c g LX cc nL RX6 ret) (hz : OK g LX V s H locs) {a0 : Int32} {r : Int32} {V1 : Mem} (hM : CT l g LX yJ6_bitCount_0f7a4 cJ6_bitCount_0f7a4 1 (some .int) rm_J6_bitCount_0f7a4 [.int a0] V (some (.int r)) V1) (hR : rm_J6_bitCount_0f7a4.frames + 1 ≤ R.frames ∧ 8 + (1 + 11) + rm_J6_bitCount_0f7a4.locals ≤ R.locals) (hsz : ls.size = nL) (hrest : (rest.map fun v => v.category).sum ≤ 8) (hdg : decode cc pc = .ok (.invokestatic 264, 3)) (kk : ∀ (H1 : Heap) (locs1 : List Loc), OK g LX V1 s H1 locs1 → W p l e R s m args below meth c H1 locs1 0 0 Q (F0 m (pc + 3) ls (.int r :: rest))) : W p l e R s m args below meth c H locs 0 0 Q (F0 m pc ls (.int a0 :: rest)) :=
  x_cs (As := [.int a0]) (n := 1) hB hz hM rfl rfl kw_625 kw_73 kw_623 kw_624 (by decide +kernel) rfl hR hsz hrest hdg kk
set_option maxHeartbeats 4000000 in
set_option maxRecDepth 100000 in
theorem w_X6_lost_41 {p : Program} {l : Launch} {e : Env} {s : State} {m : MethodId} {args : Array Value} {below : List Frame} {meth : Method} {c : Code} {g : GP} (hB : BX p s m args meth c g LX cX6_lost 12 RX6 (some .long)) {o : Int64 × Mem} : ∀ (V : Mem) (H : Heap) (locs : List Loc) (ls : Array Slot), f_X6_lost_41 V = some o → OK g LX V s H locs → lv_has ls 12 [] → W p l e rm_X6_lost s m args below meth c H locs 0 0 (MQ below (QQ g LX (some (.long o.1)) o.2) args s 0 0 (Ar g LX)) (F0 m 41 ls []) := by
  obtain ⟨hx, hb, hml, hown, hT, hr, hlk, hK, hJ, hZ, hN⟩ := id hB
  intro V H locs ls hE hz hl
  unfold f_X6_lost_41 at hE
  refine lv_ldc2 (v := (-1000001 : Int64)) hx hb hown (hT _ kw_609) dX6_lost_41 ?_
  exact x_lret hB hz hE dX6_lost_44

set_option maxHeartbeats 4000000 in
set_option maxRecDepth 100000 in
theorem w_X6_lost_148 {p : Program} {l : Launch} {e : Env} {s : State} {m : MethodId} {args : Array Value} {below : List Frame} {meth : Method} {c : Code} {g : GP} (hB : BX p s m args meth c g LX cX6_lost 12 RX6 (some .long)) {o : Int64 × Mem} {k86 : Int32 → Int32 → Int32 → Int32 → Int32 → Int64 → Int32 → Mem → Option (Int64 × Mem)} (hk86 : ∀ (x1 : Int32) (x2 : Int32) (x3 : Int32) (x4 : Int32) (x5 : Int32) (x6 : Int64) (x8 : Int32) (V : Mem) (H : Heap) (locs : List Loc) (ls : Array Slot), k86 x1 x2 x3 x4 x5 x6 x8 V = some o → OK g LX V s H locs → lv_has ls 12 [(0, .ref (ad g 0)), (1, .int x1), (2, .int x2), (3, .int x3), (4, .int x4), (5, .int x5), (6, .long x6), (8, .int x8)] → W p l e rm_X6_lost s m args below meth c H locs 0 0 (MQ below (QQ g LX (some (.long o.1)) o.2) args s 0 0 (Ar g LX)) (F0 m 86 ls [])) : ∀ (x1 : Int32) (x2 : Int32) (x3 : Int32) (x4 : Int32) (x5 : Int32) (x6 : Int64) (x8 : Int32) (V : Mem) (H : Heap) (locs : List Loc) (ls : Array Slot), f_X6_lost_148 k86 x1 x2 x3 x4 x5 x6 x8 V = some o → OK g LX V s H locs → lv_has ls 12 [(0, .ref (ad g 0)), (1, .int x1), (2, .int x2), (3, .int x3), (4, .int x4), (5, .int x5), (6, .long x6), (8, .int x8)] → W p l e rm_X6_lost s m args below meth c H locs 0 0 (MQ below (QQ g LX (some (.long o.1)) o.2) args s 0 0 (Ar g LX)) (F0 m 148 ls []) := by
  obtain ⟨hx, hb, hml, hown, hT, hr, hlk, hK, hJ, hZ, hN⟩ := id hB
  intro x1 x2 x3 x4 x5 x6 x8 V H locs ls hE hz hl
  unfold f_X6_lost_148 at hE
  refine lv_iinc (v := (x8 + 1)) (lv' := [(8, .int (x8 + 1)), (0, .ref (ad g 0)), (1, .int x1), (2, .int x2), (3, .int x3), (4, .int x4), (5, .int x5), (6, .long x6)]) hx hb dX6_lost_148 hl (k := 7) rfl rfl (by decide) rfl (fun ls hl => ?_)
  refine lv_goto (tgt := 86) hx hb dX6_lost_151 (by decide) ?_
  exact hk86 _ _ _ _ _ _ _ _ _ _ _  hE hz (lv_sub hl [1, 2, 3, 4, 5, 6, 7, 0] rfl)

set_option maxHeartbeats 4000000 in
set_option maxRecDepth 100000 in
theorem w_X6_lost_86 {p : Program} {l : Launch} {e : Env} {s : State} {m : MethodId} {args : Array Value} {below : List Frame} {meth : Method} {c : Code} {g : GP} (hB : BX p s m args meth c g LX cX6_lost 12 RX6 (some .long)) {o : Int64 × Mem} : ∀ (n : Nat), ∀ (x1 : Int32) (x2 : Int32) (x3 : Int32) (x4 : Int32) (x5 : Int32) (x6 : Int64) (x8 : Int32) (V : Mem) (H : Heap) (locs : List Loc) (ls : Array Slot), f_X6_lost_86 n x1 x2 x3 x4 x5 x6 x8 V = some o → OK g LX V s H locs → lv_has ls 12 [(0, .ref (ad g 0)), (1, .int x1), (2, .int x2), (3, .int x3), (4, .int x4), (5, .int x5), (6, .long x6), (8, .int x8)] → W p l e rm_X6_lost s m args below meth c H locs 0 0 (MQ below (QQ g LX (some (.long o.1)) o.2) args s 0 0 (Ar g LX)) (F0 m 86 ls []) := by
  obtain ⟨hx, hb, hml, hown, hT, hr, hlk, hK, hJ, hZ, hN⟩ := id hB
  intro n
  induction n with
  | zero =>
    intro x1 x2 x3 x4 x5 x6 x8 V H locs ls hE hz hl
    exact absurd (show (none : Option (Int64 × Mem)) = some o from hE) (by simp)
  | succ n ih =>
    intro x1 x2 x3 x4 x5 x6 x8 V H locs ls hE hz hl
    unfold f_X6_lost_86 at hE
    refine lv_iload hx hb dX6_lost_86 (lv_at hl 7 rfl) ?_
    refine lv_iconst (v := (1 : Int32)) hx hb dX6_lost_88 (by decide) ?_
    refine lv_iload hx hb dX6_lost_89 (lv_at hl 5 rfl) ?_
    refine lv_ishl hx hb dX6_lost_91 ?_
    refine lv_icmp_ge (tgt := 154) hx hb dX6_lost_92 (by decide) (fun c92 => ?_) (fun c92 => ?_)
    · have hE := (if_pos c92).symm.trans hE
      refine lv_ldc2 (v := (10 : Int64)) hx hb hown (hT _ kw_632) dX6_lost_154 ?_
      refine lv_iload hx hb dX6_lost_157 (lv_at hl 5 rfl) ?_
      obtain ⟨q159, hq159, hE⟩ := x_bind hE
      refine i_X6_269 hB hz (c_X6_power l g  hq159) ⟨(Nat.le_of_ble_eq_true rfl), (Nat.le_of_ble_eq_true rfl)⟩ hl.1 (Nat.le_of_ble_eq_true rfl) dX6_lost_159 (fun H locs hz => ?_)
      refine lv_lstore (lv' := [(8, .long q159.1), (0, .ref (ad g 0)), (1, .int x1), (2, .int x2), (3, .int x3), (4, .int x4), (5, .int x5), (6, .long x6)]) hx hb dX6_lost_162 hl (by decide) rfl (fun ls hl => ?_)
      refine lv_lload hx hb dX6_lost_164 (lv_at hl 7 rfl) ?_
      refine lv_lload hx hb dX6_lost_166 (lv_at hl 0 rfl) ?_
      obtain ⟨q168, hq168, hE⟩ := x_bind hE
      refine i_X6_275 hB hz (c_X6_commonDivisor l g  hq168) ⟨(Nat.le_of_ble_eq_true rfl), (Nat.le_of_ble_eq_true rfl)⟩ hl.1 (Nat.le_of_ble_eq_true rfl) dX6_lost_168 (fun H locs hz => ?_)
      refine lv_lstore (lv' := [(10, .long q168.1), (8, .long q159.1), (0, .ref (ad g 0)), (1, .int x1), (2, .int x2), (3, .int x3), (4, .int x4), (5, .int x5), (6, .long x6)]) hx hb dX6_lost_171 hl (by decide) rfl (fun ls hl => ?_)
      refine lv_iload hx hb dX6_lost_173 (lv_at hl 6 rfl) ?_
      refine lv_if_ne (tgt := 186) hx hb dX6_lost_175 (by decide) (fun c175 => ?_) (fun c175 => ?_)
      · have hE := (if_neg c175).symm.trans hE
        refine lv_lload hx hb dX6_lost_186 (lv_at hl 1 rfl) ?_
        refine lv_lload hx hb dX6_lost_188 (lv_at hl 0 rfl) ?_
        obtain ⟨hn190, hE⟩ := x_ne0 hE
        refine lv_ldiv hx hb dX6_lost_190 hn190 ?_
        exact x_lret hB hz hE dX6_lost_191
      · have hE := (if_pos c175).symm.trans hE
        refine lv_lload hx hb dX6_lost_178 (lv_at hl 8 rfl) ?_
        refine lv_lload hx hb dX6_lost_180 (lv_at hl 0 rfl) ?_
        obtain ⟨hn182, hE⟩ := x_ne0 hE
        refine lv_ldiv hx hb dX6_lost_182 hn182 ?_
        refine lv_goto (tgt := 191) hx hb dX6_lost_183 (by decide) ?_
        exact x_lret hB hz hE dX6_lost_191
    · have hE := (if_neg c92).symm.trans hE
      refine lv_aload_n hx hb dX6_lost_95 rfl (lv_at hl 0 rfl) ?_
      refine lv_iload hx hb dX6_lost_96 (lv_at hl 7 rfl) ?_
      refine lv_iload hx hb dX6_lost_98 (lv_at hl 5 rfl) ?_
      obtain ⟨q100, hq100, hE⟩ := x_bind hE
      refine i_X6_261 hB hz kdX_0 (c_X6_loseRestarts l g  hq100) ⟨(Nat.le_of_ble_eq_true rfl), (Nat.le_of_ble_eq_true rfl)⟩ hl.1 (Nat.le_of_ble_eq_true rfl) dX6_lost_100 (fun H locs hz => ?_)
      refine lv_aload_n hx hb dX6_lost_103 rfl (lv_at hl 0 rfl) ?_
      refine g_X6_29 hB hz kdX_0 dX6_lost_104 ?_
      refine lv_iload_n hx hb dX6_lost_107 rfl (lv_at hl 1 rfl) ?_
      obtain ⟨q108, hq108, hE⟩ := x_bind hE
      refine i_X6_245 hB hz kdX_35 (c_X3_ownCount l g kdX_35 hq108) ⟨(Nat.le_of_ble_eq_true rfl), (Nat.le_of_ble_eq_true rfl)⟩ hl.1 (Nat.le_of_ble_eq_true rfl) dX6_lost_108 (fun H locs hz => ?_)
      refine lv_iload_n hx hb dX6_lost_111 rfl (lv_at hl 2 rfl) ?_
      refine lv_icmp_ne (tgt := 148) hx hb dX6_lost_112 (by decide) (fun c112 => ?_) (fun c112 => ?_)
      · have hE := (if_neg c112).symm.trans hE
        exact w_X6_lost_148 hB ih _ _ _ _ _ _ _ _ _ _ _  hE hz (lv_sub hl [0, 1, 2, 3, 4, 5, 6, 7] rfl)
      · have hE := (if_pos c112).symm.trans hE
        refine lv_iload hx hb dX6_lost_115 (lv_at hl 7 rfl) ?_
        obtain ⟨q117, hq117, hE⟩ := x_bind hE
        refine i_X6_264 hB hz (c_J6_bitCount_0f7a4 l g  hq117) ⟨(Nat.le_of_ble_eq_true rfl), (Nat.le_of_ble_eq_true rfl)⟩ hl.1 (Nat.le_of_ble_eq_true rfl) dX6_lost_117 (fun H locs hz => ?_)
        refine lv_istore (lv' := [(9, .int q117.1), (0, .ref (ad g 0)), (1, .int x1), (2, .int x2), (3, .int x3), (4, .int x4), (5, .int x5), (6, .long x6), (8, .int x8)]) hx hb dX6_lost_120 hl (by decide) rfl (fun ls hl => ?_)
        refine lv_lload hx hb dX6_lost_122 (lv_at hl 7 rfl) ?_
        refine lv_iload_n hx hb dX6_lost_124 rfl (lv_at hl 4 rfl) ?_
        refine lv_i2l hx hb dX6_lost_125 rfl ?_
        refine lv_iload hx hb dX6_lost_126 (lv_at hl 0 rfl) ?_
        obtain ⟨q128, hq128, hE⟩ := x_bind hE
        refine i_X6_269 hB hz (c_X6_power l g  hq128) ⟨(Nat.le_of_ble_eq_true rfl), (Nat.le_of_ble_eq_true rfl)⟩ hl.1 (Nat.le_of_ble_eq_true rfl) dX6_lost_128 (fun H locs hz => ?_)
        refine lv_bipush (v := (10 : Int32)) hx hb dX6_lost_131 (by decide) ?_
        refine lv_iload_n hx hb dX6_lost_133 rfl (lv_at hl 4 rfl) ?_
        refine lv_isub hx hb dX6_lost_134 ?_
        refine lv_i2l hx hb dX6_lost_135 rfl ?_
        refine lv_iload hx hb dX6_lost_136 (lv_at hl 6 rfl) ?_
        refine lv_iload hx hb dX6_lost_138 (lv_at hl 0 rfl) ?_
        refine lv_isub hx hb dX6_lost_140 ?_
        obtain ⟨q141, hq141, hE⟩ := x_bind hE
        refine i_X6_269 hB hz (c_X6_power l g  hq141) ⟨(Nat.le_of_ble_eq_true rfl), (Nat.le_of_ble_eq_true rfl)⟩ hl.1 (Nat.le_of_ble_eq_true rfl) dX6_lost_141 (fun H locs hz => ?_)
        refine lv_lmul hx hb dX6_lost_144 ?_
        refine lv_ladd hx hb dX6_lost_145 ?_
        refine lv_lstore (lv' := [(6, .long (x6 + (q128.1 * q141.1))), (9, .int q117.1), (0, .ref (ad g 0)), (1, .int x1), (2, .int x2), (3, .int x3), (4, .int x4), (5, .int x5), (8, .int x8)]) hx hb dX6_lost_146 hl (by decide) rfl (fun ls hl => ?_)
        exact w_X6_lost_148 hB ih _ _ _ _ _ _ _ _ _ _ _  hE hz (lv_sub hl [2, 3, 4, 5, 6, 7, 0, 8] rfl)

set_option maxHeartbeats 4000000 in
set_option maxRecDepth 100000 in
theorem w_X6_lost {p : Program} {l : Launch} {e : Env} {s : State} {m : MethodId} {args : Array Value} {below : List Frame} {meth : Method} {c : Code} {g : GP} (hB : BX p s m args meth c g LX cX6_lost 12 RX6 (some .long)) {o : Int64 × Mem} : ∀ (x1 : Int32) (x2 : Int32) (x3 : Int32) (x4 : Int32) (V : Mem) (H : Heap) (locs : List Loc) (ls : Array Slot), f_X6_lost x1 x2 x3 x4 V = some o → OK g LX V s H locs → lv_has ls 12 [(0, .ref (ad g 0)), (1, .int x1), (2, .int x2), (3, .int x3), (4, .int x4)] → W p l e rm_X6_lost s m args below meth c H locs 0 0 (MQ below (QQ g LX (some (.long o.1)) o.2) args s 0 0 (Ar g LX)) (F0 m 0 ls []) := by
  obtain ⟨hx, hb, hml, hown, hT, hr, hlk, hK, hJ, hZ, hN⟩ := id hB
  intro x1 x2 x3 x4 V H locs ls hE hz hl
  unfold f_X6_lost at hE
  refine lv_aload_n hx hb dX6_lost_0 rfl (lv_at hl 0 rfl) ?_
  refine g_X6_25 hB hz kdX_0 dX6_lost_1 ?_
  refine lv_iload_n hx hb dX6_lost_4 rfl (lv_at hl 1 rfl) ?_
  obtain ⟨q5, hq5, hE⟩ := x_bind hE
  refine i_X6_166 hB hz kdX_4 (c_X3_has l g kdX_4 hq5) ⟨(Nat.le_of_ble_eq_true rfl), (Nat.le_of_ble_eq_true rfl)⟩ hl.1 (Nat.le_of_ble_eq_true rfl) dX6_lost_5 (fun H locs hz => ?_)
  refine lv_if_eq (tgt := 41) hx hb dX6_lost_8 (by decide) (fun c8 => ?_) (fun c8 => ?_)
  · have hE := (if_pos c8).symm.trans hE
    exact w_X6_lost_41 hB   _ _ _ _  hE hz (lv_sub hl [] rfl)
  · have hE := (if_neg c8).symm.trans hE
    refine lv_iload_n hx hb dX6_lost_11 rfl (lv_at hl 2 rfl) ?_
    refine lv_iconst (v := (0 : Int32)) hx hb dX6_lost_12 (by decide) ?_
    refine lv_bipush (v := (99 : Int32)) hx hb dX6_lost_13 (by decide) ?_
    obtain ⟨q15, hq15, hE⟩ := x_bind hE
    refine i_X6_79 hB hz (c_X6_isBetween l g  hq15) ⟨(Nat.le_of_ble_eq_true rfl), (Nat.le_of_ble_eq_true rfl)⟩ hl.1 (Nat.le_of_ble_eq_true rfl) dX6_lost_15 (fun H locs hz => ?_)
    refine lv_if_eq (tgt := 41) hx hb dX6_lost_18 (by decide) (fun c18 => ?_) (fun c18 => ?_)
    · have hE := (if_pos c18).symm.trans hE
      exact w_X6_lost_41 hB   _ _ _ _  hE hz (lv_sub hl [] rfl)
    · have hE := (if_neg c18).symm.trans hE
      refine lv_iload_n hx hb dX6_lost_21 rfl (lv_at hl 3 rfl) ?_
      refine lv_iconst (v := (0 : Int32)) hx hb dX6_lost_22 (by decide) ?_
      refine lv_bipush (v := (10 : Int32)) hx hb dX6_lost_23 (by decide) ?_
      obtain ⟨q25, hq25, hE⟩ := x_bind hE
      refine i_X6_79 hB hz (c_X6_isBetween l g  hq25) ⟨(Nat.le_of_ble_eq_true rfl), (Nat.le_of_ble_eq_true rfl)⟩ hl.1 (Nat.le_of_ble_eq_true rfl) dX6_lost_25 (fun H locs hz => ?_)
      refine lv_if_eq (tgt := 41) hx hb dX6_lost_28 (by decide) (fun c28 => ?_) (fun c28 => ?_)
      · have hE := (if_pos c28).symm.trans hE
        exact w_X6_lost_41 hB   _ _ _ _  hE hz (lv_sub hl [] rfl)
      · have hE := (if_neg c28).symm.trans hE
        refine lv_iload hx hb dX6_lost_31 (lv_at hl 4 rfl) ?_
        refine lv_iconst (v := (0 : Int32)) hx hb dX6_lost_33 (by decide) ?_
        refine lv_iconst (v := (1 : Int32)) hx hb dX6_lost_34 (by decide) ?_
        obtain ⟨q35, hq35, hE⟩ := x_bind hE
        refine i_X6_79 hB hz (c_X6_isBetween l g  hq35) ⟨(Nat.le_of_ble_eq_true rfl), (Nat.le_of_ble_eq_true rfl)⟩ hl.1 (Nat.le_of_ble_eq_true rfl) dX6_lost_35 (fun H locs hz => ?_)
        refine lv_if_ne (tgt := 45) hx hb dX6_lost_38 (by decide) (fun c38 => ?_) (fun c38 => ?_)
        · have hE := (if_neg c38).symm.trans hE
          refine lv_aload_n hx hb dX6_lost_45 rfl (lv_at hl 0 rfl) ?_
          refine g_X6_25 hB hz kdX_0 dX6_lost_46 ?_
          refine lv_iconst (v := (2 : Int32)) hx hb dX6_lost_49 (by decide) ?_
          obtain ⟨q50, hq50, hE⟩ := x_bind hE
          refine i_X6_253 hB hz kdX_4 (c_X3_howManyOf l g kdX_4 hq50) ⟨(Nat.le_of_ble_eq_true rfl), (Nat.le_of_ble_eq_true rfl)⟩ hl.1 (Nat.le_of_ble_eq_true rfl) dX6_lost_50 (fun H locs hz => ?_)
          refine lv_istore (lv' := [(5, .int q50.1), (0, .ref (ad g 0)), (1, .int x1), (2, .int x2), (3, .int x3), (4, .int x4)]) hx hb dX6_lost_53 hl (by decide) rfl (fun ls hl => ?_)
          refine lv_iload hx hb dX6_lost_55 (lv_at hl 0 rfl) ?_
          refine lv_iconst (v := (5 : Int32)) hx hb dX6_lost_57 (by decide) ?_
          refine lv_icmp_le (tgt := 65) hx hb dX6_lost_58 (by decide) (fun c58 => ?_) (fun c58 => ?_)
          · have hE := (if_pos c58).symm.trans hE
            refine lv_aload_n hx hb dX6_lost_65 rfl (lv_at hl 1 rfl) ?_
            obtain ⟨q66, hq66, hE⟩ := x_bind hE
            refine i_X6_258 hB hz kdX_0 (c_X6_noteRestarts l g  hq66) ⟨(Nat.le_of_ble_eq_true rfl), (Nat.le_of_ble_eq_true rfl)⟩ hl.1 (Nat.le_of_ble_eq_true rfl) dX6_lost_66 (fun H locs hz => ?_)
            refine lv_aload_n hx hb dX6_lost_69 rfl (lv_at hl 1 rfl) ?_
            refine g_X6_29 hB hz kdX_0 dX6_lost_70 ?_
            refine lv_aload_n hx hb dX6_lost_73 rfl (lv_at hl 1 rfl) ?_
            refine g_X6_25 hB hz kdX_0 dX6_lost_74 ?_
            obtain ⟨q77, hq77, hE⟩ := x_bind hE
            refine i_X6_140 hB hz kdX_35 (c_X3_become l g kdX_35 kdX_4 hq77) ⟨(Nat.le_of_ble_eq_true rfl), (Nat.le_of_ble_eq_true rfl)⟩ hl.1 (Nat.le_of_ble_eq_true rfl) dX6_lost_77 (fun H locs hz => ?_)
            refine lv_lconst (v := (0 : Int64)) hx hb dX6_lost_80 (by decide) ?_
            refine lv_lstore (lv' := [(6, .long (0 : Int64)), (5, .int q50.1), (0, .ref (ad g 0)), (1, .int x1), (2, .int x2), (3, .int x3), (4, .int x4)]) hx hb dX6_lost_81 hl (by decide) rfl (fun ls hl => ?_)
            refine lv_iconst (v := (0 : Int32)) hx hb dX6_lost_83 (by decide) ?_
            refine lv_istore (lv' := [(8, .int (0 : Int32)), (6, .long (0 : Int64)), (5, .int q50.1), (0, .ref (ad g 0)), (1, .int x1), (2, .int x2), (3, .int x3), (4, .int x4)]) hx hb dX6_lost_84 hl (by decide) rfl (fun ls hl => ?_)
            exact w_X6_lost_86 hB  _ _ _ _ _ _ _ _ _ _ _ _  hE hz (lv_sub hl [3, 4, 5, 6, 7, 2, 1, 0] rfl)
          · have hE := (if_neg c58).symm.trans hE
            refine lv_ldc2 (v := (-1000003 : Int64)) hx hb hown (hT _ kw_614) dX6_lost_61 ?_
            exact x_lret hB hz hE dX6_lost_64
        · have hE := (if_pos c38).symm.trans hE
          exact w_X6_lost_41 hB   _ _ _ _  hE hz (lv_sub hl [] rfl)
theorem c_X6_lost (l : Launch) (g : GP) {x1 : Int32} {x2 : Int32} {x3 : Int32} {x4 : Int32} {V : Mem} {o : Int64 × Mem} (hE : f_X6_lost x1 x2 x3 x4 V = some o) : CT l g LX yX6_lost cX6_lost 12 (some .long) rm_X6_lost [.ref (ad g 0), .int x1, .int x2, .int x3, .int x4] V (some (.long o.1)) o.2 := by
  refine ct_of (by decide) (Nat.le_of_ble_eq_true rfl) ?_
  intro p e s m args below meth c ls hB hz hl
  exact w_X6_lost hB _ _ _ _ _ _ _ _  hE hz hl

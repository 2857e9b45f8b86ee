def rm_X7_isOther : Room := { frames := 4, cells := 0, slots := 0, locals := 94 }
set_option maxHeartbeats 4000000 in
set_option maxRecDepth 100000 in
theorem w_X7_isOther_47_c0_c6 {p : Program} {l : Launch} {e : Env} {s : State} {m : MethodId} {args : Array Value} {below : List Frame} {meth : Method} {c : Code} {g : GP} (hB : BX p s m args meth c g LM cX7_isOther 3 RX7 (some .boolean)) {o : Int32 × Mem} : ∀ (s2 : Int32) (V : Mem) (H : Heap) (locs : List Loc) (ls : Array Slot), f_X7_isOther_47_c0_c6 s2 V = some o → OK g LM V s H locs → lv_has ls 3 [(0, .ref (ad g 0))] → W p l e rm_X7_isOther s m args below meth c H locs 0 0 (MQ below (QQ g LM (some (.int o.1)) o.2) args s 0 0 (Ar g LM)) (F0 m 47 ls [.int s2, .ref (ad g 6), .ref (ad g 0)]) := by
  obtain ⟨hx, hb, hml, hown, hT, hr, hlk, hK, hJ, hZ, hN⟩ := id hB
  intro s2 V H locs ls hE hz hl
  unfold f_X7_isOther_47_c0_c6 at hE
  refine lv_iconst (v := (0 : Int32)) hx hb dX7_isOther_47 (by decide) ?_
  obtain ⟨q48, hq48, hE⟩ := x_bind hE
  refine i_X7_235 hB hz kdM_0 (c_X7_writeLabel l g kdM_6 hq48) ⟨(Nat.le_of_ble_eq_true rfl), (Nat.le_of_ble_eq_true rfl)⟩ hl.1 (Nat.le_of_ble_eq_true rfl) dX7_isOther_48 (fun H locs hz => ?_)
  refine lv_aload_n hx hb dX7_isOther_51 rfl (lv_at hl 0 rfl) ?_
  obtain ⟨q52, hq52, hE⟩ := x_bind hE
  refine i_X7_247 hB hz kdM_0 (c_X7_compared l g  hq52) ⟨(Nat.le_of_ble_eq_true rfl), (Nat.le_of_ble_eq_true rfl)⟩ hl.1 (Nat.le_of_ble_eq_true rfl) dX7_isOther_52 (fun H locs hz => ?_)
  refine lv_if_eq (tgt := 62) hx hb dX7_isOther_55 (by decide) (fun c55 => ?_) (fun c55 => ?_)
  · have hE := (if_pos c55).symm.trans hE
    refine lv_iconst (v := (0 : Int32)) hx hb dX7_isOther_62 (by decide) ?_
    exact x_zret hB hz hE (by decide) dX7_isOther_63
  · have hE := (if_neg c55).symm.trans hE
    refine lv_iconst (v := (1 : Int32)) hx hb dX7_isOther_58 (by decide) ?_
    refine lv_goto (tgt := 63) hx hb dX7_isOther_59 (by decide) ?_
    exact x_zret hB hz hE (by decide) dX7_isOther_63

set_option maxHeartbeats 4000000 in
set_option maxRecDepth 100000 in
theorem w_X7_isOther {p : Program} {l : Launch} {e : Env} {s : State} {m : MethodId} {args : Array Value} {below : List Frame} {meth : Method} {c : Code} {g : GP} (hB : BX p s m args meth c g LM cX7_isOther 3 RX7 (some .boolean)) {o : Int32 × Mem} : ∀ (x1 : Int32) (x2 : Int32) (V : Mem) (H : Heap) (locs : List Loc) (ls : Array Slot), f_X7_isOther x1 x2 V = some o → OK g LM V s H locs → lv_has ls 3 [(0, .ref (ad g 0)), (1, .int x1), (2, .int x2)] → W p l e rm_X7_isOther s m args below meth c H locs 0 0 (MQ below (QQ g LM (some (.int o.1)) o.2) args s 0 0 (Ar g LM)) (F0 m 0 ls []) := by
  obtain ⟨hx, hb, hml, hown, hT, hr, hlk, hK, hJ, hZ, hN⟩ := id hB
  intro x1 x2 V H locs ls hE hz hl
  unfold f_X7_isOther at hE
  refine lv_aload_n hx hb dX7_isOther_0 rfl (lv_at hl 0 rfl) ?_
  refine lv_aload_n hx hb dX7_isOther_1 rfl (lv_at hl 0 rfl) ?_
  refine g_X7_19 hB hz kdM_0 dX7_isOther_2 ?_
  obtain ⟨q5, hq5, hE⟩ := x_bind hE
  refine i_X7_231 hB hz kdM_0 (c_X7_countAll l g kdM_4 hq5) ⟨(Nat.le_of_ble_eq_true rfl), (Nat.le_of_ble_eq_true rfl)⟩ hl.1 (Nat.le_of_ble_eq_true rfl) dX7_isOther_5 (fun H locs hz => ?_)
  refine lv_aload_n hx hb dX7_isOther_8 rfl (lv_at hl 0 rfl) ?_
  refine lv_aload_n hx hb dX7_isOther_9 rfl (lv_at hl 0 rfl) ?_
  refine g_X7_19 hB hz kdM_0 dX7_isOther_10 ?_
  refine lv_iload_n hx hb dX7_isOther_13 rfl (lv_at hl 1 rfl) ?_
  refine lv_iconst (v := (0 : Int32)) hx hb dX7_isOther_14 (by decide) ?_
  obtain ⟨q15, hq15, hE⟩ := x_bind hE
  refine i_X7_235 hB hz kdM_0 (c_X7_writeLabel l g kdM_4 hq15) ⟨(Nat.le_of_ble_eq_true rfl), (Nat.le_of_ble_eq_true rfl)⟩ hl.1 (Nat.le_of_ble_eq_true rfl) dX7_isOther_15 (fun H locs hz => ?_)
  refine lv_aload_n hx hb dX7_isOther_18 rfl (lv_at hl 0 rfl) ?_
  obtain ⟨q19, hq19, hE⟩ := x_bind hE
  refine i_X7_244 hB hz kdM_0 (c_X7_holdLabel l g  hq19) ⟨(Nat.le_of_ble_eq_true rfl), (Nat.le_of_ble_eq_true rfl)⟩ hl.1 (Nat.le_of_ble_eq_true rfl) dX7_isOther_19 (fun H locs hz => ?_)
  refine lv_aload_n hx hb dX7_isOther_22 rfl (lv_at hl 0 rfl) ?_
  refine lv_aload_n hx hb dX7_isOther_23 rfl (lv_at hl 0 rfl) ?_
  refine g_X7_25 hB hz kdM_0 dX7_isOther_24 ?_
  obtain ⟨q27, hq27, hE⟩ := x_bind hE
  refine i_X7_231 hB hz kdM_0 (c_X7_countAll l g kdM_6 hq27) ⟨(Nat.le_of_ble_eq_true rfl), (Nat.le_of_ble_eq_true rfl)⟩ hl.1 (Nat.le_of_ble_eq_true rfl) dX7_isOther_27 (fun H locs hz => ?_)
  refine lv_aload_n hx hb dX7_isOther_30 rfl (lv_at hl 0 rfl) ?_
  refine lv_aload_n hx hb dX7_isOther_31 rfl (lv_at hl 0 rfl) ?_
  refine g_X7_25 hB hz kdM_0 dX7_isOther_32 ?_
  refine lv_iload_n hx hb dX7_isOther_35 rfl (lv_at hl 1 rfl) ?_
  refine lv_iload_n hx hb dX7_isOther_36 rfl (lv_at hl 2 rfl) ?_
  refine lv_icmp_ge (tgt := 44) hx hb dX7_isOther_37 (by decide) (fun c37 => ?_) (fun c37 => ?_)
  · have hE := (if_pos c37).symm.trans hE
    refine lv_iload_n hx hb dX7_isOther_44 rfl (lv_at hl 1 rfl) ?_
    refine lv_iconst (v := (1 : Int32)) hx hb dX7_isOther_45 (by decide) ?_
    refine lv_isub hx hb dX7_isOther_46 ?_
    exact w_X7_isOther_47_c0_c6 hB  _ _ _ _ _  hE hz (lv_sub hl [0] rfl)
  · have hE := (if_neg c37).symm.trans hE
    refine lv_iload_n hx hb dX7_isOther_40 rfl (lv_at hl 1 rfl) ?_
    refine lv_goto (tgt := 47) hx hb dX7_isOther_41 (by decide) ?_
    exact w_X7_isOther_47_c0_c6 hB  _ _ _ _ _  hE hz (lv_sub hl [0] rfl)
theorem c_X7_isOther (l : Launch) (g : GP) {x1 : Int32} {x2 : Int32} {V : Mem} {o : Int32 × Mem} (hE : f_X7_isOther x1 x2 V = some o) : CT l g LM yX7_isOther cX7_isOther 3 (some .boolean) rm_X7_isOther [.ref (ad g 0), .int x1, .int x2] V (some (.int o.1)) o.2 := by
  refine ct_of (by decide) (Nat.le_of_ble_eq_true rfl) ?_
  intro p e s m args below meth c ls hB hz hl
  exact w_X7_isOther hB _ _ _ _ _ _  hE hz hl
def rm_X7_changed : Room := { frames := 5, cells := 0, slots := 0, locals := 116 }
theorem i_X7_257 {p : Program} {l : Launch} {e : Env} {R : Room} {s : State} {m : MethodId} {args : Array Value} {below : List Frame} {meth : Method} {c : Code} {H : Heap} {locs : List Loc} {Q : State → Prop} {cc : ByteArray} {pc : Nat} {ls : Array Slot} {rest : List Value} {g : GP} {V : Mem} {nL : Nat} {ret : Option FieldType} (hB : BX p s m args meth c g LM cc nL RX7 ret) (hz : OK g LM V s H locs) {i : Nat} (hk : KD LM i 6) {V1 : Mem} (hM : CT l g LM yX7_layThen cX7_layThen 2 none rm_X7_layThen [.ref (ad g i)] V none V1) (hR : rm_X7_layThen.frames + 1 ≤ R.frames ∧ 8 + (2 + 11) + rm_X7_layThen.locals ≤ R.locals) (hsz : ls.size = nL) (hrest : (rest.map fun v => v.category).sum ≤ 8) (hdg : decode cc pc = .ok (.invokevirtual 257, 3)) (kk : ∀ (H1 : Heap) (locs1 : List Loc), OK g LM V1 s H1 locs1 → W p l e R s m args below meth c H1 locs1 0 0 Q (F0 m (pc + 3) ls (rest))) : W p l e R s m args below meth c H locs 0 0 Q (F0 m pc ls (.ref (ad g i) :: rest)) :=
  x_cv (As := []) (n := 0) (T := TX7) (N := 30) hB hz hM hk rfl rfl rfl rfl kw_1052 kw_68 kw_1049 kw_1051 kw_50 (by decide +kernel) rfl hR hsz hrest hdg kk
theorem i_X7_260 {p : Program} {l : Launch} {e : Env} {R : Room} {s : State} {m : MethodId} {args : Array Value} {below : List Frame} {meth : Method} {c : Code} {H : Heap} {locs : List Loc} {Q : State → Prop} {cc : ByteArray} {pc : Nat} {ls : Array Slot} {rest : List Value} {g : GP} {V : Mem} {nL : Nat} {ret : Option FieldType} (hB : BX p s m args meth c g LM cc nL RX7 ret) (hz : OK g LM V s H locs) {i : Nat} (hk : KD LM i 6) {a0 : Int32} {a1 : Int32} {r : Int32} {V1 : Mem} (hM : CT l g LM yX7_isOther cX7_isOther 3 (some .boolean) rm_X7_isOther [.ref (ad g i), .int a0, .int a1] V (some (.int r)) V1) (hR : rm_X7_isOther.frames + 1 ≤ R.frames ∧ 8 + (3 + 11) + rm_X7_isOther.locals ≤ R.locals) (hsz : ls.size = nL) (hrest : (rest.map fun v => v.category).sum ≤ 8) (hdg : decode cc pc = .ok (.invokevirtual 260, 3)) (kk : ∀ (H1 : Heap) (locs1 : List Loc), OK g LM V1 s H1 locs1 → W p l e R s m args below meth c H1 locs1 0 0 Q (F0 m (pc + 3) ls (.int r :: rest))) : W p l e R s m args below meth c H locs 0 0 Q (F0 m pc ls (.int a1 :: .int a0 :: .ref (ad g i) :: rest)) :=
  x_cv (As := [.int a0, .int a1]) (n := 2) (T := TX7) (N := 30) hB hz hM hk rfl rfl rfl rfl kw_1056 kw_68 kw_1053 kw_1055 kw_51 (by decide +kernel) rfl hR hsz hrest hdg kk
set_option maxHeartbeats 4000000 in
set_option maxRecDepth 100000 in
theorem w_X7_changed_75 {p : Program} {l : Launch} {e : Env} {s : State} {m : MethodId} {args : Array Value} {below : List Frame} {meth : Method} {c : Code} {g : GP} (hB : BX p s m args meth c g LM cX7_changed 4 RX7 (some .int)) {o : Int32 × Mem} {k45 : Int32 → Int32 → Int32 → Mem → Option (Int32 × Mem)} (hk45 : ∀ (x1 : Int32) (x2 : Int32) (x3 : Int32) (V : Mem) (H : Heap) (locs : List Loc) (ls : Array Slot), k45 x1 x2 x3 V = some o → OK g LM V s H locs → lv_has ls 4 [(0, .ref (ad g 0)), (1, .int x1), (2, .int x2), (3, .int x3)] → W p l e rm_X7_changed s m args below meth c H locs 0 0 (MQ below (QQ g LM (some (.int o.1)) o.2) args s 0 0 (Ar g LM)) (F0 m 45 ls [])) : ∀ (x1 : Int32) (x3 : Int32) (s0 : Int32) (s1 : Int32) (V : Mem) (H : Heap) (locs : List Loc) (ls : Array Slot), f_X7_changed_75 k45 x1 x3 s0 s1 V = some o → OK g LM V s H locs → lv_has ls 4 [(0, .ref (ad g 0)), (1, .int x1), (3, .int x3)] → W p l e rm_X7_changed s m args below meth c H locs 0 0 (MQ below (QQ g LM (some (.int o.1)) o.2) args s 0 0 (Ar g LM)) (F0 m 75 ls [.int s1, .int s0]) := by
  obtain ⟨hx, hb, hml, hown, hT, hr, hlk, hK, hJ, hZ, hN⟩ := id hB
  intro x1 x3 s0 s1 V H locs ls hE hz hl
  unfold f_X7_changed_75 at hE
  refine lv_iadd hx hb dX7_changed_75 ?_
  refine lv_istore_n (lv' := [(2, .int (s0 + s1)), (0, .ref (ad g 0)), (1, .int x1), (3, .int x3)]) hx hb dX7_changed_76 rfl hl (by decide) rfl (fun ls hl => ?_)
  refine lv_iinc (v := (x3 + 1)) (lv' := [(3, .int (x3 + 1)), (2, .int (s0 + s1)), (0, .ref (ad g 0)), (1, .int x1)]) hx hb dX7_changed_77 hl (k := 3) rfl rfl (by decide) rfl (fun ls hl => ?_)
  refine lv_goto (tgt := 45) hx hb dX7_changed_80 (by decide) ?_
  exact hk45 _ _ _ _ _ _ _  hE hz (lv_sub hl [2, 3, 1, 0] rfl)

set_option maxHeartbeats 4000000 in
set_option maxRecDepth 100000 in
theorem w_X7_changed_45 {p : Program} {l : Launch} {e : Env} {s : State} {m : MethodId} {args : Array Value} {below : List Frame} {meth : Method} {c : Code} {g : GP} (hB : BX p s m args meth c g LM cX7_changed 4 RX7 (some .int)) {o : Int32 × Mem} : ∀ (n : Nat), ∀ (x1 : Int32) (x2 : Int32) (x3 : Int32) (V : Mem) (H : Heap) (locs : List Loc) (ls : Array Slot), f_X7_changed_45 n x1 x2 x3 V = some o → OK g LM V s H locs → lv_has ls 4 [(0, .ref (ad g 0)), (1, .int x1), (2, .int x2), (3, .int x3)] → W p l e rm_X7_changed s m args below meth c H locs 0 0 (MQ below (QQ g LM (some (.int o.1)) o.2) args s 0 0 (Ar g LM)) (F0 m 45 ls []) := by
  obtain ⟨hx, hb, hml, hown, hT, hr, hlk, hK, hJ, hZ, hN⟩ := id hB
  intro n
  induction n with
  | zero =>
    intro x1 x2 x3 V H locs ls hE hz hl
    exact absurd (show (none : Option (Int32 × Mem)) = some o from hE) (by simp)
  | succ n ih =>
    intro x1 x2 x3 V H locs ls hE hz hl
    unfold f_X7_changed_45 at hE
    refine lv_iload_n hx hb dX7_changed_45 rfl (lv_at hl 3 rfl) ?_
    refine lv_aload_n hx hb dX7_changed_46 rfl (lv_at hl 0 rfl) ?_
    refine g_X7_19 hB hz kdM_0 dX7_changed_47 ?_
    refine lv_iconst (v := (0 : Int32)) hx hb dX7_changed_50 (by decide) ?_
    obtain ⟨hi51, hE⟩ := x_chk hE
    refine x_iald (n := 76) hB hz kdM_4 hi51 dX7_changed_51 ?_
    refine lv_icmp_ge (tgt := 83) hx hb dX7_changed_52 (by decide) (fun c52 => ?_) (fun c52 => ?_)
    · have hE := (if_pos c52).symm.trans hE
      refine lv_iload_n hx hb dX7_changed_83 rfl (lv_at hl 2 rfl) ?_
      exact x_iret hB hz hE dX7_changed_84
    · have hE := (if_neg c52).symm.trans hE
      refine lv_iload_n hx hb dX7_changed_55 rfl (lv_at hl 2 rfl) ?_
      refine lv_iload_n hx hb dX7_changed_56 rfl (lv_at hl 3 rfl) ?_
      refine lv_iload_n hx hb dX7_changed_57 rfl (lv_at hl 1 rfl) ?_
      refine lv_icmp_eq (tgt := 74) hx hb dX7_changed_58 (by decide) (fun c58 => ?_) (fun c58 => ?_)
      · have hE := (if_pos c58).symm.trans hE
        refine lv_iconst (v := (0 : Int32)) hx hb dX7_changed_74 (by decide) ?_
        exact w_X7_changed_75 hB ih _ _ _ _ _ _ _ _  hE hz (lv_sub hl [0, 1, 3] rfl)
      · have hE := (if_neg c58).symm.trans hE
        refine lv_aload_n hx hb dX7_changed_61 rfl (lv_at hl 0 rfl) ?_
        refine lv_iload_n hx hb dX7_changed_62 rfl (lv_at hl 3 rfl) ?_
        refine lv_iload_n hx hb dX7_changed_63 rfl (lv_at hl 1 rfl) ?_
        obtain ⟨q64, hq64, hE⟩ := x_bind hE
        refine i_X7_260 hB hz kdM_0 (c_X7_isOther l g  hq64) ⟨(Nat.le_of_ble_eq_true rfl), (Nat.le_of_ble_eq_true rfl)⟩ hl.1 (Nat.le_of_ble_eq_true rfl) dX7_changed_64 (fun H locs hz => ?_)
        refine lv_if_eq (tgt := 74) hx hb dX7_changed_67 (by decide) (fun c67 => ?_) (fun c67 => ?_)
        · have hE := (if_pos c67).symm.trans hE
          refine lv_iconst (v := (0 : Int32)) hx hb dX7_changed_74 (by decide) ?_
          exact w_X7_changed_75 hB ih _ _ _ _ _ _ _ _  hE hz (lv_sub hl [0, 1, 3] rfl)
        · have hE := (if_neg c67).symm.trans hE
          refine lv_iconst (v := (1 : Int32)) hx hb dX7_changed_70 (by decide) ?_
          refine lv_goto (tgt := 75) hx hb dX7_changed_71 (by decide) ?_
          exact w_X7_changed_75 hB ih _ _ _ _ _ _ _ _  hE hz (lv_sub hl [0, 1, 3] rfl)

set_option maxHeartbeats 4000000 in
set_option maxRecDepth 100000 in
theorem w_X7_changed {p : Program} {l : Launch} {e : Env} {s : State} {m : MethodId} {args : Array Value} {below : List Frame} {meth : Method} {c : Code} {g : GP} (hB : BX p s m args meth c g LM cX7_changed 4 RX7 (some .int)) {o : Int32 × Mem} : ∀ (x1 : Int32) (V : Mem) (H : Heap) (locs : List Loc) (ls : Array Slot), f_X7_changed x1 V = some o → OK g LM V s H locs → lv_has ls 4 [(0, .ref (ad g 0)), (1, .int x1)] → W p l e rm_X7_changed s m args below meth c H locs 0 0 (MQ below (QQ g LM (some (.int o.1)) o.2) args s 0 0 (Ar g LM)) (F0 m 0 ls []) := by
  obtain ⟨hx, hb, hml, hown, hT, hr, hlk, hK, hJ, hZ, hN⟩ := id hB
  intro x1 V H locs ls hE hz hl
  unfold f_X7_changed at hE
  refine lv_aload_n hx hb dX7_changed_0 rfl (lv_at hl 0 rfl) ?_
  refine lv_iconst (v := (0 : Int32)) hx hb dX7_changed_1 (by decide) ?_
  refine p_X7_59 hB hz kdM_0 dX7_changed_2 (fun H locs hz => ?_)
  refine lv_aload_n hx hb dX7_changed_5 rfl (lv_at hl 0 rfl) ?_
  refine lv_iload_n hx hb dX7_changed_6 rfl (lv_at hl 1 rfl) ?_
  obtain ⟨q7, hq7, hE⟩ := x_bind hE
  refine i_X7_222 hB hz kdM_0 (c_X7_isParagraph l g  hq7) ⟨(Nat.le_of_ble_eq_true rfl), (Nat.le_of_ble_eq_true rfl)⟩ hl.1 (Nat.le_of_ble_eq_true rfl) dX7_changed_7 (fun H locs hz => ?_)
  refine lv_if_ne (tgt := 16) hx hb dX7_changed_10 (by decide) (fun c10 => ?_) (fun c10 => ?_)
  · have hE := (if_neg c10).symm.trans hE
    refine lv_aload_n hx hb dX7_changed_16 rfl (lv_at hl 0 rfl) ?_
    refine g_X7_19 hB hz kdM_0 dX7_changed_17 ?_
    refine lv_iconst (v := (0 : Int32)) hx hb dX7_changed_20 (by decide) ?_
    obtain ⟨hi21, hE⟩ := x_chk hE
    refine x_iald (n := 76) hB hz kdM_4 hi21 dX7_changed_21 ?_
    refine lv_iconst (v := (1 : Int32)) hx hb dX7_changed_22 (by decide) ?_
    refine lv_icmp_ne (tgt := 29) hx hb dX7_changed_23 (by decide) (fun c23 => ?_) (fun c23 => ?_)
    · have hE := (if_neg c23).symm.trans hE
      refine lv_aload_n hx hb dX7_changed_29 rfl (lv_at hl 0 rfl) ?_
      obtain ⟨q30, hq30, hE⟩ := x_bind hE
      refine i_X7_257 hB hz kdM_0 (c_X7_layThen l g  hq30) ⟨(Nat.le_of_ble_eq_true rfl), (Nat.le_of_ble_eq_true rfl)⟩ hl.1 (Nat.le_of_ble_eq_true rfl) dX7_changed_30 (fun H locs hz => ?_)
      refine lv_aload_n hx hb dX7_changed_33 rfl (lv_at hl 0 rfl) ?_
      refine g_X7_25 hB hz kdM_0 dX7_changed_34 ?_
      refine lv_iload_n hx hb dX7_changed_37 rfl (lv_at hl 1 rfl) ?_
      obtain ⟨q38, hq38, hE⟩ := x_bind hE
      refine i_X7_201 hB hz (c_X7_takeOut l g kdM_6 hq38) ⟨(Nat.le_of_ble_eq_true rfl), (Nat.le_of_ble_eq_true rfl)⟩ hl.1 (Nat.le_of_ble_eq_true rfl) dX7_changed_38 (fun H locs hz => ?_)
      refine lv_iconst (v := (0 : Int32)) hx hb dX7_changed_41 (by decide) ?_
      refine lv_istore_n (lv' := [(2, .int (0 : Int32)), (0, .ref (ad g 0)), (1, .int x1)]) hx hb dX7_changed_42 rfl hl (by decide) rfl (fun ls hl => ?_)
      refine lv_iconst (v := (0 : Int32)) hx hb dX7_changed_43 (by decide) ?_
      refine lv_istore_n (lv' := [(3, .int (0 : Int32)), (2, .int (0 : Int32)), (0, .ref (ad g 0)), (1, .int x1)]) hx hb dX7_changed_44 rfl hl (by decide) rfl (fun ls hl => ?_)
      exact w_X7_changed_45 hB  _ _ _ _ _ _ _ _  hE hz (lv_sub hl [2, 3, 1, 0] rfl)
    · have hE := (if_pos c23).symm.trans hE
      refine lv_ldc (v := (-1000002 : Int32)) hx hb hown (hT _ kw_918) dX7_changed_26 ?_
      exact x_iret hB hz hE dX7_changed_28
  · have hE := (if_pos c10).symm.trans hE
    refine lv_ldc (v := (-1000001 : Int32)) hx hb hown (hT _ kw_826) dX7_changed_13 ?_
    exact x_iret hB hz hE dX7_changed_15
theorem c_X7_changed (l : Launch) (g : GP) {x1 : Int32} {V : Mem} {o : Int32 × Mem} (hE : f_X7_changed x1 V = some o) : CT l g LM yX7_changed cX7_changed 4 (some .int) rm_X7_changed [.ref (ad g 0), .int x1] V (some (.int o.1)) o.2 := by
  refine ct_of (by decide) (Nat.le_of_ble_eq_true rfl) ?_
  intro p e s m args below meth c ls hB hz hl
  exact w_X7_changed hB _ _ _ _ _  hE hz hl
def rm_X7_farOf : Room := { frames := 0, cells := 0, slots := 0, locals := 0 }
set_option maxHeartbeats 4000000 in
set_option maxRecDepth 100000 in
theorem w_X7_farOf {p : Program} {l : Launch} {e : Env} {s : State} {m : MethodId} {args : Array Value} {below : List Frame} {meth : Method} {c : Code} {g : GP} (hB : BX p s m args meth c g LM cX7_farOf 2 RX7 (some .int)) {o : Int32 × Mem} : ∀ (x0 : Int32) (x1 : Int32) (V : Mem) (H : Heap) (locs : List Loc) (ls : Array Slot), f_X7_farOf x0 x1 V = some o → OK g LM V s H locs → lv_has ls 2 [(0, .int x0), (1, .int x1)] → W p l e rm_X7_farOf s m args below meth c H locs 0 0 (MQ below (QQ g LM (some (.int o.1)) o.2) args s 0 0 (Ar g LM)) (F0 m 0 ls []) := by
  obtain ⟨hx, hb, hml, hown, hT, hr, hlk, hK, hJ, hZ, hN⟩ := id hB
  intro x0 x1 V H locs ls hE hz hl
  unfold f_X7_farOf at hE
  refine lv_iload_n hx hb dX7_farOf_0 rfl (lv_at hl 0 rfl) ?_
  refine lv_iload_n hx hb dX7_farOf_1 rfl (lv_at hl 1 rfl) ?_
  refine lv_icmp_ge (tgt := 11) hx hb dX7_farOf_2 (by decide) (fun c2 => ?_) (fun c2 => ?_)
  · have hE := (if_pos c2).symm.trans hE
    refine lv_iload_n hx hb dX7_farOf_11 rfl (lv_at hl 0 rfl) ?_
    refine lv_iload_n hx hb dX7_farOf_12 rfl (lv_at hl 1 rfl) ?_
    refine lv_isub hx hb dX7_farOf_13 ?_
    exact x_iret hB hz hE dX7_farOf_14
  · have hE := (if_neg c2).symm.trans hE
    refine lv_iload_n hx hb dX7_farOf_5 rfl (lv_at hl 1 rfl) ?_
    refine lv_iload_n hx hb dX7_farOf_6 rfl (lv_at hl 0 rfl) ?_
    refine lv_isub hx hb dX7_farOf_7 ?_
    refine lv_goto (tgt := 14) hx hb dX7_farOf_8 (by decide) ?_
    exact x_iret hB hz hE dX7_farOf_14
theorem c_X7_farOf (l : Launch) (g : GP) {x0 : Int32} {x1 : Int32} {V : Mem} {o : Int32 × Mem} (hE : f_X7_farOf x0 x1 V = some o) : CT l g LM yX7_farOf cX7_farOf 2 (some .int) rm_X7_farOf [.int x0, .int x1] V (some (.int o.1)) o.2 := by
  refine ct_of (by decide) (Nat.le_of_ble_eq_true rfl) ?_
  intro p e s m args below meth c ls hB hz hl
  exact w_X7_farOf hB _ _ _ _ _ _  hE hz hl
def rm_X7_nearest : Room := { frames := 3, cells := 0, slots := 0, locals := 74 }
theorem i_X7_269 {p : Program} {l : Launch} {e : Env} {R : Room} {s : State} {m : MethodId} {args : Array Value} {below : List Frame} {meth : Method} {c : Code} {H : Heap} {locs : List Loc} {Q : State → Prop} {cc : ByteArray} {pc : Nat} {ls : Array Slot} {rest : List Value} {g : GP} {V : Mem} {nL : Nat} {ret : Option FieldType} (hB : BX p s m args meth c g LM cc nL RX7 ret) (hz : OK g LM V s H locs) {i : Nat} (hk : KD LM i 6) {a0 : Nat} {a1 : Int32} {r : Int32} {V1 : Mem} (hM : CT l g LM yX7_ownOf cX7_ownOf 3 (some .int) rm_X7_ownOf [.ref (ad g i), .ref (ad g a0), .int a1] V (some (.int r)) V1) (hR : rm_X7_ownOf.frames + 1 ≤ R.frames ∧ 8 + (3 + 11) + rm_X7_ownOf.locals ≤ R.locals) (hsz : ls.size = nL) (hrest : (rest.map fun v => v.category).sum ≤ 8) (hdg : decode cc pc = .ok (.invokevirtual 269, 3)) (kk : ∀ (H1 : Heap) (locs1 : List Loc), OK g LM V1 s H1 locs1 → W p l e R s m args below meth c H1 locs1 0 0 Q (F0 m (pc + 3) ls (.int r :: rest))) : W p l e R s m args below meth c H locs 0 0 Q (F0 m pc ls (.int a1 :: .ref (ad g a0) :: .ref (ad g i) :: rest)) :=
  x_cv (As := [.ref (ad g a0), .int a1]) (n := 2) (T := TX7) (N := 30) hB hz hM hk rfl rfl rfl rfl kw_1068 kw_68 kw_1065 kw_1067 kw_52 (by decide +kernel) rfl hR hsz hrest hdg kk
theorem i_X7_266 {p : Program} {l : Launch} {e : Env} {R : Room} {s : State} {m : MethodId} {args : Array Value} {below : List Frame} {meth : Method} {c : Code} {H : Heap} {locs : List Loc} {Q : State → Prop} {cc : ByteArray} {pc : Nat} {ls : Array Slot} {rest : List Value} {g : GP} {V : Mem} {nL : Nat} {ret : Option FieldType} (hB : BX p s m args meth c g LM cc nL RX7 ret) (hz : OK g LM V s H locs) {a0 : Int32} {a1 : Int32} {r : Int32} {V1 : Mem} (hM : CT l g LM yX7_farOf cX7_farOf 2 (some .int) rm_X7_farOf [.int a0, .int a1] V (some (.int r)) V1) (hR : rm_X7_farOf.frames + 1 ≤ R.frames ∧ 8 + (2 + 11) + rm_X7_farOf.locals ≤ R.locals) (hsz : ls.size = nL) (hrest : (rest.map fun v => v.category).sum ≤ 8) (hdg : decode cc pc = .ok (.invokestatic 266, 3)) (kk : ∀ (H1 : Heap) (locs1 : List Loc), OK g LM V1 s H1 locs1 → W p l e R s m args below meth c H1 locs1 0 0 Q (F0 m (pc + 3) ls (.int r :: rest))) : W p l e R s m args below meth c H locs 0 0 Q (F0 m pc ls (.int a1 :: .int a0 :: rest)) :=
  x_cs (As := [.int a0, .int a1]) (n := 2) hB hz hM rfl rfl kw_1064 kw_68 kw_1062 kw_1063 (by decide +kernel) rfl hR hsz hrest hdg kk
set_option maxHeartbeats 4000000 in
set_option maxRecDepth 100000 in
theorem w_X7_nearest_130 {p : Program} {l : Launch} {e : Env} {s : State} {m : MethodId} {args : Array Value} {below : List Frame} {meth : Method} {c : Code} {g : GP} (hB : BX p s m args meth c g LM cX7_nearest 6 RX7 (some .int)) {o : Int32 × Mem} {k34 : Int32 → Int32 → Int32 → Int32 → Mem → Option (Int32 × Mem)} (hk34 : ∀ (x1 : Int32) (x2 : Int32) (x3 : Int32) (x4 : Int32) (V : Mem) (H : Heap) (locs : List Loc) (ls : Array Slot), k34 x1 x2 x3 x4 V = some o → OK g LM V s H locs → lv_has ls 6 [(0, .ref (ad g 0)), (1, .int x1), (2, .int x2), (3, .int x3), (4, .int x4)] → W p l e rm_X7_nearest s m args below meth c H locs 0 0 (MQ below (QQ g LM (some (.int o.1)) o.2) args s 0 0 (Ar g LM)) (F0 m 34 ls [])) : ∀ (x1 : Int32) (x2 : Int32) (x4 : Int32) (s0 : Int32) (V : Mem) (H : Heap) (locs : List Loc) (ls : Array Slot), f_X7_nearest_130 k34 x1 x2 x4 s0 V = some o → OK g LM V s H locs → lv_has ls 6 [(0, .ref (ad g 0)), (1, .int x1), (2, .int x2), (4, .int x4)] → W p l e rm_X7_nearest s m args below meth c H locs 0 0 (MQ below (QQ g LM (some (.int o.1)) o.2) args s 0 0 (Ar g LM)) (F0 m 130 ls [.int s0]) := by
  obtain ⟨hx, hb, hml, hown, hT, hr, hlk, hK, hJ, hZ, hN⟩ := id hB
  intro x1 x2 x4 s0 V H locs ls hE hz hl
  unfold f_X7_nearest_130 at hE
  refine lv_istore_n (lv' := [(3, .int s0), (0, .ref (ad g 0)), (1, .int x1), (2, .int x2), (4, .int x4)]) hx hb dX7_nearest_130 rfl hl (by decide) rfl (fun ls hl => ?_)
  refine lv_iinc (v := (x4 + 1)) (lv' := [(4, .int (x4 + 1)), (3, .int s0), (0, .ref (ad g 0)), (1, .int x1), (2, .int x2)]) hx hb dX7_nearest_131 hl (k := 4) rfl rfl (by decide) rfl (fun ls hl => ?_)
  refine lv_goto (tgt := 34) hx hb dX7_nearest_134 (by decide) ?_
  exact hk34 _ _ _ _ _ _ _ _  hE hz (lv_sub hl [2, 3, 4, 1, 0] rfl)

set_option maxHeartbeats 4000000 in
set_option maxRecDepth 100000 in
theorem w_X7_nearest_103 {p : Program} {l : Launch} {e : Env} {s : State} {m : MethodId} {args : Array Value} {below : List Frame} {meth : Method} {c : Code} {g : GP} (hB : BX p s m args meth c g LM cX7_nearest 6 RX7 (some .int)) {o : Int32 × Mem} {k34 : Int32 → Int32 → Int32 → Int32 → Mem → Option (Int32 × Mem)} (hk34 : ∀ (x1 : Int32) (x2 : Int32) (x3 : Int32) (x4 : Int32) (V : Mem) (H : Heap) (locs : List Loc) (ls : Array Slot), k34 x1 x2 x3 x4 V = some o → OK g LM V s H locs → lv_has ls 6 [(0, .ref (ad g 0)), (1, .int x1), (2, .int x2), (3, .int x3), (4, .int x4)] → W p l e rm_X7_nearest s m args below meth c H locs 0 0 (MQ below (QQ g LM (some (.int o.1)) o.2) args s 0 0 (Ar g LM)) (F0 m 34 ls [])) : ∀ (x1 : Int32) (x2 : Int32) (x3 : Int32) (x4 : Int32) (s0 : Int32) (V : Mem) (H : Heap) (locs : List Loc) (ls : Array Slot), f_X7_nearest_103 k34 x1 x2 x3 x4 s0 V = some o → OK g LM V s H locs → lv_has ls 6 [(0, .ref (ad g 0)), (1, .int x1), (2, .int x2), (3, .int x3), (4, .int x4)] → W p l e rm_X7_nearest s m args below meth c H locs 0 0 (MQ below (QQ g LM (some (.int o.1)) o.2) args s 0 0 (Ar g LM)) (F0 m 103 ls [.int s0]) := by
  obtain ⟨hx, hb, hml, hown, hT, hr, hlk, hK, hJ, hZ, hN⟩ := id hB
  intro x1 x2 x3 x4 s0 V H locs ls hE hz hl
  unfold f_X7_nearest_103 at hE
  refine lv_istore (lv' := [(5, .int s0), (0, .ref (ad g 0)), (1, .int x1), (2, .int x2), (3, .int x3), (4, .int x4)]) hx hb dX7_nearest_103 hl (by decide) rfl (fun ls hl => ?_)
  refine lv_aload_n hx hb dX7_nearest_105 rfl (lv_at hl 1 rfl) ?_
  refine lv_aload_n hx hb dX7_nearest_106 rfl (lv_at hl 1 rfl) ?_
  refine g_X7_25 hB hz kdM_0 dX7_nearest_107 ?_
  refine lv_iload hx hb dX7_nearest_110 (lv_at hl 5 rfl) ?_
  obtain ⟨q112, hq112, hE⟩ := x_bind hE
  refine i_X7_269 hB hz kdM_0 (c_X7_ownOf l g kdM_6 hq112) ⟨(Nat.le_of_ble_eq_true rfl), (Nat.le_of_ble_eq_true rfl)⟩ hl.1 (Nat.le_of_ble_eq_true rfl) dX7_nearest_112 (fun H locs hz => ?_)
  refine lv_iload_n hx hb dX7_nearest_115 rfl (lv_at hl 3 rfl) ?_
  refine lv_icmp_ne (tgt := 129) hx hb dX7_nearest_116 (by decide) (fun c116 => ?_) (fun c116 => ?_)
  · have hE := (if_neg c116).symm.trans hE
    refine lv_iload_n hx hb dX7_nearest_129 rfl (lv_at hl 4 rfl) ?_
    exact w_X7_nearest_130 hB hk34 _ _ _ _ _ _ _ _  hE hz (lv_sub hl [1, 2, 3, 5] rfl)
  · have hE := (if_pos c116).symm.trans hE
    refine lv_iload hx hb dX7_nearest_119 (lv_at hl 0 rfl) ?_
    refine lv_if_eq (tgt := 129) hx hb dX7_nearest_121 (by decide) (fun c121 => ?_) (fun c121 => ?_)
    · have hE := (if_pos c121).symm.trans hE
      refine lv_iload_n hx hb dX7_nearest_129 rfl (lv_at hl 4 rfl) ?_
      exact w_X7_nearest_130 hB hk34 _ _ _ _ _ _ _ _  hE hz (lv_sub hl [1, 2, 3, 5] rfl)
    · have hE := (if_neg c121).symm.trans hE
      refine lv_iload hx hb dX7_nearest_124 (lv_at hl 5 rfl) ?_
      refine lv_goto (tgt := 130) hx hb dX7_nearest_126 (by decide) ?_
      exact w_X7_nearest_130 hB hk34 _ _ _ _ _ _ _ _  hE hz (lv_sub hl [1, 2, 3, 5] rfl)

set_option maxHeartbeats 4000000 in
set_option maxRecDepth 100000 in
theorem w_X7_nearest_34 {p : Program} {l : Launch} {e : Env} {s : State} {m : MethodId} {args : Array Value} {below : List Frame} {meth : Method} {c : Code} {g : GP} (hB : BX p s m args meth c g LM cX7_nearest 6 RX7 (some .int)) {o : Int32 × Mem} : ∀ (n : Nat), ∀ (x1 : Int32) (x2 : Int32) (x3 : Int32) (x4 : Int32) (V : Mem) (H : Heap) (locs : List Loc) (ls : Array Slot), f_X7_nearest_34 n x1 x2 x3 x4 V = some o → OK g LM V s H locs → lv_has ls 6 [(0, .ref (ad g 0)), (1, .int x1), (2, .int x2), (3, .int x3), (4, .int x4)] → W p l e rm_X7_nearest s m args below meth c H locs 0 0 (MQ below (QQ g LM (some (.int o.1)) o.2) args s 0 0 (Ar g LM)) (F0 m 34 ls []) := by
  obtain ⟨hx, hb, hml, hown, hT, hr, hlk, hK, hJ, hZ, hN⟩ := id hB
  intro n
  induction n with
  | zero =>
    intro x1 x2 x3 x4 V H locs ls hE hz hl
    exact absurd (show (none : Option (Int32 × Mem)) = some o from hE) (by simp)
  | succ n ih =>
    intro x1 x2 x3 x4 V H locs ls hE hz hl
    unfold f_X7_nearest_34 at hE
    refine lv_iload hx hb dX7_nearest_34 (lv_at hl 4 rfl) ?_
    refine lv_aload_n hx hb dX7_nearest_36 rfl (lv_at hl 0 rfl) ?_
    refine g_X7_19 hB hz kdM_0 dX7_nearest_37 ?_
    refine lv_iconst (v := (0 : Int32)) hx hb dX7_nearest_40 (by decide) ?_
    obtain ⟨hi41, hE⟩ := x_chk hE
    refine x_iald (n := 76) hB hz kdM_4 hi41 dX7_nearest_41 ?_
    refine lv_icmp_ge (tgt := 137) hx hb dX7_nearest_42 (by decide) (fun c42 => ?_) (fun c42 => ?_)
    · have hE := (if_pos c42).symm.trans hE
      refine lv_iload_n hx hb dX7_nearest_137 rfl (lv_at hl 3 rfl) ?_
      exact x_iret hB hz hE dX7_nearest_138
    · have hE := (if_neg c42).symm.trans hE
      refine lv_aload_n hx hb dX7_nearest_45 rfl (lv_at hl 0 rfl) ?_
      refine g_X7_19 hB hz kdM_0 dX7_nearest_46 ?_
      refine lv_iload_n hx hb dX7_nearest_49 rfl (lv_at hl 1 rfl) ?_
      obtain ⟨q50, hq50, hE⟩ := x_bind hE
      refine i_X7_194 hB hz (c_X7_isLabelled l g kdM_4 hq50) ⟨(Nat.le_of_ble_eq_true rfl), (Nat.le_of_ble_eq_true rfl)⟩ hl.1 (Nat.le_of_ble_eq_true rfl) dX7_nearest_50 (fun H locs hz => ?_)
      refine lv_if_eq (tgt := 137) hx hb dX7_nearest_53 (by decide) (fun c53 => ?_) (fun c53 => ?_)
      · have hE := (if_pos c53).symm.trans hE
        refine lv_iload_n hx hb dX7_nearest_137 rfl (lv_at hl 3 rfl) ?_
        exact x_iret hB hz hE dX7_nearest_138
      · have hE := (if_neg c53).symm.trans hE
        refine lv_aload_n hx hb dX7_nearest_56 rfl (lv_at hl 0 rfl) ?_
        obtain ⟨q57, hq57, hE⟩ := x_bind hE
        refine i_X7_257 hB hz kdM_0 (c_X7_layThen l g  hq57) ⟨(Nat.le_of_ble_eq_true rfl), (Nat.le_of_ble_eq_true rfl)⟩ hl.1 (Nat.le_of_ble_eq_true rfl) dX7_nearest_57 (fun H locs hz => ?_)
        refine lv_aload_n hx hb dX7_nearest_60 rfl (lv_at hl 0 rfl) ?_
        refine g_X7_25 hB hz kdM_0 dX7_nearest_61 ?_
        refine lv_iload_n hx hb dX7_nearest_64 rfl (lv_at hl 1 rfl) ?_
        refine lv_iload hx hb dX7_nearest_65 (lv_at hl 4 rfl) ?_
        obtain ⟨q67, hq67, hE⟩ := x_bind hE
        refine i_X7_225 hB hz (c_X7_moveTo l g kdM_6 hq67) ⟨(Nat.le_of_ble_eq_true rfl), (Nat.le_of_ble_eq_true rfl)⟩ hl.1 (Nat.le_of_ble_eq_true rfl) dX7_nearest_67 (fun H locs hz => ?_)
        refine lv_aload_n hx hb dX7_nearest_70 rfl (lv_at hl 0 rfl) ?_
        refine lv_aload_n hx hb dX7_nearest_71 rfl (lv_at hl 0 rfl) ?_
        refine g_X7_25 hB hz kdM_0 dX7_nearest_72 ?_
        obtain ⟨q75, hq75, hE⟩ := x_bind hE
        refine i_X7_231 hB hz kdM_0 (c_X7_countAll l g kdM_6 hq75) ⟨(Nat.le_of_ble_eq_true rfl), (Nat.le_of_ble_eq_true rfl)⟩ hl.1 (Nat.le_of_ble_eq_true rfl) dX7_nearest_75 (fun H locs hz => ?_)
        refine lv_iload_n hx hb dX7_nearest_78 rfl (lv_at hl 3 rfl) ?_
        refine lv_ldc (v := (-1000000 : Int32)) hx hb hown (hT _ kw_866) dX7_nearest_79 ?_
        refine lv_icmp_eq (tgt := 98) hx hb dX7_nearest_81 (by decide) (fun c81 => ?_) (fun c81 => ?_)
        · have hE := (if_pos c81).symm.trans hE
          refine lv_iconst (v := (1 : Int32)) hx hb dX7_nearest_98 (by decide) ?_
          refine lv_goto (tgt := 103) hx hb dX7_nearest_99 (by decide) ?_
          exact w_X7_nearest_103 hB ih _ _ _ _ _ _ _ _ _  hE hz (lv_sub hl [0, 1, 2, 3, 4] rfl)
        · have hE := (if_neg c81).symm.trans hE
          refine lv_iload hx hb dX7_nearest_84 (lv_at hl 4 rfl) ?_
          refine lv_iload_n hx hb dX7_nearest_86 rfl (lv_at hl 1 rfl) ?_
          obtain ⟨q87, hq87, hE⟩ := x_bind hE
          refine i_X7_266 hB hz (c_X7_farOf l g  hq87) ⟨(Nat.le_of_ble_eq_true rfl), (Nat.le_of_ble_eq_true rfl)⟩ hl.1 (Nat.le_of_ble_eq_true rfl) dX7_nearest_87 (fun H locs hz => ?_)
          refine lv_iload_n hx hb dX7_nearest_90 rfl (lv_at hl 3 rfl) ?_
          refine lv_iload_n hx hb dX7_nearest_91 rfl (lv_at hl 1 rfl) ?_
          obtain ⟨q92, hq92, hE⟩ := x_bind hE
          refine i_X7_266 hB hz (c_X7_farOf l g  hq92) ⟨(Nat.le_of_ble_eq_true rfl), (Nat.le_of_ble_eq_true rfl)⟩ hl.1 (Nat.le_of_ble_eq_true rfl) dX7_nearest_92 (fun H locs hz => ?_)
          refine lv_icmp_ge (tgt := 102) hx hb dX7_nearest_95 (by decide) (fun c95 => ?_) (fun c95 => ?_)
          · have hE := (if_pos c95).symm.trans hE
            refine lv_iconst (v := (0 : Int32)) hx hb dX7_nearest_102 (by decide) ?_
            exact w_X7_nearest_103 hB ih _ _ _ _ _ _ _ _ _  hE hz (lv_sub hl [0, 1, 2, 3, 4] rfl)
          · have hE := (if_neg c95).symm.trans hE
            refine lv_iconst (v := (1 : Int32)) hx hb dX7_nearest_98 (by decide) ?_
            refine lv_goto (tgt := 103) hx hb dX7_nearest_99 (by decide) ?_
            exact w_X7_nearest_103 hB ih _ _ _ _ _ _ _ _ _  hE hz (lv_sub hl [0, 1, 2, 3, 4] rfl)

set_option maxHeartbeats 4000000 in
set_option maxRecDepth 100000 in
theorem w_X7_nearest {p : Program} {l : Launch} {e : Env} {s : State} {m : MethodId} {args : Array Value} {below : List Frame} {meth : Method} {c : Code} {g : GP} (hB : BX p s m args meth c g LM cX7_nearest 6 RX7 (some .int)) {o : Int32 × Mem} : ∀ (x1 : Int32) (x2 : Int32) (V : Mem) (H : Heap) (locs : List Loc) (ls : Array Slot), f_X7_nearest x1 x2 V = some o → OK g LM V s H locs → lv_has ls 6 [(0, .ref (ad g 0)), (1, .int x1), (2, .int x2)] → W p l e rm_X7_nearest s m args below meth c H locs 0 0 (MQ below (QQ g LM (some (.int o.1)) o.2) args s 0 0 (Ar g LM)) (F0 m 0 ls []) := by
  obtain ⟨hx, hb, hml, hown, hT, hr, hlk, hK, hJ, hZ, hN⟩ := id hB
  intro x1 x2 V H locs ls hE hz hl
  unfold f_X7_nearest at hE
  refine lv_aload_n hx hb dX7_nearest_0 rfl (lv_at hl 0 rfl) ?_
  refine lv_iconst (v := (0 : Int32)) hx hb dX7_nearest_1 (by decide) ?_
  refine p_X7_59 hB hz kdM_0 dX7_nearest_2 (fun H locs hz => ?_)
  refine lv_aload_n hx hb dX7_nearest_5 rfl (lv_at hl 0 rfl) ?_
  refine lv_iload_n hx hb dX7_nearest_6 rfl (lv_at hl 1 rfl) ?_
  obtain ⟨q7, hq7, hE⟩ := x_bind hE
  refine i_X7_222 hB hz kdM_0 (c_X7_isParagraph l g  hq7) ⟨(Nat.le_of_ble_eq_true rfl), (Nat.le_of_ble_eq_true rfl)⟩ hl.1 (Nat.le_of_ble_eq_true rfl) dX7_nearest_7 (fun H locs hz => ?_)
  refine lv_if_eq (tgt := 25) hx hb dX7_nearest_10 (by decide) (fun c10 => ?_) (fun c10 => ?_)
  · have hE := (if_pos c10).symm.trans hE
    refine lv_ldc (v := (-1000001 : Int32)) hx hb hown (hT _ kw_826) dX7_nearest_25 ?_
    exact x_iret hB hz hE dX7_nearest_27
  · have hE := (if_neg c10).symm.trans hE
    refine lv_iload_n hx hb dX7_nearest_13 rfl (lv_at hl 2 rfl) ?_
    refine lv_i2l hx hb dX7_nearest_14 rfl ?_
    refine lv_lconst (v := (0 : Int64)) hx hb dX7_nearest_15 (by decide) ?_
    refine lv_ldc2 (v := (99 : Int64)) hx hb hown (hT _ kw_1061) dX7_nearest_16 ?_
    obtain ⟨q19, hq19, hE⟩ := x_bind hE
    refine i_X7_69 hB hz (c_X7_in l g  hq19) ⟨(Nat.le_of_ble_eq_true rfl), (Nat.le_of_ble_eq_true rfl)⟩ hl.1 (Nat.le_of_ble_eq_true rfl) dX7_nearest_19 (fun H locs hz => ?_)
    refine lv_if_ne (tgt := 28) hx hb dX7_nearest_22 (by decide) (fun c22 => ?_) (fun c22 => ?_)
    · have hE := (if_neg c22).symm.trans hE
      refine lv_ldc (v := (-1000000 : Int32)) hx hb hown (hT _ kw_866) dX7_nearest_28 ?_
      refine lv_istore_n (lv' := [(3, .int (-1000000 : Int32)), (0, .ref (ad g 0)), (1, .int x1), (2, .int x2)]) hx hb dX7_nearest_30 rfl hl (by decide) rfl (fun ls hl => ?_)
      refine lv_iconst (v := (0 : Int32)) hx hb dX7_nearest_31 (by decide) ?_
      refine lv_istore (lv' := [(4, .int (0 : Int32)), (3, .int (-1000000 : Int32)), (0, .ref (ad g 0)), (1, .int x1), (2, .int x2)]) hx hb dX7_nearest_32 hl (by decide) rfl (fun ls hl => ?_)
      exact w_X7_nearest_34 hB  _ _ _ _ _ _ _ _ _  hE hz (lv_sub hl [2, 3, 4, 1, 0] rfl)
    · have hE := (if_pos c22).symm.trans hE
      refine lv_ldc (v := (-1000001 : Int32)) hx hb hown (hT _ kw_826) dX7_nearest_25 ?_
      exact x_iret hB hz hE dX7_nearest_27
theorem c_X7_nearest (l : Launch) (g : GP) {x1 : Int32} {x2 : Int32} {V : Mem} {o : Int32 × Mem} (hE : f_X7_nearest x1 x2 V = some o) : CT l g LM yX7_nearest cX7_nearest 6 (some .int) rm_X7_nearest [.ref (ad g 0), .int x1, .int x2] V (some (.int o.1)) o.2 := by
  refine ct_of (by decide) (Nat.le_of_ble_eq_true rfl) ?_
  intro p e s m args below meth c ls hB hz hl
  exact w_X7_nearest hB _ _ _ _ _ _  hE hz hl
def rm_X7_sets : Room := { frames := 3, cells := 0, slots := 0, locals := 71 }
set_option maxHeartbeats 4000000 in
set_option maxRecDepth 100000 in
theorem w_X7_sets_84 {p : Program} {l : Launch} {e : Env} {s : State} {m : MethodId} {args : Array Value} {below : List Frame} {meth : Method} {c : Code} {g : GP} (hB : BX p s m args meth c g LM cX7_sets 4 RX7 (some .int)) {o : Int32 × Mem} {k42 : Int32 → Int32 → Int32 → Mem → Option (Int32 × Mem)} (hk42 : ∀ (x1 : Int32) (x2 : Int32) (x3 : Int32) (V : Mem) (H : Heap) (locs : List Loc) (ls : Array Slot), k42 x1 x2 x3 V = some o → OK g LM V s H locs → lv_has ls 4 [(0, .ref (ad g 0)), (1, .int x1), (2, .int x2), (3, .int x3)] → W p l e rm_X7_sets s m args below meth c H locs 0 0 (MQ below (QQ g LM (some (.int o.1)) o.2) args s 0 0 (Ar g LM)) (F0 m 42 ls [])) : ∀ (x1 : Int32) (x3 : Int32) (s0 : Int32) (s1 : Int32) (V : Mem) (H : Heap) (locs : List Loc) (ls : Array Slot), f_X7_sets_84 k42 x1 x3 s0 s1 V = some o → OK g LM V s H locs → lv_has ls 4 [(0, .ref (ad g 0)), (1, .int x1), (3, .int x3)] → W p l e rm_X7_sets s m args below meth c H locs 0 0 (MQ below (QQ g LM (some (.int o.1)) o.2) args s 0 0 (Ar g LM)) (F0 m 84 ls [.int s1, .int s0]) := by
  obtain ⟨hx, hb, hml, hown, hT, hr, hlk, hK, hJ, hZ, hN⟩ := id hB
  intro x1 x3 s0 s1 V H locs ls hE hz hl
  unfold f_X7_sets_84 at hE
  refine lv_ior hx hb dX7_sets_84 ?_
  refine lv_istore_n (lv' := [(2, .int (s0 ||| s1)), (0, .ref (ad g 0)), (1, .int x1), (3, .int x3)]) hx hb dX7_sets_85 rfl hl (by decide) rfl (fun ls hl => ?_)
  refine lv_iinc (v := (x3 + 1)) (lv' := [(3, .int (x3 + 1)), (2, .int (s0 ||| s1)), (0, .ref (ad g 0)), (1, .int x1)]) hx hb dX7_sets_86 hl (k := 3) rfl rfl (by decide) rfl (fun ls hl => ?_)
  refine lv_goto (tgt := 42) hx hb dX7_sets_89 (by decide) ?_
  exact hk42 _ _ _ _ _ _ _  hE hz (lv_sub hl [2, 3, 1, 0] rfl)

set_option maxHeartbeats 4000000 in
set_option maxRecDepth 100000 in
theorem w_X7_sets_42 {p : Program} {l : Launch} {e : Env} {s : State} {m : MethodId} {args : Array Value} {below : List Frame} {meth : Method} {c : Code} {g : GP} (hB : BX p s m args meth c g LM cX7_sets 4 RX7 (some .int)) {o : Int32 × Mem} : ∀ (n : Nat), ∀ (x1 : Int32) (x2 : Int32) (x3 : Int32) (V : Mem) (H : Heap) (locs : List Loc) (ls : Array Slot), f_X7_sets_42 n x1 x2 x3 V = some o → OK g LM V s H locs → lv_has ls 4 [(0, .ref (ad g 0)), (1, .int x1), (2, .int x2), (3, .int x3)] → W p l e rm_X7_sets s m args below meth c H locs 0 0 (MQ below (QQ g LM (some (.int o.1)) o.2) args s 0 0 (Ar g LM)) (F0 m 42 ls []) := by
  obtain ⟨hx, hb, hml, hown, hT, hr, hlk, hK, hJ, hZ, hN⟩ := id hB
  intro n
  induction n with
  | zero =>
    intro x1 x2 x3 V H locs ls hE hz hl
    exact absurd (show (none : Option (Int32 × Mem)) = some o from hE) (by simp)
  | succ n ih =>
    intro x1 x2 x3 V H locs ls hE hz hl
    unfold f_X7_sets_42 at hE
    refine lv_iload_n hx hb dX7_sets_42 rfl (lv_at hl 3 rfl) ?_
    refine lv_aload_n hx hb dX7_sets_43 rfl (lv_at hl 0 rfl) ?_
    refine g_X7_19 hB hz kdM_0 dX7_sets_44 ?_
    refine lv_iconst (v := (0 : Int32)) hx hb dX7_sets_47 (by decide) ?_
    obtain ⟨hi48, hE⟩ := x_chk hE
    refine x_iald (n := 76) hB hz kdM_4 hi48 dX7_sets_48 ?_
    refine lv_icmp_ge (tgt := 92) hx hb dX7_sets_49 (by decide) (fun c49 => ?_) (fun c49 => ?_)
    · have hE := (if_pos c49).symm.trans hE
      refine lv_iload_n hx hb dX7_sets_92 rfl (lv_at hl 2 rfl) ?_
      exact x_iret hB hz hE dX7_sets_93
    · have hE := (if_neg c49).symm.trans hE
      refine lv_iload_n hx hb dX7_sets_52 rfl (lv_at hl 2 rfl) ?_
      refine lv_aload_n hx hb dX7_sets_53 rfl (lv_at hl 0 rfl) ?_
      refine g_X7_19 hB hz kdM_0 dX7_sets_54 ?_
      refine lv_iload_n hx hb dX7_sets_57 rfl (lv_at hl 3 rfl) ?_
      obtain ⟨q58, hq58, hE⟩ := x_bind hE
      refine i_X7_194 hB hz (c_X7_isLabelled l g kdM_4 hq58) ⟨(Nat.le_of_ble_eq_true rfl), (Nat.le_of_ble_eq_true rfl)⟩ hl.1 (Nat.le_of_ble_eq_true rfl) dX7_sets_58 (fun H locs hz => ?_)
      refine lv_if_eq (tgt := 83) hx hb dX7_sets_61 (by decide) (fun c61 => ?_) (fun c61 => ?_)
      · have hE := (if_pos c61).symm.trans hE
        refine lv_iconst (v := (0 : Int32)) hx hb dX7_sets_83 (by decide) ?_
        exact w_X7_sets_84 hB ih _ _ _ _ _ _ _ _  hE hz (lv_sub hl [0, 1, 3] rfl)
      · have hE := (if_neg c61).symm.trans hE
        refine lv_aload_n hx hb dX7_sets_64 rfl (lv_at hl 0 rfl) ?_
        refine lv_aload_n hx hb dX7_sets_65 rfl (lv_at hl 0 rfl) ?_
        refine g_X7_19 hB hz kdM_0 dX7_sets_66 ?_
        refine lv_iload_n hx hb dX7_sets_69 rfl (lv_at hl 3 rfl) ?_
        obtain ⟨q70, hq70, hE⟩ := x_bind hE
        refine i_X7_269 hB hz kdM_0 (c_X7_ownOf l g kdM_4 hq70) ⟨(Nat.le_of_ble_eq_true rfl), (Nat.le_of_ble_eq_true rfl)⟩ hl.1 (Nat.le_of_ble_eq_true rfl) dX7_sets_70 (fun H locs hz => ?_)
        refine lv_iload_n hx hb dX7_sets_73 rfl (lv_at hl 1 rfl) ?_
        refine lv_icmp_ne (tgt := 83) hx hb dX7_sets_74 (by decide) (fun c74 => ?_) (fun c74 => ?_)
        · have hE := (if_neg c74).symm.trans hE
          refine lv_iconst (v := (0 : Int32)) hx hb dX7_sets_83 (by decide) ?_
          exact w_X7_sets_84 hB ih _ _ _ _ _ _ _ _  hE hz (lv_sub hl [0, 1, 3] rfl)
        · have hE := (if_pos c74).symm.trans hE
          refine lv_iconst (v := (1 : Int32)) hx hb dX7_sets_77 (by decide) ?_
          refine lv_iload_n hx hb dX7_sets_78 rfl (lv_at hl 3 rfl) ?_
          refine lv_ishl hx hb dX7_sets_79 ?_
          refine lv_goto (tgt := 84) hx hb dX7_sets_80 (by decide) ?_
          exact w_X7_sets_84 hB ih _ _ _ _ _ _ _ _  hE hz (lv_sub hl [0, 1, 3] rfl)

set_option maxHeartbeats 4000000 in
set_option maxRecDepth 100000 in
theorem w_X7_sets {p : Program} {l : Launch} {e : Env} {s : State} {m : MethodId} {args : Array Value} {below : List Frame} {meth : Method} {c : Code} {g : GP} (hB : BX p s m args meth c g LM cX7_sets 4 RX7 (some .int)) {o : Int32 × Mem} : ∀ (x1 : Int32) (V : Mem) (H : Heap) (locs : List Loc) (ls : Array Slot), f_X7_sets x1 V = some o → OK g LM V s H locs → lv_has ls 4 [(0, .ref (ad g 0)), (1, .int x1)] → W p l e rm_X7_sets s m args below meth c H locs 0 0 (MQ below (QQ g LM (some (.int o.1)) o.2) args s 0 0 (Ar g LM)) (F0 m 0 ls []) := by
  obtain ⟨hx, hb, hml, hown, hT, hr, hlk, hK, hJ, hZ, hN⟩ := id hB
  intro x1 V H locs ls hE hz hl
  unfold f_X7_sets at hE
  refine lv_aload_n hx hb dX7_sets_0 rfl (lv_at hl 0 rfl) ?_
  refine lv_iconst (v := (0 : Int32)) hx hb dX7_sets_1 (by decide) ?_
  refine p_X7_59 hB hz kdM_0 dX7_sets_2 (fun H locs hz => ?_)
  refine lv_aload_n hx hb dX7_sets_5 rfl (lv_at hl 0 rfl) ?_
  obtain ⟨q6, hq6, hE⟩ := x_bind hE
  refine i_X7_211 hB hz kdM_0 (c_X7_isThere l g  hq6) ⟨(Nat.le_of_ble_eq_true rfl), (Nat.le_of_ble_eq_true rfl)⟩ hl.1 (Nat.le_of_ble_eq_true rfl) dX7_sets_6 (fun H locs hz => ?_)
  refine lv_if_ne (tgt := 15) hx hb dX7_sets_9 (by decide) (fun c9 => ?_) (fun c9 => ?_)
  · have hE := (if_neg c9).symm.trans hE
    refine lv_iload_n hx hb dX7_sets_15 rfl (lv_at hl 1 rfl) ?_
    refine lv_i2l hx hb dX7_sets_16 rfl ?_
    refine lv_lconst (v := (0 : Int64)) hx hb dX7_sets_17 (by decide) ?_
    refine lv_ldc2 (v := (99 : Int64)) hx hb hown (hT _ kw_1061) dX7_sets_18 ?_
    obtain ⟨q21, hq21, hE⟩ := x_bind hE
    refine i_X7_69 hB hz (c_X7_in l g  hq21) ⟨(Nat.le_of_ble_eq_true rfl), (Nat.le_of_ble_eq_true rfl)⟩ hl.1 (Nat.le_of_ble_eq_true rfl) dX7_sets_21 (fun H locs hz => ?_)
    refine lv_if_ne (tgt := 30) hx hb dX7_sets_24 (by decide) (fun c24 => ?_) (fun c24 => ?_)
    · have hE := (if_neg c24).symm.trans hE
      refine lv_aload_n hx hb dX7_sets_30 rfl (lv_at hl 0 rfl) ?_
      refine lv_aload_n hx hb dX7_sets_31 rfl (lv_at hl 0 rfl) ?_
      refine g_X7_19 hB hz kdM_0 dX7_sets_32 ?_
      obtain ⟨q35, hq35, hE⟩ := x_bind hE
      refine i_X7_231 hB hz kdM_0 (c_X7_countAll l g kdM_4 hq35) ⟨(Nat.le_of_ble_eq_true rfl), (Nat.le_of_ble_eq_true rfl)⟩ hl.1 (Nat.le_of_ble_eq_true rfl) dX7_sets_35 (fun H locs hz => ?_)
      refine lv_iconst (v := (0 : Int32)) hx hb dX7_sets_38 (by decide) ?_
      refine lv_istore_n (lv' := [(2, .int (0 : Int32)), (0, .ref (ad g 0)), (1, .int x1)]) hx hb dX7_sets_39 rfl hl (by decide) rfl (fun ls hl => ?_)
      refine lv_iconst (v := (0 : Int32)) hx hb dX7_sets_40 (by decide) ?_
      refine lv_istore_n (lv' := [(3, .int (0 : Int32)), (2, .int (0 : Int32)), (0, .ref (ad g 0)), (1, .int x1)]) hx hb dX7_sets_41 rfl hl (by decide) rfl (fun ls hl => ?_)
      exact w_X7_sets_42 hB  _ _ _ _ _ _ _ _  hE hz (lv_sub hl [2, 3, 1, 0] rfl)
    · have hE := (if_pos c24).symm.trans hE
      refine lv_ldc (v := (-1000001 : Int32)) hx hb hown (hT _ kw_826) dX7_sets_27 ?_
      exact x_iret hB hz hE dX7_sets_29
  · have hE := (if_pos c9).symm.trans hE
    refine lv_ldc (v := (-1000002 : Int32)) hx hb hown (hT _ kw_918) dX7_sets_12 ?_
    exact x_iret hB hz hE dX7_sets_14
theorem c_X7_sets (l : Launch) (g : GP) {x1 : Int32} {V : Mem} {o : Int32 × Mem} (hE : f_X7_sets x1 V = some o) : CT l g LM yX7_sets cX7_sets 4 (some .int) rm_X7_sets [.ref (ad g 0), .int x1] V (some (.int o.1)) o.2 := by
  refine ct_of (by decide) (Nat.le_of_ble_eq_true rfl) ?_
  intro p e s m args below meth c ls hB hz hl
  exact w_X7_sets hB _ _ _ _ _  hE hz hl
def rm_X7_deepest : Room := { frames := 4, cells := 0, slots := 0, locals := 94 }
set_option maxHeartbeats 4000000 in
set_option maxRecDepth 100000 in
theorem w_X7_deepest_90 {p : Program} {l : Launch} {e : Env} {s : State} {m : MethodId} {args : Array Value} {below : List Frame} {meth : Method} {c : Code} {g : GP} (hB : BX p s m args meth c g LM cX7_deepest 5 RX7 (some .int)) {o : Int32 × Mem} {k45 : Int32 → Int32 → Int32 → Int32 → Mem → Option (Int32 × Mem)} (hk45 : ∀ (x1 : Int32) (x2 : Int32) (x3 : Int32) (x4 : Int32) (V : Mem) (H : Heap) (locs : List Loc) (ls : Array Slot), k45 x1 x2 x3 x4 V = some o → OK g LM V s H locs → lv_has ls 5 [(0, .ref (ad g 0)), (1, .int x1), (2, .int x2), (3, .int x3), (4, .int x4)] → W p l e rm_X7_deepest s m args below meth c H locs 0 0 (MQ below (QQ g LM (some (.int o.1)) o.2) args s 0 0 (Ar g LM)) (F0 m 45 ls [])) : ∀ (x1 : Int32) (x2 : Int32) (x3 : Int32) (x4 : Int32) (V : Mem) (H : Heap) (locs : List Loc) (ls : Array Slot), f_X7_deepest_90 k45 x1 x2 x3 x4 V = some o → OK g LM V s H locs → lv_has ls 5 [(0, .ref (ad g 0)), (1, .int x1), (2, .int x2), (3, .int x3), (4, .int x4)] → W p l e rm_X7_deepest s m args below meth c H locs 0 0 (MQ below (QQ g LM (some (.int o.1)) o.2) args s 0 0 (Ar g LM)) (F0 m 90 ls []) := by
  obtain ⟨hx, hb, hml, hown, hT, hr, hlk, hK, hJ, hZ, hN⟩ := id hB
  intro x1 x2 x3 x4 V H locs ls hE hz hl
  unfold f_X7_deepest_90 at hE
  refine lv_iinc (v := (x4 + 1)) (lv' := [(4, .int (x4 + 1)), (0, .ref (ad g 0)), (1, .int x1), (2, .int x2), (3, .int x3)]) hx hb dX7_deepest_90 hl (k := 4) rfl rfl (by decide) rfl (fun ls hl => ?_)
  refine lv_goto (tgt := 45) hx hb dX7_deepest_93 (by decide) ?_
  exact hk45 _ _ _ _ _ _ _ _  hE hz (lv_sub hl [1, 2, 3, 4, 0] rfl)

set_option maxHeartbeats 4000000 in
set_option maxRecDepth 100000 in
theorem w_X7_deepest_45 {p : Program} {l : Launch} {e : Env} {s : State} {m : MethodId} {args : Array Value} {below : List Frame} {meth : Method} {c : Code} {g : GP} (hB : BX p s m args meth c g LM cX7_deepest 5 RX7 (some .int)) {o : Int32 × Mem} : ∀ (n : Nat), ∀ (x1 : Int32) (x2 : Int32) (x3 : Int32) (x4 : Int32) (V : Mem) (H : Heap) (locs : List Loc) (ls : Array Slot), f_X7_deepest_45 n x1 x2 x3 x4 V = some o → OK g LM V s H locs → lv_has ls 5 [(0, .ref (ad g 0)), (1, .int x1), (2, .int x2), (3, .int x3), (4, .int x4)] → W p l e rm_X7_deepest s m args below meth c H locs 0 0 (MQ below (QQ g LM (some (.int o.1)) o.2) args s 0 0 (Ar g LM)) (F0 m 45 ls []) := by
  obtain ⟨hx, hb, hml, hown, hT, hr, hlk, hK, hJ, hZ, hN⟩ := id hB
  intro n
  induction n with
  | zero =>
    intro x1 x2 x3 x4 V H locs ls hE hz hl
    exact absurd (show (none : Option (Int32 × Mem)) = some o from hE) (by simp)
  | succ n ih =>
    intro x1 x2 x3 x4 V H locs ls hE hz hl
    unfold f_X7_deepest_45 at hE
    refine lv_iload hx hb dX7_deepest_45 (lv_at hl 4 rfl) ?_
    refine lv_aload_n hx hb dX7_deepest_47 rfl (lv_at hl 0 rfl) ?_
    refine g_X7_19 hB hz kdM_0 dX7_deepest_48 ?_
    refine lv_iconst (v := (0 : Int32)) hx hb dX7_deepest_51 (by decide) ?_
    obtain ⟨hi52, hE⟩ := x_chk hE
    refine x_iald (n := 76) hB hz kdM_4 hi52 dX7_deepest_52 ?_
    refine lv_icmp_ge (tgt := 96) hx hb dX7_deepest_53 (by decide) (fun c53 => ?_) (fun c53 => ?_)
    · have hE := (if_pos c53).symm.trans hE
      refine lv_iload_n hx hb dX7_deepest_96 rfl (lv_at hl 1 rfl) ?_
      refine lv_if_ne (tgt := 104) hx hb dX7_deepest_97 (by decide) (fun c97 => ?_) (fun c97 => ?_)
      · have hE := (if_neg c97).symm.trans hE
        refine lv_iload_n hx hb dX7_deepest_104 rfl (lv_at hl 3 rfl) ?_
        exact x_iret hB hz hE dX7_deepest_105
      · have hE := (if_pos c97).symm.trans hE
        refine lv_iload_n hx hb dX7_deepest_100 rfl (lv_at hl 2 rfl) ?_
        refine lv_goto (tgt := 105) hx hb dX7_deepest_101 (by decide) ?_
        exact x_iret hB hz hE dX7_deepest_105
    · have hE := (if_neg c53).symm.trans hE
      refine lv_aload_n hx hb dX7_deepest_56 rfl (lv_at hl 0 rfl) ?_
      refine lv_aload_n hx hb dX7_deepest_57 rfl (lv_at hl 0 rfl) ?_
      refine g_X7_19 hB hz kdM_0 dX7_deepest_58 ?_
      refine lv_iload hx hb dX7_deepest_61 (lv_at hl 4 rfl) ?_
      refine lv_iconst (v := (0 : Int32)) hx hb dX7_deepest_63 (by decide) ?_
      obtain ⟨q64, hq64, hE⟩ := x_bind hE
      refine i_X7_235 hB hz kdM_0 (c_X7_writeLabel l g kdM_4 hq64) ⟨(Nat.le_of_ble_eq_true rfl), (Nat.le_of_ble_eq_true rfl)⟩ hl.1 (Nat.le_of_ble_eq_true rfl) dX7_deepest_64 (fun H locs hz => ?_)
      refine lv_aload_n hx hb dX7_deepest_67 rfl (lv_at hl 0 rfl) ?_
      refine g_X7_177 hB hz kdM_0 dX7_deepest_68 ?_
      refine lv_if_le (tgt := 90) hx hb dX7_deepest_71 (by decide) (fun c71 => ?_) (fun c71 => ?_)
      · have hE := (if_pos c71).symm.trans hE
        exact w_X7_deepest_90 hB ih _ _ _ _ _ _ _ _  hE hz (lv_sub hl [0, 1, 2, 3, 4] rfl)
      · have hE := (if_neg c71).symm.trans hE
        refine lv_aload_n hx hb dX7_deepest_74 rfl (lv_at hl 0 rfl) ?_
        refine g_X7_177 hB hz kdM_0 dX7_deepest_75 ?_
        refine lv_iload_n hx hb dX7_deepest_78 rfl (lv_at hl 2 rfl) ?_
        refine lv_icmp_le (tgt := 90) hx hb dX7_deepest_79 (by decide) (fun c79 => ?_) (fun c79 => ?_)
        · have hE := (if_pos c79).symm.trans hE
          exact w_X7_deepest_90 hB ih _ _ _ _ _ _ _ _  hE hz (lv_sub hl [0, 1, 2, 3, 4] rfl)
        · have hE := (if_neg c79).symm.trans hE
          refine lv_aload_n hx hb dX7_deepest_82 rfl (lv_at hl 0 rfl) ?_
          refine g_X7_177 hB hz kdM_0 dX7_deepest_83 ?_
          refine lv_istore_n (lv' := [(2, .int (q64 0 23)), (0, .ref (ad g 0)), (1, .int x1), (3, .int x3), (4, .int x4)]) hx hb dX7_deepest_86 rfl hl (by decide) rfl (fun ls hl => ?_)
          refine lv_iload hx hb dX7_deepest_87 (lv_at hl 4 rfl) ?_
          refine lv_istore_n (lv' := [(3, .int x4), (2, .int (q64 0 23)), (0, .ref (ad g 0)), (1, .int x1), (4, .int x4)]) hx hb dX7_deepest_89 rfl hl (by decide) rfl (fun ls hl => ?_)
          exact w_X7_deepest_90 hB ih _ _ _ _ _ _ _ _  hE hz (lv_sub hl [2, 3, 1, 0, 4] rfl)

set_option maxHeartbeats 4000000 in
set_option maxRecDepth 100000 in
theorem w_X7_deepest {p : Program} {l : Launch} {e : Env} {s : State} {m : MethodId} {args : Array Value} {below : List Frame} {meth : Method} {c : Code} {g : GP} (hB : BX p s m args meth c g LM cX7_deepest 5 RX7 (some .int)) {o : Int32 × Mem} : ∀ (x1 : Int32) (V : Mem) (H : Heap) (locs : List Loc) (ls : Array Slot), f_X7_deepest x1 V = some o → OK g LM V s H locs → lv_has ls 5 [(0, .ref (ad g 0)), (1, .int x1)] → W p l e rm_X7_deepest s m args below meth c H locs 0 0 (MQ below (QQ g LM (some (.int o.1)) o.2) args s 0 0 (Ar g LM)) (F0 m 0 ls []) := by
  obtain ⟨hx, hb, hml, hown, hT, hr, hlk, hK, hJ, hZ, hN⟩ := id hB
  intro x1 V H locs ls hE hz hl
  unfold f_X7_deepest at hE
  refine lv_aload_n hx hb dX7_deepest_0 rfl (lv_at hl 0 rfl) ?_
  refine lv_iconst (v := (0 : Int32)) hx hb dX7_deepest_1 (by decide) ?_
  refine p_X7_59 hB hz kdM_0 dX7_deepest_2 (fun H locs hz => ?_)
  refine lv_aload_n hx hb dX7_deepest_5 rfl (lv_at hl 0 rfl) ?_
  obtain ⟨q6, hq6, hE⟩ := x_bind hE
  refine i_X7_211 hB hz kdM_0 (c_X7_isThere l g  hq6) ⟨(Nat.le_of_ble_eq_true rfl), (Nat.le_of_ble_eq_true rfl)⟩ hl.1 (Nat.le_of_ble_eq_true rfl) dX7_deepest_6 (fun H locs hz => ?_)
  refine lv_if_ne (tgt := 15) hx hb dX7_deepest_9 (by decide) (fun c9 => ?_) (fun c9 => ?_)
  · have hE := (if_neg c9).symm.trans hE
    refine lv_iload_n hx hb dX7_deepest_15 rfl (lv_at hl 1 rfl) ?_
    refine lv_i2l hx hb dX7_deepest_16 rfl ?_
    refine lv_lconst (v := (0 : Int64)) hx hb dX7_deepest_17 (by decide) ?_
    refine lv_lconst (v := (1 : Int64)) hx hb dX7_deepest_18 (by decide) ?_
    obtain ⟨q19, hq19, hE⟩ := x_bind hE
    refine i_X7_69 hB hz (c_X7_in l g  hq19) ⟨(Nat.le_of_ble_eq_true rfl), (Nat.le_of_ble_eq_true rfl)⟩ hl.1 (Nat.le_of_ble_eq_true rfl) dX7_deepest_19 (fun H locs hz => ?_)
    refine lv_if_ne (tgt := 28) hx hb dX7_deepest_22 (by decide) (fun c22 => ?_) (fun c22 => ?_)
    · have hE := (if_neg c22).symm.trans hE
      refine lv_aload_n hx hb dX7_deepest_28 rfl (lv_at hl 0 rfl) ?_
      refine lv_aload_n hx hb dX7_deepest_29 rfl (lv_at hl 0 rfl) ?_
      refine g_X7_19 hB hz kdM_0 dX7_deepest_30 ?_
      obtain ⟨q33, hq33, hE⟩ := x_bind hE
      refine i_X7_231 hB hz kdM_0 (c_X7_countAll l g kdM_4 hq33) ⟨(Nat.le_of_ble_eq_true rfl), (Nat.le_of_ble_eq_true rfl)⟩ hl.1 (Nat.le_of_ble_eq_true rfl) dX7_deepest_33 (fun H locs hz => ?_)
      refine lv_ldc (v := (-1000000 : Int32)) hx hb hown (hT _ kw_866) dX7_deepest_36 ?_
      refine lv_istore_n (lv' := [(2, .int (-1000000 : Int32)), (0, .ref (ad g 0)), (1, .int x1)]) hx hb dX7_deepest_38 rfl hl (by decide) rfl (fun ls hl => ?_)
      refine lv_ldc (v := (-1000000 : Int32)) hx hb hown (hT _ kw_866) dX7_deepest_39 ?_
      refine lv_istore_n (lv' := [(3, .int (-1000000 : Int32)), (2, .int (-1000000 : Int32)), (0, .ref (ad g 0)), (1, .int x1)]) hx hb dX7_deepest_41 rfl hl (by decide) rfl (fun ls hl => ?_)
      refine lv_iconst (v := (0 : Int32)) hx hb dX7_deepest_42 (by decide) ?_
      refine lv_istore (lv' := [(4, .int (0 : Int32)), (3, .int (-1000000 : Int32)), (2, .int (-1000000 : Int32)), (0, .ref (ad g 0)), (1, .int x1)]) hx hb dX7_deepest_43 hl (by decide) rfl (fun ls hl => ?_)
      exact w_X7_deepest_45 hB  _ _ _ _ _ _ _ _ _  hE hz (lv_sub hl [3, 4, 2, 1, 0] rfl)
    · have hE := (if_pos c22).symm.trans hE
      refine lv_ldc (v := (-1000001 : Int32)) hx hb hown (hT _ kw_826) dX7_deepest_25 ?_
      exact x_iret hB hz hE dX7_deepest_27
  · have hE := (if_pos c9).symm.trans hE
    refine lv_ldc (v := (-1000002 : Int32)) hx hb hown (hT _ kw_918) dX7_deepest_12 ?_
    exact x_iret hB hz hE dX7_deepest_14
theorem c_X7_deepest (l : Launch) (g : GP) {x1 : Int32} {V : Mem} {o : Int32 × Mem} (hE : f_X7_deepest x1 V = some o) : CT l g LM yX7_deepest cX7_deepest 5 (some .int) rm_X7_deepest [.ref (ad g 0), .int x1] V (some (.int o.1)) o.2 := by
  refine ct_of (by decide) (Nat.le_of_ble_eq_true rfl) ?_
  intro p e s m args below meth c ls hB hz hl
  exact w_X7_deepest hB _ _ _ _ _  hE hz hl
def rm_X7_isCountedSo : Room := { frames := 3, cells := 0, slots := 0, locals := 71 }
set_option maxHeartbeats 4000000 in
set_option maxRecDepth 100000 in
theorem w_X7_isCountedSo_66 {p : Program} {l : Launch} {e : Env} {s : State} {m : MethodId} {args : Array Value} {below : List Frame} {meth : Method} {c : Code} {g : GP} (hB : BX p s m args meth c g LM cX7_isCountedSo 5 RX7 (some .boolean)) {o : Int32 × Mem} {k13 : Int32 → Int32 → Int32 → Int32 → Mem → Option (Int32 × Mem)} (hk13 : ∀ (x1 : Int32) (x2 : Int32) (x3 : Int32) (x4 : Int32) (V : Mem) (H : Heap) (locs : List Loc) (ls : Array Slot), k13 x1 x2 x3 x4 V = some o → OK g LM V s H locs → lv_has ls 5 [(0, .ref (ad g 0)), (1, .int x1), (2, .int x2), (3, .int x3), (4, .int x4)] → W p l e rm_X7_isCountedSo s m args below meth c H locs 0 0 (MQ below (QQ g LM (some (.int o.1)) o.2) args s 0 0 (Ar g LM)) (F0 m 13 ls [])) : ∀ (x1 : Int32) (x2 : Int32) (x4 : Int32) (s0 : Int32) (V : Mem) (H : Heap) (locs : List Loc) (ls : Array Slot), f_X7_isCountedSo_66 k13 x1 x2 x4 s0 V = some o → OK g LM V s H locs → lv_has ls 5 [(0, .ref (ad g 0)), (1, .int x1), (2, .int x2), (4, .int x4)] → W p l e rm_X7_isCountedSo s m args below meth c H locs 0 0 (MQ below (QQ g LM (some (.int o.1)) o.2) args s 0 0 (Ar g LM)) (F0 m 66 ls [.int s0]) := by
  obtain ⟨hx, hb, hml, hown, hT, hr, hlk, hK, hJ, hZ, hN⟩ := id hB
  intro x1 x2 x4 s0 V H locs ls hE hz hl
  unfold f_X7_isCountedSo_66 at hE
  refine lv_istore_n (lv' := [(3, .int s0), (0, .ref (ad g 0)), (1, .int x1), (2, .int x2), (4, .int x4)]) hx hb dX7_isCountedSo_66 rfl hl (by decide) rfl (fun ls hl => ?_)
  refine lv_iinc (v := (x4 + 1)) (lv' := [(4, .int (x4 + 1)), (3, .int s0), (0, .ref (ad g 0)), (1, .int x1), (2, .int x2)]) hx hb dX7_isCountedSo_67 hl (k := 4) rfl rfl (by decide) rfl (fun ls hl => ?_)
  refine lv_goto (tgt := 13) hx hb dX7_isCountedSo_70 (by decide) ?_
  exact hk13 _ _ _ _ _ _ _ _  hE hz (lv_sub hl [2, 3, 4, 1, 0] rfl)

set_option maxHeartbeats 4000000 in
set_option maxRecDepth 100000 in
theorem w_X7_isCountedSo_49 {p : Program} {l : Launch} {e : Env} {s : State} {m : MethodId} {args : Array Value} {below : List Frame} {meth : Method} {c : Code} {g : GP} (hB : BX p s m args meth c g LM cX7_isCountedSo 5 RX7 (some .boolean)) {o : Int32 × Mem} {k13 : Int32 → Int32 → Int32 → Int32 → Mem → Option (Int32 × Mem)} (hk13 : ∀ (x1 : Int32) (x2 : Int32) (x3 : Int32) (x4 : Int32) (V : Mem) (H : Heap) (locs : List Loc) (ls : Array Slot), k13 x1 x2 x3 x4 V = some o → OK g LM V s H locs → lv_has ls 5 [(0, .ref (ad g 0)), (1, .int x1), (2, .int x2), (3, .int x3), (4, .int x4)] → W p l e rm_X7_isCountedSo s m args below meth c H locs 0 0 (MQ below (QQ g LM (some (.int o.1)) o.2) args s 0 0 (Ar g LM)) (F0 m 13 ls [])) : ∀ (x1 : Int32) (x2 : Int32) (x4 : Int32) (s0 : Int32) (V : Mem) (H : Heap) (locs : List Loc) (ls : Array Slot), f_X7_isCountedSo_49 k13 x1 x2 x4 s0 V = some o → OK g LM V s H locs → lv_has ls 5 [(0, .ref (ad g 0)), (1, .int x1), (2, .int x2), (4, .int x4)] → W p l e rm_X7_isCountedSo s m args below meth c H locs 0 0 (MQ below (QQ g LM (some (.int o.1)) o.2) args s 0 0 (Ar g LM)) (F0 m 49 ls [.int s0]) := by
  obtain ⟨hx, hb, hml, hown, hT, hr, hlk, hK, hJ, hZ, hN⟩ := id hB
  intro x1 x2 x4 s0 V H locs ls hE hz hl
  unfold f_X7_isCountedSo_49 at hE
  refine lv_aload_n hx hb dX7_isCountedSo_49 rfl (lv_at hl 0 rfl) ?_
  refine g_X7_16 hB hz kdM_0 dX7_isCountedSo_50 ?_
  refine lv_iload_n hx hb dX7_isCountedSo_53 rfl (lv_at hl 1 rfl) ?_
  refine lv_iload hx hb dX7_isCountedSo_54 (lv_at hl 3 rfl) ?_
  refine lv_iadd hx hb dX7_isCountedSo_56 ?_
  obtain ⟨hi57, hE⟩ := x_chk hE
  refine x_iald (n := 320) hB hz kdM_3 hi57 dX7_isCountedSo_57 ?_
  refine lv_icmp_ne (tgt := 65) hx hb dX7_isCountedSo_58 (by decide) (fun c58 => ?_) (fun c58 => ?_)
  · have hE := (if_neg c58).symm.trans hE
    refine lv_iconst (v := (0 : Int32)) hx hb dX7_isCountedSo_65 (by decide) ?_
    exact w_X7_isCountedSo_66 hB hk13 _ _ _ _ _ _ _ _  hE hz (lv_sub hl [0, 1, 2, 3] rfl)
  · have hE := (if_pos c58).symm.trans hE
    refine lv_iconst (v := (1 : Int32)) hx hb dX7_isCountedSo_61 (by decide) ?_
    refine lv_goto (tgt := 66) hx hb dX7_isCountedSo_62 (by decide) ?_
    exact w_X7_isCountedSo_66 hB hk13 _ _ _ _ _ _ _ _  hE hz (lv_sub hl [0, 1, 2, 3] rfl)

set_option maxHeartbeats 4000000 in
set_option maxRecDepth 100000 in
theorem w_X7_isCountedSo_13 {p : Program} {l : Launch} {e : Env} {s : State} {m : MethodId} {args : Array Value} {below : List Frame} {meth : Method} {c : Code} {g : GP} (hB : BX p s m args meth c g LM cX7_isCountedSo 5 RX7 (some .boolean)) {o : Int32 × Mem} : ∀ (n : Nat), ∀ (x1 : Int32) (x2 : Int32) (x3 : Int32) (x4 : Int32) (V : Mem) (H : Heap) (locs : List Loc) (ls : Array Slot), f_X7_isCountedSo_13 n x1 x2 x3 x4 V = some o → OK g LM V s H locs → lv_has ls 5 [(0, .ref (ad g 0)), (1, .int x1), (2, .int x2), (3, .int x3), (4, .int x4)] → W p l e rm_X7_isCountedSo s m args below meth c H locs 0 0 (MQ below (QQ g LM (some (.int o.1)) o.2) args s 0 0 (Ar g LM)) (F0 m 13 ls []) := by
  obtain ⟨hx, hb, hml, hown, hT, hr, hlk, hK, hJ, hZ, hN⟩ := id hB
  intro n
  induction n with
  | zero =>
    intro x1 x2 x3 x4 V H locs ls hE hz hl
    exact absurd (show (none : Option (Int32 × Mem)) = some o from hE) (by simp)
  | succ n ih =>
    intro x1 x2 x3 x4 V H locs ls hE hz hl
    unfold f_X7_isCountedSo_13 at hE
    refine lv_iload hx hb dX7_isCountedSo_13 (lv_at hl 4 rfl) ?_
    refine lv_iload_n hx hb dX7_isCountedSo_15 rfl (lv_at hl 2 rfl) ?_
    refine lv_icmp_ge (tgt := 73) hx hb dX7_isCountedSo_16 (by decide) (fun c16 => ?_) (fun c16 => ?_)
    · have hE := (if_pos c16).symm.trans hE
      refine lv_iload_n hx hb dX7_isCountedSo_73 rfl (lv_at hl 3 rfl) ?_
      obtain ⟨hv74, hE⟩ := x_if hE
      exact x_zret hB hz hE hv74 dX7_isCountedSo_74
    · have hE := (if_neg c16).symm.trans hE
      refine lv_iload_n hx hb dX7_isCountedSo_19 rfl (lv_at hl 3 rfl) ?_
      refine lv_if_eq (tgt := 65) hx hb dX7_isCountedSo_20 (by decide) (fun c20 => ?_) (fun c20 => ?_)
      · have hE := (if_pos c20).symm.trans hE
        refine lv_iconst (v := (0 : Int32)) hx hb dX7_isCountedSo_65 (by decide) ?_
        exact w_X7_isCountedSo_66 hB ih _ _ _ _ _ _ _ _  hE hz (lv_sub hl [0, 1, 2, 4] rfl)
      · have hE := (if_neg c20).symm.trans hE
        refine lv_aload_n hx hb dX7_isCountedSo_23 rfl (lv_at hl 0 rfl) ?_
        refine g_X7_25 hB hz kdM_0 dX7_isCountedSo_24 ?_
        refine lv_iload hx hb dX7_isCountedSo_27 (lv_at hl 4 rfl) ?_
        obtain ⟨q29, hq29, hE⟩ := x_bind hE
        refine i_X7_194 hB hz (c_X7_isLabelled l g kdM_6 hq29) ⟨(Nat.le_of_ble_eq_true rfl), (Nat.le_of_ble_eq_true rfl)⟩ hl.1 (Nat.le_of_ble_eq_true rfl) dX7_isCountedSo_29 (fun H locs hz => ?_)
        refine lv_if_eq (tgt := 48) hx hb dX7_isCountedSo_32 (by decide) (fun c32 => ?_) (fun c32 => ?_)
        · have hE := (if_pos c32).symm.trans hE
          refine lv_iconst (v := (0 : Int32)) hx hb dX7_isCountedSo_48 (by decide) ?_
          exact w_X7_isCountedSo_49 hB ih _ _ _ _ _ _ _ _  hE hz (lv_sub hl [0, 1, 2, 4] rfl)
        · have hE := (if_neg c32).symm.trans hE
          refine lv_aload_n hx hb dX7_isCountedSo_35 rfl (lv_at hl 0 rfl) ?_
          refine lv_aload_n hx hb dX7_isCountedSo_36 rfl (lv_at hl 0 rfl) ?_
          refine g_X7_25 hB hz kdM_0 dX7_isCountedSo_37 ?_
          refine lv_iload hx hb dX7_isCountedSo_40 (lv_at hl 4 rfl) ?_
          obtain ⟨q42, hq42, hE⟩ := x_bind hE
          refine i_X7_269 hB hz kdM_0 (c_X7_ownOf l g kdM_6 hq42) ⟨(Nat.le_of_ble_eq_true rfl), (Nat.le_of_ble_eq_true rfl)⟩ hl.1 (Nat.le_of_ble_eq_true rfl) dX7_isCountedSo_42 (fun H locs hz => ?_)
          refine lv_goto (tgt := 49) hx hb dX7_isCountedSo_45 (by decide) ?_
          exact w_X7_isCountedSo_49 hB ih _ _ _ _ _ _ _ _  hE hz (lv_sub hl [0, 1, 2, 4] rfl)

set_option maxHeartbeats 4000000 in
set_option maxRecDepth 100000 in
theorem w_X7_isCountedSo {p : Program} {l : Launch} {e : Env} {s : State} {m : MethodId} {args : Array Value} {below : List Frame} {meth : Method} {c : Code} {g : GP} (hB : BX p s m args meth c g LM cX7_isCountedSo 5 RX7 (some .boolean)) {o : Int32 × Mem} : ∀ (x1 : Int32) (x2 : Int32) (V : Mem) (H : Heap) (locs : List Loc) (ls : Array Slot), f_X7_isCountedSo x1 x2 V = some o → OK g LM V s H locs → lv_has ls 5 [(0, .ref (ad g 0)), (1, .int x1), (2, .int x2)] → W p l e rm_X7_isCountedSo s m args below meth c H locs 0 0 (MQ below (QQ g LM (some (.int o.1)) o.2) args s 0 0 (Ar g LM)) (F0 m 0 ls []) := by
  obtain ⟨hx, hb, hml, hown, hT, hr, hlk, hK, hJ, hZ, hN⟩ := id hB
  intro x1 x2 V H locs ls hE hz hl
  unfold f_X7_isCountedSo at hE
  refine lv_aload_n hx hb dX7_isCountedSo_0 rfl (lv_at hl 0 rfl) ?_
  refine lv_aload_n hx hb dX7_isCountedSo_1 rfl (lv_at hl 0 rfl) ?_
  refine g_X7_25 hB hz kdM_0 dX7_isCountedSo_2 ?_
  obtain ⟨q5, hq5, hE⟩ := x_bind hE
  refine i_X7_231 hB hz kdM_0 (c_X7_countAll l g kdM_6 hq5) ⟨(Nat.le_of_ble_eq_true rfl), (Nat.le_of_ble_eq_true rfl)⟩ hl.1 (Nat.le_of_ble_eq_true rfl) dX7_isCountedSo_5 (fun H locs hz => ?_)
  refine lv_iconst (v := (1 : Int32)) hx hb dX7_isCountedSo_8 (by decide) ?_
  refine lv_istore_n (lv' := [(3, .int (1 : Int32)), (0, .ref (ad g 0)), (1, .int x1), (2, .int x2)]) hx hb dX7_isCountedSo_9 rfl hl (by decide) rfl (fun ls hl => ?_)
  refine lv_iconst (v := (0 : Int32)) hx hb dX7_isCountedSo_10 (by decide) ?_
  refine lv_istore (lv' := [(4, .int (0 : Int32)), (3, .int (1 : Int32)), (0, .ref (ad g 0)), (1, .int x1), (2, .int x2)]) hx hb dX7_isCountedSo_11 hl (by decide) rfl (fun ls hl => ?_)
  exact w_X7_isCountedSo_13 hB  _ _ _ _ _ _ _ _ _  hE hz (lv_sub hl [2, 3, 4, 1, 0] rfl)
theorem c_X7_isCountedSo (l : Launch) (g : GP) {x1 : Int32} {x2 : Int32} {V : Mem} {o : Int32 × Mem} (hE : f_X7_isCountedSo x1 x2 V = some o) : CT l g LM yX7_isCountedSo cX7_isCountedSo 5 (some .boolean) rm_X7_isCountedSo [.ref (ad g 0), .int x1, .int x2] V (some (.int o.1)) o.2 := by
  refine ct_of (by decide) (Nat.le_of_ble_eq_true rfl) ?_
  intro p e s m args below meth c ls hB hz hl
  exact w_X7_isCountedSo hB _ _ _ _ _ _  hE hz hl
def rm_X7_who : Room := { frames := 4, cells := 0, slots := 0, locals := 95 }
theorem i_X7_273 {p : Program} {l : Launch} {e : Env} {R : Room} {s : State} {m : MethodId} {args : Array Value} {below : List Frame} {meth : Method} {c : Code} {H : Heap} {locs : List Loc} {Q : State → Prop} {cc : ByteArray} {pc : Nat} {ls : Array Slot} {rest : List Value} {g : GP} {V : Mem} {nL : Nat} {ret : Option FieldType} (hB : BX p s m args meth c g LM cc nL RX7 ret) (hz : OK g LM V s H locs) {i : Nat} (hk : KD LM i 6) {a0 : Int32} {a1 : Int32} {r : Int32} {V1 : Mem} (hM : CT l g LM yX7_isCountedSo cX7_isCountedSo 5 (some .boolean) rm_X7_isCountedSo [.ref (ad g i), .int a0, .int a1] V (some (.int r)) V1) (hR : rm_X7_isCountedSo.frames + 1 ≤ R.frames ∧ 8 + (5 + 11) + rm_X7_isCountedSo.locals ≤ R.locals) (hsz : ls.size = nL) (hrest : (rest.map fun v => v.category).sum ≤ 8) (hdg : decode cc pc = .ok (.invokevirtual 273, 3)) (kk : ∀ (H1 : Heap) (locs1 : List Loc), OK g LM V1 s H1 locs1 → W p l e R s m args below meth c H1 locs1 0 0 Q (F0 m (pc + 3) ls (.int r :: rest))) : W p l e R s m args below meth c H locs 0 0 Q (F0 m pc ls (.int a1 :: .int a0 :: .ref (ad g i) :: rest)) :=
  x_cv (As := [.int a0, .int a1]) (n := 2) (T := TX7) (N := 30) hB hz hM hk rfl rfl rfl rfl kw_1084 kw_68 kw_1081 kw_1083 kw_53 (by decide +kernel) rfl hR hsz hrest hdg kk
set_option maxHeartbeats 4000000 in
set_option maxRecDepth 100000 in
theorem w_X7_who_157 {p : Program} {l : Launch} {e : Env} {s : State} {m : MethodId} {args : Array Value} {below : List Frame} {meth : Method} {c : Code} {g : GP} (hB : BX p s m args meth c g LM cX7_who 10 RX7 (some .int)) {o : Int32 × Mem} {k106 : Int32 → Int32 → Int32 → Int32 → Int32 → Int32 → Int32 → Int32 → Mem → Option (Int32 × Mem)} (hk106 : ∀ (x1 : Int32) (x2 : Int32) (x3 : Int32) (x4 : Int32) (x5 : Int32) (x7 : Int32) (x8 : Int32) (x9 : Int32) (V : Mem) (H : Heap) (locs : List Loc) (ls : Array Slot), k106 x1 x2 x3 x4 x5 x7 x8 x9 V = some o → OK g LM V s H locs → lv_has ls 10 [(0, .ref (ad g 0)), (1, .int x1), (2, .int x2), (3, .int x3), (4, .int x4), (5, .int x5), (7, .int x7), (8, .int x8), (9, .int x9)] → W p l e rm_X7_who s m args below meth c H locs 0 0 (MQ below (QQ g LM (some (.int o.1)) o.2) args s 0 0 (Ar g LM)) (F0 m 106 ls [])) : ∀ (x1 : Int32) (x2 : Int32) (x3 : Int32) (x4 : Int32) (x5 : Int32) (x8 : Int32) (x9 : Int32) (s0 : Int32) (s1 : Int32) (V : Mem) (H : Heap) (locs : List Loc) (ls : Array Slot), f_X7_who_157 k106 x1 x2 x3 x4 x5 x8 x9 s0 s1 V = some o → OK g LM V s H locs → lv_has ls 10 [(0, .ref (ad g 0)), (1, .int x1), (2, .int x2), (3, .int x3), (4, .int x4), (5, .int x5), (8, .int x8), (9, .int x9)] → W p l e rm_X7_who s m args below meth c H locs 0 0 (MQ below (QQ g LM (some (.int o.1)) o.2) args s 0 0 (Ar g LM)) (F0 m 157 ls [.int s1, .int s0]) := by
  obtain ⟨hx, hb, hml, hown, hT, hr, hlk, hK, hJ, hZ, hN⟩ := id hB
  intro x1 x2 x3 x4 x5 x8 x9 s0 s1 V H locs ls hE hz hl
  unfold f_X7_who_157 at hE
  refine lv_ior hx hb dX7_who_157 ?_
  refine lv_istore (lv' := [(7, .int (s0 ||| s1)), (0, .ref (ad g 0)), (1, .int x1), (2, .int x2), (3, .int x3), (4, .int x4), (5, .int x5), (8, .int x8), (9, .int x9)]) hx hb dX7_who_158 hl (by decide) rfl (fun ls hl => ?_)
  refine lv_iinc (v := (x9 + 1)) (lv' := [(9, .int (x9 + 1)), (7, .int (s0 ||| s1)), (0, .ref (ad g 0)), (1, .int x1), (2, .int x2), (3, .int x3), (4, .int x4), (5, .int x5), (8, .int x8)]) hx hb dX7_who_160 hl (k := 8) rfl rfl (by decide) rfl (fun ls hl => ?_)
  refine lv_goto (tgt := 106) hx hb dX7_who_163 (by decide) ?_
  exact hk106 _ _ _ _ _ _ _ _ _ _ _ _  hE hz (lv_sub hl [2, 3, 4, 5, 6, 7, 1, 8, 0] rfl)

set_option maxHeartbeats 4000000 in
set_option maxRecDepth 100000 in
theorem w_X7_who_106 {p : Program} {l : Launch} {e : Env} {s : State} {m : MethodId} {args : Array Value} {below : List Frame} {meth : Method} {c : Code} {g : GP} (hB : BX p s m args meth c g LM cX7_who 10 RX7 (some .int)) {o : Int32 × Mem} : ∀ (n : Nat), ∀ (x1 : Int32) (x2 : Int32) (x3 : Int32) (x4 : Int32) (x5 : Int32) (x7 : Int32) (x8 : Int32) (x9 : Int32) (V : Mem) (H : Heap) (locs : List Loc) (ls : Array Slot), f_X7_who_106 n x1 x2 x3 x4 x5 x7 x8 x9 V = some o → OK g LM V s H locs → lv_has ls 10 [(0, .ref (ad g 0)), (1, .int x1), (2, .int x2), (3, .int x3), (4, .int x4), (5, .int x5), (7, .int x7), (8, .int x8), (9, .int x9)] → W p l e rm_X7_who s m args below meth c H locs 0 0 (MQ below (QQ g LM (some (.int o.1)) o.2) args s 0 0 (Ar g LM)) (F0 m 106 ls []) := by
  obtain ⟨hx, hb, hml, hown, hT, hr, hlk, hK, hJ, hZ, hN⟩ := id hB
  intro n
  induction n with
  | zero =>
    intro x1 x2 x3 x4 x5 x7 x8 x9 V H locs ls hE hz hl
    exact absurd (show (none : Option (Int32 × Mem)) = some o from hE) (by simp)
  | succ n ih =>
    intro x1 x2 x3 x4 x5 x7 x8 x9 V H locs ls hE hz hl
    unfold f_X7_who_106 at hE
    refine lv_iload hx hb dX7_who_106 (lv_at hl 8 rfl) ?_
    refine lv_iload hx hb dX7_who_108 (lv_at hl 7 rfl) ?_
    refine lv_icmp_gt (tgt := 166) hx hb dX7_who_110 (by decide) (fun c110 => ?_) (fun c110 => ?_)
    · have hE := (if_pos c110).symm.trans hE
      refine lv_iload hx hb dX7_who_166 (lv_at hl 6 rfl) ?_
      exact x_iret hB hz hE dX7_who_168
    · have hE := (if_neg c110).symm.trans hE
      refine lv_aload_n hx hb dX7_who_113 rfl (lv_at hl 0 rfl) ?_
      obtain ⟨q114, hq114, hE⟩ := x_bind hE
      refine i_X7_257 hB hz kdM_0 (c_X7_layThen l g  hq114) ⟨(Nat.le_of_ble_eq_true rfl), (Nat.le_of_ble_eq_true rfl)⟩ hl.1 (Nat.le_of_ble_eq_true rfl) dX7_who_114 (fun H locs hz => ?_)
      refine lv_aload_n hx hb dX7_who_117 rfl (lv_at hl 0 rfl) ?_
      refine g_X7_25 hB hz kdM_0 dX7_who_118 ?_
      refine lv_iconst (v := (4 : Int32)) hx hb dX7_who_121 (by decide) ?_
      refine lv_iconst (v := (3 : Int32)) hx hb dX7_who_122 (by decide) ?_
      refine lv_iload_n hx hb dX7_who_123 rfl (lv_at hl 1 rfl) ?_
      refine lv_imul hx hb dX7_who_124 ?_
      refine lv_iadd hx hb dX7_who_125 ?_
      refine lv_iload_n hx hb dX7_who_126 rfl (lv_at hl 2 rfl) ?_
      refine lv_iadd hx hb dX7_who_127 ?_
      refine lv_iload hx hb dX7_who_128 (lv_at hl 8 rfl) ?_
      obtain ⟨hi130, hE⟩ := x_chk hE
      refine x_iast (n := 76) hB hz kdM_6 hi130 dX7_who_130 (fun H locs hz => ?_)
      refine lv_iload hx hb dX7_who_131 (lv_at hl 6 rfl) ?_
      refine lv_aload_n hx hb dX7_who_133 rfl (lv_at hl 0 rfl) ?_
      refine lv_bipush (v := (40 : Int32)) hx hb dX7_who_134 (by decide) ?_
      refine lv_iload_n hx hb dX7_who_136 rfl (lv_at hl 3 rfl) ?_
      refine lv_imul hx hb dX7_who_137 ?_
      refine lv_iload hx hb dX7_who_138 (lv_at hl 4 rfl) ?_
      refine lv_iadd hx hb dX7_who_140 ?_
      refine lv_iload hx hb dX7_who_141 (lv_at hl 5 rfl) ?_
      obtain ⟨q143, hq143, hE⟩ := x_bind hE
      refine i_X7_273 hB hz kdM_0 (c_X7_isCountedSo l g  hq143) ⟨(Nat.le_of_ble_eq_true rfl), (Nat.le_of_ble_eq_true rfl)⟩ hl.1 (Nat.le_of_ble_eq_true rfl) dX7_who_143 (fun H locs hz => ?_)
      refine lv_if_eq (tgt := 156) hx hb dX7_who_146 (by decide) (fun c146 => ?_) (fun c146 => ?_)
      · have hE := (if_pos c146).symm.trans hE
        refine lv_iconst (v := (0 : Int32)) hx hb dX7_who_156 (by decide) ?_
        exact w_X7_who_157 hB ih _ _ _ _ _ _ _ _ _ _ _ _ _  hE hz (lv_sub hl [0, 1, 2, 3, 4, 5, 7, 8] rfl)
      · have hE := (if_neg c146).symm.trans hE
        refine lv_iconst (v := (1 : Int32)) hx hb dX7_who_149 (by decide) ?_
        refine lv_iload hx hb dX7_who_150 (lv_at hl 8 rfl) ?_
        refine lv_ishl hx hb dX7_who_152 ?_
        refine lv_goto (tgt := 157) hx hb dX7_who_153 (by decide) ?_
        exact w_X7_who_157 hB ih _ _ _ _ _ _ _ _ _ _ _ _ _  hE hz (lv_sub hl [0, 1, 2, 3, 4, 5, 7, 8] rfl)

set_option maxHeartbeats 4000000 in
set_option maxRecDepth 100000 in
theorem w_X7_who_104 {p : Program} {l : Launch} {e : Env} {s : State} {m : MethodId} {args : Array Value} {below : List Frame} {meth : Method} {c : Code} {g : GP} (hB : BX p s m args meth c g LM cX7_who 10 RX7 (some .int)) {o : Int32 × Mem} : ∀ (x1 : Int32) (x2 : Int32) (x3 : Int32) (x4 : Int32) (x5 : Int32) (x7 : Int32) (x8 : Int32) (s0 : Int32) (V : Mem) (H : Heap) (locs : List Loc) (ls : Array Slot), f_X7_who_104 x1 x2 x3 x4 x5 x7 x8 s0 V = some o → OK g LM V s H locs → lv_has ls 10 [(0, .ref (ad g 0)), (1, .int x1), (2, .int x2), (3, .int x3), (4, .int x4), (5, .int x5), (7, .int x7), (8, .int x8)] → W p l e rm_X7_who s m args below meth c H locs 0 0 (MQ below (QQ g LM (some (.int o.1)) o.2) args s 0 0 (Ar g LM)) (F0 m 104 ls [.int s0]) := by
  obtain ⟨hx, hb, hml, hown, hT, hr, hlk, hK, hJ, hZ, hN⟩ := id hB
  intro x1 x2 x3 x4 x5 x7 x8 s0 V H locs ls hE hz hl
  unfold f_X7_who_104 at hE
  refine lv_istore (lv' := [(9, .int s0), (0, .ref (ad g 0)), (1, .int x1), (2, .int x2), (3, .int x3), (4, .int x4), (5, .int x5), (7, .int x7), (8, .int x8)]) hx hb dX7_who_104 hl (by decide) rfl (fun ls hl => ?_)
  exact w_X7_who_106 hB  _ _ _ _ _ _ _ _ _ _ _ _ _  hE hz (lv_sub hl [1, 2, 3, 4, 5, 6, 7, 8, 0] rfl)

set_option maxHeartbeats 4000000 in
set_option maxRecDepth 100000 in
theorem w_X7_who_93 {p : Program} {l : Launch} {e : Env} {s : State} {m : MethodId} {args : Array Value} {below : List Frame} {meth : Method} {c : Code} {g : GP} (hB : BX p s m args meth c g LM cX7_who 10 RX7 (some .int)) {o : Int32 × Mem} : ∀ (x1 : Int32) (x2 : Int32) (x3 : Int32) (x4 : Int32) (x5 : Int32) (x7 : Int32) (s0 : Int32) (V : Mem) (H : Heap) (locs : List Loc) (ls : Array Slot), f_X7_who_93 x1 x2 x3 x4 x5 x7 s0 V = some o → OK g LM V s H locs → lv_has ls 10 [(0, .ref (ad g 0)), (1, .int x1), (2, .int x2), (3, .int x3), (4, .int x4), (5, .int x5), (7, .int x7)] → W p l e rm_X7_who s m args below meth c H locs 0 0 (MQ below (QQ g LM (some (.int o.1)) o.2) args s 0 0 (Ar g LM)) (F0 m 93 ls [.int s0]) := by
  obtain ⟨hx, hb, hml, hown, hT, hr, hlk, hK, hJ, hZ, hN⟩ := id hB
  intro x1 x2 x3 x4 x5 x7 s0 V H locs ls hE hz hl
  unfold f_X7_who_93 at hE
  refine lv_istore (lv' := [(8, .int s0), (0, .ref (ad g 0)), (1, .int x1), (2, .int x2), (3, .int x3), (4, .int x4), (5, .int x5), (7, .int x7)]) hx hb dX7_who_93 hl (by decide) rfl (fun ls hl => ?_)
  refine lv_iload_n hx hb dX7_who_95 rfl (lv_at hl 3 rfl) ?_
  refine lv_if_ne (tgt := 103) hx hb dX7_who_96 (by decide) (fun c96 => ?_) (fun c96 => ?_)
  · have hE := (if_neg c96).symm.trans hE
    refine lv_iconst (v := (0 : Int32)) hx hb dX7_who_103 (by decide) ?_
    exact w_X7_who_104 hB  _ _ _ _ _ _ _ _ _ _ _ _  hE hz (lv_sub hl [1, 2, 3, 4, 5, 6, 7, 0] rfl)
  · have hE := (if_pos c96).symm.trans hE
    refine lv_iconst (v := (1 : Int32)) hx hb dX7_who_99 (by decide) ?_
    refine lv_goto (tgt := 104) hx hb dX7_who_100 (by decide) ?_
    exact w_X7_who_104 hB  _ _ _ _ _ _ _ _ _ _ _ _  hE hz (lv_sub hl [1, 2, 3, 4, 5, 6, 7, 0] rfl)

set_option maxHeartbeats 4000000 in
set_option maxRecDepth 100000 in
theorem w_X7_who {p : Program} {l : Launch} {e : Env} {s : State} {m : MethodId} {args : Array Value} {below : List Frame} {meth : Method} {c : Code} {g : GP} (hB : BX p s m args meth c g LM cX7_who 10 RX7 (some .int)) {o : Int32 × Mem} : ∀ (x1 : Int32) (x2 : Int32) (x3 : Int32) (x4 : Int32) (x5 : Int32) (V : Mem) (H : Heap) (locs : List Loc) (ls : Array Slot), f_X7_who x1 x2 x3 x4 x5 V = some o → OK g LM V s H locs → lv_has ls 10 [(0, .ref (ad g 0)), (1, .int x1), (2, .int x2), (3, .int x3), (4, .int x4), (5, .int x5)] → W p l e rm_X7_who s m args below meth c H locs 0 0 (MQ below (QQ g LM (some (.int o.1)) o.2) args s 0 0 (Ar g LM)) (F0 m 0 ls []) := by
  obtain ⟨hx, hb, hml, hown, hT, hr, hlk, hK, hJ, hZ, hN⟩ := id hB
  intro x1 x2 x3 x4 x5 V H locs ls hE hz hl
  unfold f_X7_who at hE
  refine lv_aload_n hx hb dX7_who_0 rfl (lv_at hl 0 rfl) ?_
  refine lv_iconst (v := (0 : Int32)) hx hb dX7_who_1 (by decide) ?_
  refine p_X7_59 hB hz kdM_0 dX7_who_2 (fun H locs hz => ?_)
  refine lv_aload_n hx hb dX7_who_5 rfl (lv_at hl 0 rfl) ?_
  refine lv_iload_n hx hb dX7_who_6 rfl (lv_at hl 1 rfl) ?_
  obtain ⟨q7, hq7, hE⟩ := x_bind hE
  refine i_X7_222 hB hz kdM_0 (c_X7_isParagraph l g  hq7) ⟨(Nat.le_of_ble_eq_true rfl), (Nat.le_of_ble_eq_true rfl)⟩ hl.1 (Nat.le_of_ble_eq_true rfl) dX7_who_7 (fun H locs hz => ?_)
  refine lv_if_eq (tgt := 49) hx hb dX7_who_10 (by decide) (fun c10 => ?_) (fun c10 => ?_)
  · have hE := (if_pos c10).symm.trans hE
    refine lv_ldc (v := (-1000001 : Int32)) hx hb hown (hT _ kw_826) dX7_who_49 ?_
    exact x_iret hB hz hE dX7_who_51
  · have hE := (if_neg c10).symm.trans hE
    refine lv_iload_n hx hb dX7_who_13 rfl (lv_at hl 2 rfl) ?_
    refine lv_i2l hx hb dX7_who_14 rfl ?_
    refine lv_lconst (v := (0 : Int64)) hx hb dX7_who_15 (by decide) ?_
    refine lv_ldc2 (v := (2 : Int64)) hx hb hown (hT _ kw_825) dX7_who_16 ?_
    obtain ⟨q19, hq19, hE⟩ := x_bind hE
    refine i_X7_69 hB hz (c_X7_in l g  hq19) ⟨(Nat.le_of_ble_eq_true rfl), (Nat.le_of_ble_eq_true rfl)⟩ hl.1 (Nat.le_of_ble_eq_true rfl) dX7_who_19 (fun H locs hz => ?_)
    refine lv_if_eq (tgt := 49) hx hb dX7_who_22 (by decide) (fun c22 => ?_) (fun c22 => ?_)
    · have hE := (if_pos c22).symm.trans hE
      refine lv_ldc (v := (-1000001 : Int32)) hx hb hown (hT _ kw_826) dX7_who_49 ?_
      exact x_iret hB hz hE dX7_who_51
    · have hE := (if_neg c22).symm.trans hE
      refine lv_iload_n hx hb dX7_who_25 rfl (lv_at hl 3 rfl) ?_
      obtain ⟨q26, hq26, hE⟩ := x_bind hE
      refine i_X7_73 hB hz (c_X7_isRow l g  hq26) ⟨(Nat.le_of_ble_eq_true rfl), (Nat.le_of_ble_eq_true rfl)⟩ hl.1 (Nat.le_of_ble_eq_true rfl) dX7_who_26 (fun H locs hz => ?_)
      refine lv_if_eq (tgt := 49) hx hb dX7_who_29 (by decide) (fun c29 => ?_) (fun c29 => ?_)
      · have hE := (if_pos c29).symm.trans hE
        refine lv_ldc (v := (-1000001 : Int32)) hx hb hown (hT _ kw_826) dX7_who_49 ?_
        exact x_iret hB hz hE dX7_who_51
      · have hE := (if_neg c29).symm.trans hE
        refine lv_iload hx hb dX7_who_32 (lv_at hl 5 rfl) ?_
        refine lv_i2l hx hb dX7_who_34 rfl ?_
        refine lv_lconst (v := (1 : Int64)) hx hb dX7_who_35 (by decide) ?_
        refine lv_aload_n hx hb dX7_who_36 rfl (lv_at hl 0 rfl) ?_
        refine g_X7_19 hB hz kdM_0 dX7_who_37 ?_
        refine lv_iconst (v := (0 : Int32)) hx hb dX7_who_40 (by decide) ?_
        obtain ⟨hi41, hE⟩ := x_chk hE
        refine x_iald (n := 76) hB hz kdM_4 hi41 dX7_who_41 ?_
        refine lv_i2l hx hb dX7_who_42 rfl ?_
        obtain ⟨q43, hq43, hE⟩ := x_bind hE
        refine i_X7_69 hB hz (c_X7_in l g  hq43) ⟨(Nat.le_of_ble_eq_true rfl), (Nat.le_of_ble_eq_true rfl)⟩ hl.1 (Nat.le_of_ble_eq_true rfl) dX7_who_43 (fun H locs hz => ?_)
        refine lv_if_ne (tgt := 52) hx hb dX7_who_46 (by decide) (fun c46 => ?_) (fun c46 => ?_)
        · have hE := (if_neg c46).symm.trans hE
          refine lv_aload_n hx hb dX7_who_52 rfl (lv_at hl 0 rfl) ?_
          refine lv_iload_n hx hb dX7_who_53 rfl (lv_at hl 3 rfl) ?_
          refine lv_iload hx hb dX7_who_54 (lv_at hl 4 rfl) ?_
          refine lv_iload hx hb dX7_who_56 (lv_at hl 5 rfl) ?_
          obtain ⟨q58, hq58, hE⟩ := x_bind hE
          refine i_X7_253 hB hz kdM_0 (c_X7_rowFound l g  hq58) ⟨(Nat.le_of_ble_eq_true rfl), (Nat.le_of_ble_eq_true rfl)⟩ hl.1 (Nat.le_of_ble_eq_true rfl) dX7_who_58 (fun H locs hz => ?_)
          refine lv_istore (lv' := [(6, .int q58.1), (0, .ref (ad g 0)), (1, .int x1), (2, .int x2), (3, .int x3), (4, .int x4), (5, .int x5)]) hx hb dX7_who_61 hl (by decide) rfl (fun ls hl => ?_)
          refine lv_iload hx hb dX7_who_63 (lv_at hl 0 rfl) ?_
          refine lv_if_eq (tgt := 71) hx hb dX7_who_65 (by decide) (fun c65 => ?_) (fun c65 => ?_)
          · have hE := (if_pos c65).symm.trans hE
            refine lv_iconst (v := (0 : Int32)) hx hb dX7_who_71 (by decide) ?_
            refine lv_istore (lv' := [(7, .int (0 : Int32)), (6, .int q58.1), (0, .ref (ad g 0)), (1, .int x1), (2, .int x2), (3, .int x3), (4, .int x4), (5, .int x5)]) hx hb dX7_who_72 hl (by decide) rfl (fun ls hl => ?_)
            refine lv_iload_n hx hb dX7_who_74 rfl (lv_at hl 4 rfl) ?_
            refine lv_if_ne (tgt := 82) hx hb dX7_who_75 (by decide) (fun c75 => ?_) (fun c75 => ?_)
            · have hE := (if_neg c75).symm.trans hE
              refine lv_iload_n hx hb dX7_who_82 rfl (lv_at hl 4 rfl) ?_
              refine lv_iconst (v := (1 : Int32)) hx hb dX7_who_83 (by decide) ?_
              refine lv_icmp_ne (tgt := 91) hx hb dX7_who_84 (by decide) (fun c84 => ?_) (fun c84 => ?_)
              · have hE := (if_neg c84).symm.trans hE
                refine lv_bipush (v := (20 : Int32)) hx hb dX7_who_91 (by decide) ?_
                exact w_X7_who_93 hB  _ _ _ _ _ _ _ _ _ _ _  hE hz (lv_sub hl [2, 3, 4, 5, 6, 7, 0] rfl)
              · have hE := (if_pos c84).symm.trans hE
                refine lv_iconst (v := (2 : Int32)) hx hb dX7_who_87 (by decide) ?_
                refine lv_goto (tgt := 93) hx hb dX7_who_88 (by decide) ?_
                exact w_X7_who_93 hB  _ _ _ _ _ _ _ _ _ _ _  hE hz (lv_sub hl [2, 3, 4, 5, 6, 7, 0] rfl)
            · have hE := (if_pos c75).symm.trans hE
              refine lv_iconst (v := (5 : Int32)) hx hb dX7_who_78 (by decide) ?_
              refine lv_goto (tgt := 93) hx hb dX7_who_79 (by decide) ?_
              exact w_X7_who_93 hB  _ _ _ _ _ _ _ _ _ _ _  hE hz (lv_sub hl [2, 3, 4, 5, 6, 7, 0] rfl)
          · have hE := (if_neg c65).symm.trans hE
            refine lv_iload hx hb dX7_who_68 (lv_at hl 0 rfl) ?_
            exact x_iret hB hz hE dX7_who_70
        · have hE := (if_pos c46).symm.trans hE
          refine lv_ldc (v := (-1000001 : Int32)) hx hb hown (hT _ kw_826) dX7_who_49 ?_
          exact x_iret hB hz hE dX7_who_51
theorem c_X7_who (l : Launch) (g : GP) {x1 : Int32} {x2 : Int32} {x3 : Int32} {x4 : Int32} {x5 : Int32} {V : Mem} {o : Int32 × Mem} (hE : f_X7_who x1 x2 x3 x4 x5 V = some o) : CT l g LM yX7_who cX7_who 10 (some .int) rm_X7_who [.ref (ad g 0), .int x1, .int x2, .int x3, .int x4, .int x5] V (some (.int o.1)) o.2 := by
  refine ct_of (by decide) (Nat.le_of_ble_eq_true rfl) ?_
  intro p e s m args below meth c ls hB hz hl
  exact w_X7_who hB _ _ _ _ _ _ _ _ _  hE hz hl
def rm_X7_restarts : Room := { frames := 1, cells := 0, slots := 0, locals := 22 }
set_option maxHeartbeats 4000000 in
set_option maxRecDepth 100000 in
theorem w_X7_restarts_35 {p : Program} {l : Launch} {e : Env} {s : State} {m : MethodId} {args : Array Value} {below : List Frame} {meth : Method} {c : Code} {g : GP} (hB : BX p s m args meth c g LM cX7_restarts 3 RX7 (some .int)) {o : Int32 × Mem} {k4 : Int32 → Int32 → Mem → Option (Int32 × Mem)} (hk4 : ∀ (x1 : Int32) (x2 : Int32) (V : Mem) (H : Heap) (locs : List Loc) (ls : Array Slot), k4 x1 x2 V = some o → OK g LM V s H locs → lv_has ls 3 [(0, .ref (ad g 0)), (1, .int x1), (2, .int x2)] → W p l e rm_X7_restarts s m args below meth c H locs 0 0 (MQ below (QQ g LM (some (.int o.1)) o.2) args s 0 0 (Ar g LM)) (F0 m 4 ls [])) : ∀ (x2 : Int32) (s0 : Int32) (s1 : Int32) (V : Mem) (H : Heap) (locs : List Loc) (ls : Array Slot), f_X7_restarts_35 k4 x2 s0 s1 V = some o → OK g LM V s H locs → lv_has ls 3 [(0, .ref (ad g 0)), (2, .int x2)] → W p l e rm_X7_restarts s m args below meth c H locs 0 0 (MQ below (QQ g LM (some (.int o.1)) o.2) args s 0 0 (Ar g LM)) (F0 m 35 ls [.int s1, .int s0]) := by
  obtain ⟨hx, hb, hml, hown, hT, hr, hlk, hK, hJ, hZ, hN⟩ := id hB
  intro x2 s0 s1 V H locs ls hE hz hl
  unfold f_X7_restarts_35 at hE
  refine lv_ior hx hb dX7_restarts_35 ?_
  refine lv_istore_n (lv' := [(1, .int (s0 ||| s1)), (0, .ref (ad g 0)), (2, .int x2)]) hx hb dX7_restarts_36 rfl hl (by decide) rfl (fun ls hl => ?_)
  refine lv_iinc (v := (x2 + 1)) (lv' := [(2, .int (x2 + 1)), (1, .int (s0 ||| s1)), (0, .ref (ad g 0))]) hx hb dX7_restarts_37 hl (k := 2) rfl rfl (by decide) rfl (fun ls hl => ?_)
  refine lv_goto (tgt := 4) hx hb dX7_restarts_40 (by decide) ?_
  exact hk4 _ _ _ _ _ _  hE hz (lv_sub hl [2, 1, 0] rfl)

set_option maxHeartbeats 4000000 in
set_option maxRecDepth 100000 in
theorem w_X7_restarts_4 {p : Program} {l : Launch} {e : Env} {s : State} {m : MethodId} {args : Array Value} {below : List Frame} {meth : Method} {c : Code} {g : GP} (hB : BX p s m args meth c g LM cX7_restarts 3 RX7 (some .int)) {o : Int32 × Mem} : ∀ (n : Nat), ∀ (x1 : Int32) (x2 : Int32) (V : Mem) (H : Heap) (locs : List Loc) (ls : Array Slot), f_X7_restarts_4 n x1 x2 V = some o → OK g LM V s H locs → lv_has ls 3 [(0, .ref (ad g 0)), (1, .int x1), (2, .int x2)] → W p l e rm_X7_restarts s m args below meth c H locs 0 0 (MQ below (QQ g LM (some (.int o.1)) o.2) args s 0 0 (Ar g LM)) (F0 m 4 ls []) := by
  obtain ⟨hx, hb, hml, hown, hT, hr, hlk, hK, hJ, hZ, hN⟩ := id hB
  intro n
  induction n with
  | zero =>
    intro x1 x2 V H locs ls hE hz hl
    exact absurd (show (none : Option (Int32 × Mem)) = some o from hE) (by simp)
  | succ n ih =>
    intro x1 x2 V H locs ls hE hz hl
    unfold f_X7_restarts_4 at hE
    refine lv_iload_n hx hb dX7_restarts_4 rfl (lv_at hl 2 rfl) ?_
    refine lv_aload_n hx hb dX7_restarts_5 rfl (lv_at hl 0 rfl) ?_
    refine g_X7_19 hB hz kdM_0 dX7_restarts_6 ?_
    refine lv_iconst (v := (0 : Int32)) hx hb dX7_restarts_9 (by decide) ?_
    obtain ⟨hi10, hE⟩ := x_chk hE
    refine x_iald (n := 76) hB hz kdM_4 hi10 dX7_restarts_10 ?_
    refine lv_icmp_ge (tgt := 43) hx hb dX7_restarts_11 (by decide) (fun c11 => ?_) (fun c11 => ?_)
    · have hE := (if_pos c11).symm.trans hE
      refine lv_iload_n hx hb dX7_restarts_43 rfl (lv_at hl 1 rfl) ?_
      exact x_iret hB hz hE dX7_restarts_44
    · have hE := (if_neg c11).symm.trans hE
      refine lv_iload_n hx hb dX7_restarts_14 rfl (lv_at hl 1 rfl) ?_
      refine lv_aload_n hx hb dX7_restarts_15 rfl (lv_at hl 0 rfl) ?_
      refine g_X7_19 hB hz kdM_0 dX7_restarts_16 ?_
      refine lv_iload_n hx hb dX7_restarts_19 rfl (lv_at hl 2 rfl) ?_
      refine lv_iconst (v := (0 : Int32)) hx hb dX7_restarts_20 (by decide) ?_
      obtain ⟨q21, hq21, hE⟩ := x_bind hE
      refine i_X7_165 hB hz (c_X7_of l g kdM_4 hq21) ⟨(Nat.le_of_ble_eq_true rfl), (Nat.le_of_ble_eq_true rfl)⟩ hl.1 (Nat.le_of_ble_eq_true rfl) dX7_restarts_21 (fun H locs hz => ?_)
      refine lv_iconst (v := (2 : Int32)) hx hb dX7_restarts_24 (by decide) ?_
      refine lv_icmp_ne (tgt := 34) hx hb dX7_restarts_25 (by decide) (fun c25 => ?_) (fun c25 => ?_)
      · have hE := (if_neg c25).symm.trans hE
        refine lv_iconst (v := (0 : Int32)) hx hb dX7_restarts_34 (by decide) ?_
        exact w_X7_restarts_35 hB ih _ _ _ _ _ _ _  hE hz (lv_sub hl [0, 2] rfl)
      · have hE := (if_pos c25).symm.trans hE
        refine lv_iconst (v := (1 : Int32)) hx hb dX7_restarts_28 (by decide) ?_
        refine lv_iload_n hx hb dX7_restarts_29 rfl (lv_at hl 2 rfl) ?_
        refine lv_ishl hx hb dX7_restarts_30 ?_
        refine lv_goto (tgt := 35) hx hb dX7_restarts_31 (by decide) ?_
        exact w_X7_restarts_35 hB ih _ _ _ _ _ _ _  hE hz (lv_sub hl [0, 2] rfl)

set_option maxHeartbeats 4000000 in
set_option maxRecDepth 100000 in
theorem w_X7_restarts {p : Program} {l : Launch} {e : Env} {s : State} {m : MethodId} {args : Array Value} {below : List Frame} {meth : Method} {c : Code} {g : GP} (hB : BX p s m args meth c g LM cX7_restarts 3 RX7 (some .int)) {o : Int32 × Mem} : ∀ (V : Mem) (H : Heap) (locs : List Loc) (ls : Array Slot), f_X7_restarts V = some o → OK g LM V s H locs → lv_has ls 3 [(0, .ref (ad g 0))] → W p l e rm_X7_restarts s m args below meth c H locs 0 0 (MQ below (QQ g LM (some (.int o.1)) o.2) args s 0 0 (Ar g LM)) (F0 m 0 ls []) := by
  obtain ⟨hx, hb, hml, hown, hT, hr, hlk, hK, hJ, hZ, hN⟩ := id hB
  intro V H locs ls hE hz hl
  unfold f_X7_restarts at hE
  refine lv_iconst (v := (0 : Int32)) hx hb dX7_restarts_0 (by decide) ?_
  refine lv_istore_n (lv' := [(1, .int (0 : Int32)), (0, .ref (ad g 0))]) hx hb dX7_restarts_1 rfl hl (by decide) rfl (fun ls hl => ?_)
  refine lv_iconst (v := (0 : Int32)) hx hb dX7_restarts_2 (by decide) ?_
  refine lv_istore_n (lv' := [(2, .int (0 : Int32)), (1, .int (0 : Int32)), (0, .ref (ad g 0))]) hx hb dX7_restarts_3 rfl hl (by decide) rfl (fun ls hl => ?_)
  exact w_X7_restarts_4 hB  _ _ _ _ _ _ _  hE hz (lv_sub hl [2, 1, 0] rfl)
theorem c_X7_restarts (l : Launch) (g : GP) {V : Mem} {o : Int32 × Mem} (hE : f_X7_restarts V = some o) : CT l g LM yX7_restarts cX7_restarts 3 (some .int) rm_X7_restarts [.ref (ad g 0)] V (some (.int o.1)) o.2 := by
  refine ct_of (by decide) (Nat.le_of_ble_eq_true rfl) ?_
  intro p e s m args below meth c ls hB hz hl
  exact w_X7_restarts hB  _ _ _ _  hE hz hl
def rm_X7_bits : Room := { frames := 0, cells := 0, slots := 0, locals := 0 }
set_option maxHeartbeats 4000000 in
set_option maxRecDepth 100000 in
theorem w_X7_bits_4 {p : Program} {l : Launch} {e : Env} {s : State} {m : MethodId} {args : Array Value} {below : List Frame} {meth : Method} {c : Code} {g : GP} (hB : BX p s m args meth c g LM cX7_bits 3 RX7 (some .int)) {o : Int32 × Mem} : ∀ (n : Nat), ∀ (x0 : Int32) (x1 : Int32) (x2 : Int32) (V : Mem) (H : Heap) (locs : List Loc) (ls : Array Slot), f_X7_bits_4 n x0 x1 x2 V = some o → OK g LM V s H locs → lv_has ls 3 [(0, .int x0), (1, .int x1), (2, .int x2)] → W p l e rm_X7_bits s m args below meth c H locs 0 0 (MQ below (QQ g LM (some (.int o.1)) o.2) args s 0 0 (Ar g LM)) (F0 m 4 ls []) := by
  obtain ⟨hx, hb, hml, hown, hT, hr, hlk, hK, hJ, hZ, hN⟩ := id hB
  intro n
  induction n with
  | zero =>
    intro x0 x1 x2 V H locs ls hE hz hl
    exact absurd (show (none : Option (Int32 × Mem)) = some o from hE) (by simp)
  | succ n ih =>
    intro x0 x1 x2 V H locs ls hE hz hl
    unfold f_X7_bits_4 at hE
    refine lv_iload_n hx hb dX7_bits_4 rfl (lv_at hl 2 rfl) ?_
    refine lv_bipush (v := (24 : Int32)) hx hb dX7_bits_5 (by decide) ?_
    refine lv_icmp_ge (tgt := 24) hx hb dX7_bits_7 (by decide) (fun c7 => ?_) (fun c7 => ?_)
    · have hE := (if_pos c7).symm.trans hE
      refine lv_iload_n hx hb dX7_bits_24 rfl (lv_at hl 1 rfl) ?_
      exact x_iret hB hz hE dX7_bits_25
    · have hE := (if_neg c7).symm.trans hE
      refine lv_iload_n hx hb dX7_bits_10 rfl (lv_at hl 1 rfl) ?_
      refine lv_iload_n hx hb dX7_bits_11 rfl (lv_at hl 0 rfl) ?_
      refine lv_iload_n hx hb dX7_bits_12 rfl (lv_at hl 2 rfl) ?_
      refine lv_ishr hx hb dX7_bits_13 ?_
      refine lv_iconst (v := (1 : Int32)) hx hb dX7_bits_14 (by decide) ?_
      refine lv_iand hx hb dX7_bits_15 ?_
      refine lv_iadd hx hb dX7_bits_16 ?_
      refine lv_istore_n (lv' := [(1, .int (x1 + ((x0 >>> (x2 &&& 31)) &&& (1 : Int32)))), (0, .int x0), (2, .int x2)]) hx hb dX7_bits_17 rfl hl (by decide) rfl (fun ls hl => ?_)
      refine lv_iinc (v := (x2 + 1)) (lv' := [(2, .int (x2 + 1)), (1, .int (x1 + ((x0 >>> (x2 &&& 31)) &&& (1 : Int32)))), (0, .int x0)]) hx hb dX7_bits_18 hl (k := 2) rfl rfl (by decide) rfl (fun ls hl => ?_)
      refine lv_goto (tgt := 4) hx hb dX7_bits_21 (by decide) ?_
      exact ih _ _ _ _ _ _ _  hE hz (lv_sub hl [2, 1, 0] rfl)

set_option maxHeartbeats 4000000 in
set_option maxRecDepth 100000 in
theorem w_X7_bits {p : Program} {l : Launch} {e : Env} {s : State} {m : MethodId} {args : Array Value} {below : List Frame} {meth : Method} {c : Code} {g : GP} (hB : BX p s m args meth c g LM cX7_bits 3 RX7 (some .int)) {o : Int32 × Mem} : ∀ (x0 : Int32) (V : Mem) (H : Heap) (locs : List Loc) (ls : Array Slot), f_X7_bits x0 V = some o → OK g LM V s H locs → lv_has ls 3 [(0, .int x0)] → W p l e rm_X7_bits s m args below meth c H locs 0 0 (MQ below (QQ g LM (some (.int o.1)) o.2) args s 0 0 (Ar g LM)) (F0 m 0 ls []) := by
  obtain ⟨hx, hb, hml, hown, hT, hr, hlk, hK, hJ, hZ, hN⟩ := id hB
  intro x0 V H locs ls hE hz hl
  unfold f_X7_bits at hE
  refine lv_iconst (v := (0 : Int32)) hx hb dX7_bits_0 (by decide) ?_
  refine lv_istore_n (lv' := [(1, .int (0 : Int32)), (0, .int x0)]) hx hb dX7_bits_1 rfl hl (by decide) rfl (fun ls hl => ?_)
  refine lv_iconst (v := (0 : Int32)) hx hb dX7_bits_2 (by decide) ?_
  refine lv_istore_n (lv' := [(2, .int (0 : Int32)), (1, .int (0 : Int32)), (0, .int x0)]) hx hb dX7_bits_3 rfl hl (by decide) rfl (fun ls hl => ?_)
  exact w_X7_bits_4 hB  _ _ _ _ _ _ _ _  hE hz (lv_sub hl [2, 1, 0] rfl)
theorem c_X7_bits (l : Launch) (g : GP) {x0 : Int32} {V : Mem} {o : Int32 × Mem} (hE : f_X7_bits x0 V = some o) : CT l g LM yX7_bits cX7_bits 3 (some .int) rm_X7_bits [.int x0] V (some (.int o.1)) o.2 := by
  refine ct_of (by decide) (Nat.le_of_ble_eq_true rfl) ?_
  intro p e s m args below meth c ls hB hz hl
  exact w_X7_bits hB _ _ _ _ _  hE hz hl
def rm_X7_lost : Room := { frames := 3, cells := 0, slots := 0, locals := 71 }
theorem i_X7_280 {p : Program} {l : Launch} {e : Env} {R : Room} {s : State} {m : MethodId} {args : Array Value} {below : List Frame} {meth : Method} {c : Code} {H : Heap} {locs : List Loc} {Q : State → Prop} {cc : ByteArray} {pc : Nat} {ls : Array Slot} {rest : List Value} {g : GP} {V : Mem} {nL : Nat} {ret : Option FieldType} (hB : BX p s m args meth c g LM cc nL RX7 ret) (hz : OK g LM V s H locs) {i : Nat} (hk : KD LM i 6) {r : Int32} {V1 : Mem} (hM : CT l g LM yX7_restarts cX7_restarts 3 (some .int) rm_X7_restarts [.ref (ad g i)] V (some (.int r)) V1) (hR : rm_X7_restarts.frames + 1 ≤ R.frames ∧ 8 + (3 + 11) + rm_X7_restarts.locals ≤ R.locals) (hsz : ls.size = nL) (hrest : (rest.map fun v => v.category).sum ≤ 8) (hdg : decode cc pc = .ok (.invokevirtual 280, 3)) (kk : ∀ (H1 : Heap) (locs1 : List Loc), OK g LM V1 s H1 locs1 → W p l e R s m args below meth c H1 locs1 0 0 Q (F0 m (pc + 3) ls (.int r :: rest))) : W p l e R s m args below meth c H locs 0 0 Q (F0 m pc ls (.ref (ad g i) :: rest)) :=
  x_cv (As := []) (n := 0) (T := TX7) (N := 30) hB hz hM hk rfl rfl rfl rfl kw_1094 kw_68 kw_1091 kw_1093 kw_54 (by decide +kernel) rfl hR hsz hrest hdg kk
theorem i_X7_283 {p : Program} {l : Launch} {e : Env} {R : Room} {s : State} {m : MethodId} {args : Array Value} {below : List Frame} {meth : Method} {c : Code} {H : Heap} {locs : List Loc} {Q : State → Prop} {cc : ByteArray} {pc : Nat} {ls : Array Slot} {rest : List Value} {g : GP} {V : Mem} {nL : Nat} {ret : Option FieldType} (hB : BX p s m args meth c g LM cc nL RX7 ret) (hz : OK g LM V s H locs) {a0 : Int32} {r : Int32} {V1 : Mem} (hM : CT l g LM yX7_bits cX7_bits 3 (some .int) rm_X7_bits [.int a0] V (some (.int r)) V1) (hR : rm_X7_bits.frames + 1 ≤ R.frames ∧ 8 + (3 + 11) + rm_X7_bits.locals ≤ R.locals) (hsz : ls.size = nL) (hrest : (rest.map fun v => v.category).sum ≤ 8) (hdg : decode cc pc = .ok (.invokestatic 283, 3)) (kk : ∀ (H1 : Heap) (locs1 : List Loc), OK g LM V1 s H1 locs1 → W p l e R s m args below meth c H1 locs1 0 0 Q (F0 m (pc + 3) ls (.int r :: rest))) : W p l e R s m args below meth c H locs 0 0 Q (F0 m pc ls (.int a0 :: rest)) :=
  x_cs (As := [.int a0]) (n := 1) hB hz hM rfl rfl kw_1097 kw_68 kw_1095 kw_1096 (by decide +kernel) rfl hR hsz hrest hdg kk
theorem i_X7_288 {p : Program} {l : Launch} {e : Env} {R : Room} {s : State} {m : MethodId} {args : Array Value} {below : List Frame} {meth : Method} {c : Code} {H : Heap} {locs : List Loc} {Q : State → Prop} {cc : ByteArray} {pc : Nat} {ls : Array Slot} {rest : List Value} {g : GP} {V : Mem} {nL : Nat} {ret : Option FieldType} (hB : BX p s m args meth c g LM cc nL RX7 ret) (hz : OK g LM V s H locs) {a0 : Int32} {a1 : Int32} {r : Int32} {V1 : Mem} (hM : CT l g LM yX7_has cX7_has 2 (some .boolean) rm_X7_has [.int a0, .int a1] V (some (.int r)) V1) (hR : rm_X7_has.frames + 1 ≤ R.frames ∧ 8 + (2 + 11) + rm_X7_has.locals ≤ R.locals) (hsz : ls.size = nL) (hrest : (rest.map fun v => v.category).sum ≤ 8) (hdg : decode cc pc = .ok (.invokestatic 288, 3)) (kk : ∀ (H1 : Heap) (locs1 : List Loc), OK g LM V1 s H1 locs1 → W p l e R s m args below meth c H1 locs1 0 0 Q (F0 m (pc + 3) ls (.int r :: rest))) : W p l e R s m args below meth c H locs 0 0 Q (F0 m pc ls (.int a1 :: .int a0 :: rest)) :=
  x_cs (As := [.int a0, .int a1]) (n := 2) hB hz hM rfl rfl kw_1101 kw_68 kw_1099 kw_1100 (by decide +kernel) rfl hR hsz hrest hdg kk
set_option maxHeartbeats 4000000 in
set_option maxRecDepth 100000 in
theorem w_X7_lost_48 {p : Program} {l : Launch} {e : Env} {s : State} {m : MethodId} {args : Array Value} {below : List Frame} {meth : Method} {c : Code} {g : GP} (hB : BX p s m args meth c g LM cX7_lost 16 RX7 (some .long)) {o : Int64 × Mem} : ∀ (V : Mem) (H : Heap) (locs : List Loc) (ls : Array Slot), f_X7_lost_48 V = some o → OK g LM V s H locs → lv_has ls 16 [] → W p l e rm_X7_lost s m args below meth c H locs 0 0 (MQ below (QQ g LM (some (.long o.1)) o.2) args s 0 0 (Ar g LM)) (F0 m 48 ls []) := by
  obtain ⟨hx, hb, hml, hown, hT, hr, hlk, hK, hJ, hZ, hN⟩ := id hB
  intro V H locs ls hE hz hl
  unfold f_X7_lost_48 at hE
  refine lv_ldc2 (v := (-1000001 : Int64)) hx hb hown (hT _ kw_1090) dX7_lost_48 ?_
  exact x_lret hB hz hE dX7_lost_51

set_option maxHeartbeats 4000000 in
set_option maxRecDepth 100000 in
theorem w_X7_lost_279 {p : Program} {l : Launch} {e : Env} {s : State} {m : MethodId} {args : Array Value} {below : List Frame} {meth : Method} {c : Code} {g : GP} (hB : BX p s m args meth c g LM cX7_lost 16 RX7 (some .long)) {o : Int64 × Mem} : ∀ (x10 : Int64) (s0 : Int64) (V : Mem) (H : Heap) (locs : List Loc) (ls : Array Slot), f_X7_lost_279 x10 s0 V = some o → OK g LM V s H locs → lv_has ls 16 [(10, .long x10)] → W p l e rm_X7_lost s m args below meth c H locs 0 0 (MQ below (QQ g LM (some (.long o.1)) o.2) args s 0 0 (Ar g LM)) (F0 m 279 ls [.long s0]) := by
  obtain ⟨hx, hb, hml, hown, hT, hr, hlk, hK, hJ, hZ, hN⟩ := id hB
  intro x10 s0 V H locs ls hE hz hl
  unfold f_X7_lost_279 at hE
  refine lv_lload hx hb dX7_lost_279 (lv_at hl 0 rfl) ?_
  obtain ⟨hn281, hE⟩ := x_ne0 hE
  refine lv_ldiv hx hb dX7_lost_281 hn281 ?_
  exact x_lret hB hz hE dX7_lost_282

set_option maxHeartbeats 4000000 in
set_option maxRecDepth 100000 in
theorem w_X7_lost_242 {p : Program} {l : Launch} {e : Env} {s : State} {m : MethodId} {args : Array Value} {below : List Frame} {meth : Method} {c : Code} {g : GP} (hB : BX p s m args meth c g LM cX7_lost 16 RX7 (some .long)) {o : Int64 × Mem} : ∀ (n : Nat), ∀ (x4 : Int32) (x6 : Int64) (x8 : Int64) (x10 : Int64) (x12 : Int64) (V : Mem) (H : Heap) (locs : List Loc) (ls : Array Slot), f_X7_lost_242 n x4 x6 x8 x10 x12 V = some o → OK g LM V s H locs → lv_has ls 16 [(4, .int x4), (6, .long x6), (8, .long x8), (10, .long x10), (12, .long x12)] → W p l e rm_X7_lost s m args below meth c H locs 0 0 (MQ below (QQ g LM (some (.long o.1)) o.2) args s 0 0 (Ar g LM)) (F0 m 242 ls []) := by
  obtain ⟨hx, hb, hml, hown, hT, hr, hlk, hK, hJ, hZ, hN⟩ := id hB
  intro n
  induction n with
  | zero =>
    intro x4 x6 x8 x10 x12 V H locs ls hE hz hl
    exact absurd (show (none : Option (Int64 × Mem)) = some o from hE) (by simp)
  | succ n ih =>
    intro x4 x6 x8 x10 x12 V H locs ls hE hz hl
    unfold f_X7_lost_242 at hE
    refine lv_lload hx hb dX7_lost_242 (lv_at hl 4 rfl) ?_
    refine lv_lconst (v := (0 : Int64)) hx hb dX7_lost_244 (by decide) ?_
    refine W.lcmp hx hb dX7_lost_245 ?_
    refine lv_if_eq (tgt := 267) hx hb dX7_lost_246 (by decide) (fun c246 => ?_) (fun c246 => ?_)
    · have hE := (if_pos c246).symm.trans hE
      refine lv_iload hx hb dX7_lost_267 (lv_at hl 0 rfl) ?_
      refine lv_if_ne (tgt := 277) hx hb dX7_lost_269 (by decide) (fun c269 => ?_) (fun c269 => ?_)
      · have hE := (if_neg c269).symm.trans hE
        refine lv_lload hx hb dX7_lost_277 (lv_at hl 2 rfl) ?_
        exact w_X7_lost_279 hB  _ _ _ _ _ _  hE hz (lv_sub hl [3] rfl)
      · have hE := (if_pos c269).symm.trans hE
        refine lv_lload hx hb dX7_lost_272 (lv_at hl 1 rfl) ?_
        refine lv_goto (tgt := 279) hx hb dX7_lost_274 (by decide) ?_
        exact w_X7_lost_279 hB  _ _ _ _ _ _  hE hz (lv_sub hl [3] rfl)
    · have hE := (if_neg c246).symm.trans hE
      refine lv_lload hx hb dX7_lost_249 (lv_at hl 3 rfl) ?_
      refine lv_lload hx hb dX7_lost_251 (lv_at hl 4 rfl) ?_
      obtain ⟨hn253, hE⟩ := x_ne0 hE
      refine lv_lrem hx hb dX7_lost_253 hn253 ?_
      refine lv_lstore (lv' := [(14, .long (x10 - (x10 / x12) * x12)), (4, .int x4), (6, .long x6), (8, .long x8), (10, .long x10), (12, .long x12)]) hx hb dX7_lost_254 hl (by decide) rfl (fun ls hl => ?_)
      refine lv_lload hx hb dX7_lost_256 (lv_at hl 5 rfl) ?_
      refine lv_lstore (lv' := [(10, .long x12), (14, .long (x10 - (x10 / x12) * x12)), (4, .int x4), (6, .long x6), (8, .long x8), (12, .long x12)]) hx hb dX7_lost_258 hl (by decide) rfl (fun ls hl => ?_)
      refine lv_lload hx hb dX7_lost_260 (lv_at hl 1 rfl) ?_
      refine lv_lstore (lv' := [(12, .long (x10 - (x10 / x12) * x12)), (10, .long x12), (14, .long (x10 - (x10 / x12) * x12)), (4, .int x4), (6, .long x6), (8, .long x8)]) hx hb dX7_lost_262 hl (by decide) rfl (fun ls hl => ?_)
      refine lv_goto (tgt := 242) hx hb dX7_lost_264 (by decide) ?_
      exact ih _ _ _ _ _ _ _ _ _  hE hz (lv_sub hl [3, 4, 5, 1, 0] rfl)

set_option maxHeartbeats 4000000 in
set_option maxRecDepth 100000 in
theorem w_X7_lost_225 {p : Program} {l : Launch} {e : Env} {s : State} {m : MethodId} {args : Array Value} {below : List Frame} {meth : Method} {c : Code} {g : GP} (hB : BX p s m args meth c g LM cX7_lost 16 RX7 (some .long)) {o : Int64 × Mem} {k80 : Int32 → Int32 → Int32 → Int32 → Int32 → Int64 → Int64 → Int32 → Mem → Option (Int64 × Mem)} (hk80 : ∀ (x1 : Int32) (x2 : Int32) (x3 : Int32) (x4 : Int32) (x5 : Int32) (x6 : Int64) (x8 : Int64) (x10 : Int32) (V : Mem) (H : Heap) (locs : List Loc) (ls : Array Slot), k80 x1 x2 x3 x4 x5 x6 x8 x10 V = some o → OK g LM V s H locs → lv_has ls 16 [(0, .ref (ad g 0)), (1, .int x1), (2, .int x2), (3, .int x3), (4, .int x4), (5, .int x5), (6, .long x6), (8, .long x8), (10, .int x10)] → W p l e rm_X7_lost s m args below meth c H locs 0 0 (MQ below (QQ g LM (some (.long o.1)) o.2) args s 0 0 (Ar g LM)) (F0 m 80 ls [])) : ∀ (x1 : Int32) (x2 : Int32) (x3 : Int32) (x4 : Int32) (x5 : Int32) (x8 : Int64) (x10 : Int32) (s0 : Int64) (s1 : Int64) (V : Mem) (H : Heap) (locs : List Loc) (ls : Array Slot), f_X7_lost_225 k80 x1 x2 x3 x4 x5 x8 x10 s0 s1 V = some o → OK g LM V s H locs → lv_has ls 16 [(0, .ref (ad g 0)), (1, .int x1), (2, .int x2), (3, .int x3), (4, .int x4), (5, .int x5), (8, .long x8), (10, .int x10)] → W p l e rm_X7_lost s m args below meth c H locs 0 0 (MQ below (QQ g LM (some (.long o.1)) o.2) args s 0 0 (Ar g LM)) (F0 m 225 ls [.long s1, .long s0]) := by
  obtain ⟨hx, hb, hml, hown, hT, hr, hlk, hK, hJ, hZ, hN⟩ := id hB
  intro x1 x2 x3 x4 x5 x8 x10 s0 s1 V H locs ls hE hz hl
  unfold f_X7_lost_225 at hE
  refine lv_ladd hx hb dX7_lost_225 ?_
  refine lv_lstore (lv' := [(6, .long (s0 + s1)), (0, .ref (ad g 0)), (1, .int x1), (2, .int x2), (3, .int x3), (4, .int x4), (5, .int x5), (8, .long x8), (10, .int x10)]) hx hb dX7_lost_226 hl (by decide) rfl (fun ls hl => ?_)
  refine lv_iinc (v := (x10 + 1)) (lv' := [(10, .int (x10 + 1)), (6, .long (s0 + s1)), (0, .ref (ad g 0)), (1, .int x1), (2, .int x2), (3, .int x3), (4, .int x4), (5, .int x5), (8, .long x8)]) hx hb dX7_lost_228 hl (k := 8) rfl rfl (by decide) rfl (fun ls hl => ?_)
  refine lv_goto (tgt := 80) hx hb dX7_lost_231 (by decide) ?_
  exact hk80 _ _ _ _ _ _ _ _ _ _ _ _  hE hz (lv_sub hl [2, 3, 4, 5, 6, 7, 1, 8, 0] rfl)

set_option maxHeartbeats 4000000 in
set_option maxRecDepth 100000 in
theorem w_X7_lost_183 {p : Program} {l : Launch} {e : Env} {s : State} {m : MethodId} {args : Array Value} {below : List Frame} {meth : Method} {c : Code} {g : GP} (hB : BX p s m args meth c g LM cX7_lost 16 RX7 (some .long)) {o : Int64 × Mem} {k106 : Int32 → Int32 → Int32 → Int32 → Int32 → Int64 → Int64 → Int32 → Int64 → Int32 → Int32 → Mem → Option (Int64 × Mem)} (hk106 : ∀ (x1 : Int32) (x2 : Int32) (x3 : Int32) (x4 : Int32) (x5 : Int32) (x6 : Int64) (x8 : Int64) (x10 : Int32) (x11 : Int64) (x13 : Int32) (x14 : Int32) (V : Mem) (H : Heap) (locs : List Loc) (ls : Array Slot), k106 x1 x2 x3 x4 x5 x6 x8 x10 x11 x13 x14 V = some o → OK g LM V s H locs → lv_has ls 16 [(0, .ref (ad g 0)), (1, .int x1), (2, .int x2), (3, .int x3), (4, .int x4), (5, .int x5), (6, .long x6), (8, .long x8), (10, .int x10), (11, .long x11), (13, .int x13), (14, .int x14)] → W p l e rm_X7_lost s m args below meth c H locs 0 0 (MQ below (QQ g LM (some (.long o.1)) o.2) args s 0 0 (Ar g LM)) (F0 m 106 ls [])) : ∀ (x1 : Int32) (x2 : Int32) (x3 : Int32) (x4 : Int32) (x5 : Int32) (x6 : Int64) (x8 : Int64) (x10 : Int32) (x11 : Int64) (x13 : Int32) (x14 : Int32) (V : Mem) (H : Heap) (locs : List Loc) (ls : Array Slot), f_X7_lost_183 k106 x1 x2 x3 x4 x5 x6 x8 x10 x11 x13 x14 V = some o → OK g LM V s H locs → lv_has ls 16 [(0, .ref (ad g 0)), (1, .int x1), (2, .int x2), (3, .int x3), (4, .int x4), (5, .int x5), (6, .long x6), (8, .long x8), (10, .int x10), (11, .long x11), (13, .int x13), (14, .int x14)] → W p l e rm_X7_lost s m args below meth c H locs 0 0 (MQ below (QQ g LM (some (.long o.1)) o.2) args s 0 0 (Ar g LM)) (F0 m 183 ls []) := by
  obtain ⟨hx, hb, hml, hown, hT, hr, hlk, hK, hJ, hZ, hN⟩ := id hB
  intro x1 x2 x3 x4 x5 x6 x8 x10 x11 x13 x14 V H locs ls hE hz hl
  unfold f_X7_lost_183 at hE
  refine lv_iinc (v := (x14 + 1)) (lv' := [(14, .int (x14 + 1)), (0, .ref (ad g 0)), (1, .int x1), (2, .int x2), (3, .int x3), (4, .int x4), (5, .int x5), (6, .long x6), (8, .long x8), (10, .int x10), (11, .long x11), (13, .int x13)]) hx hb dX7_lost_183 hl (k := 11) rfl rfl (by decide) rfl (fun ls hl => ?_)
  refine lv_goto (tgt := 106) hx hb dX7_lost_186 (by decide) ?_
  exact hk106 _ _ _ _ _ _ _ _ _ _ _ _ _ _ _  hE hz (lv_sub hl [1, 2, 3, 4, 5, 6, 7, 8, 9, 10, 11, 0] rfl)

set_option maxHeartbeats 4000000 in
set_option maxRecDepth 100000 in
theorem w_X7_lost_176_c6 {p : Program} {l : Launch} {e : Env} {s : State} {m : MethodId} {args : Array Value} {below : List Frame} {meth : Method} {c : Code} {g : GP} (hB : BX p s m args meth c g LM cX7_lost 16 RX7 (some .long)) {o : Int64 × Mem} {k106 : Int32 → Int32 → Int32 → Int32 → Int32 → Int64 → Int64 → Int32 → Int64 → Int32 → Int32 → Mem → Option (Int64 × Mem)} (hk106 : ∀ (x1 : Int32) (x2 : Int32) (x3 : Int32) (x4 : Int32) (x5 : Int32) (x6 : Int64) (x8 : Int64) (x10 : Int32) (x11 : Int64) (x13 : Int32) (x14 : Int32) (V : Mem) (H : Heap) (locs : List Loc) (ls : Array Slot), k106 x1 x2 x3 x4 x5 x6 x8 x10 x11 x13 x14 V = some o → OK g LM V s H locs → lv_has ls 16 [(0, .ref (ad g 0)), (1, .int x1), (2, .int x2), (3, .int x3), (4, .int x4), (5, .int x5), (6, .long x6), (8, .long x8), (10, .int x10), (11, .long x11), (13, .int x13), (14, .int x14)] → W p l e rm_X7_lost s m args below meth c H locs 0 0 (MQ below (QQ g LM (some (.long o.1)) o.2) args s 0 0 (Ar g LM)) (F0 m 106 ls [])) : ∀ (x1 : Int32) (x2 : Int32) (x3 : Int32) (x4 : Int32) (x5 : Int32) (x6 : Int64) (x8 : Int64) (x10 : Int32) (x11 : Int64) (x13 : Int32) (x14 : Int32) (s1 : Int32) (s2 : Int32) (V : Mem) (H : Heap) (locs : List Loc) (ls : Array Slot), f_X7_lost_176_c6 k106 x1 x2 x3 x4 x5 x6 x8 x10 x11 x13 x14 s1 s2 V = some o → OK g LM V s H locs → lv_has ls 16 [(0, .ref (ad g 0)), (1, .int x1), (2, .int x2), (3, .int x3), (4, .int x4), (5, .int x5), (6, .long x6), (8, .long x8), (10, .int x10), (11, .long x11), (13, .int x13), (14, .int x14)] → W p l e rm_X7_lost s m args below meth c H locs 0 0 (MQ below (QQ g LM (some (.long o.1)) o.2) args s 0 0 (Ar g LM)) (F0 m 176 ls [.int s2, .int s1, .ref (ad g 6)]) := by
  obtain ⟨hx, hb, hml, hown, hT, hr, hlk, hK, hJ, hZ, hN⟩ := id hB
  intro x1 x2 x3 x4 x5 x6 x8 x10 x11 x13 x14 s1 s2 V H locs ls hE hz hl
  unfold f_X7_lost_176_c6 at hE
  obtain ⟨hi176, hE⟩ := x_chk hE
  refine x_iast (n := 76) hB hz kdM_6 hi176 dX7_lost_176 (fun H locs hz => ?_)
  refine lv_iload hx hb dX7_lost_177 (lv_at hl 10 rfl) ?_
  refine lv_iconst (v := (1 : Int32)) hx hb dX7_lost_179 (by decide) ?_
  refine lv_ishr hx hb dX7_lost_180 ?_
  refine lv_istore (lv' := [(13, .int (x13 >>> ((1 : Int32) &&& 31))), (0, .ref (ad g 0)), (1, .int x1), (2, .int x2), (3, .int x3), (4, .int x4), (5, .int x5), (6, .long x6), (8, .long x8), (10, .int x10), (11, .long x11), (14, .int x14)]) hx hb dX7_lost_181 hl (by decide) rfl (fun ls hl => ?_)
  exact w_X7_lost_183 hB hk106 _ _ _ _ _ _ _ _ _ _ _ _ _ _ _  hE hz (lv_sub hl [1, 2, 3, 4, 5, 6, 7, 8, 9, 10, 0, 11] rfl)

set_option maxHeartbeats 4000000 in
set_option maxRecDepth 100000 in
theorem w_X7_lost_148 {p : Program} {l : Launch} {e : Env} {s : State} {m : MethodId} {args : Array Value} {below : List Frame} {meth : Method} {c : Code} {g : GP} (hB : BX p s m args meth c g LM cX7_lost 16 RX7 (some .long)) {o : Int64 × Mem} {k106 : Int32 → Int32 → Int32 → Int32 → Int32 → Int64 → Int64 → Int32 → Int64 → Int32 → Int32 → Mem → Option (Int64 × Mem)} (hk106 : ∀ (x1 : Int32) (x2 : Int32) (x3 : Int32) (x4 : Int32) (x5 : Int32) (x6 : Int64) (x8 : Int64) (x10 : Int32) (x11 : Int64) (x13 : Int32) (x14 : Int32) (V : Mem) (H : Heap) (locs : List Loc) (ls : Array Slot), k106 x1 x2 x3 x4 x5 x6 x8 x10 x11 x13 x14 V = some o → OK g LM V s H locs → lv_has ls 16 [(0, .ref (ad g 0)), (1, .int x1), (2, .int x2), (3, .int x3), (4, .int x4), (5, .int x5), (6, .long x6), (8, .long x8), (10, .int x10), (11, .long x11), (13, .int x13), (14, .int x14)] → W p l e rm_X7_lost s m args below meth c H locs 0 0 (MQ below (QQ g LM (some (.long o.1)) o.2) args s 0 0 (Ar g LM)) (F0 m 106 ls [])) : ∀ (x1 : Int32) (x2 : Int32) (x3 : Int32) (x4 : Int32) (x5 : Int32) (x6 : Int64) (x8 : Int64) (x10 : Int32) (x13 : Int32) (x14 : Int32) (s0 : Int64) (s1 : Int64) (V : Mem) (H : Heap) (locs : List Loc) (ls : Array Slot), f_X7_lost_148 k106 x1 x2 x3 x4 x5 x6 x8 x10 x13 x14 s0 s1 V = some o → OK g LM V s H locs → lv_has ls 16 [(0, .ref (ad g 0)), (1, .int x1), (2, .int x2), (3, .int x3), (4, .int x4), (5, .int x5), (6, .long x6), (8, .long x8), (10, .int x10), (13, .int x13), (14, .int x14)] → W p l e rm_X7_lost s m args below meth c H locs 0 0 (MQ below (QQ g LM (some (.long o.1)) o.2) args s 0 0 (Ar g LM)) (F0 m 148 ls [.long s1, .long s0]) := by
  obtain ⟨hx, hb, hml, hown, hT, hr, hlk, hK, hJ, hZ, hN⟩ := id hB
  intro x1 x2 x3 x4 x5 x6 x8 x10 x13 x14 s0 s1 V H locs ls hE hz hl
  unfold f_X7_lost_148 at hE
  refine lv_lmul hx hb dX7_lost_148 ?_
  refine lv_lstore (lv' := [(11, .long (s0 * s1)), (0, .ref (ad g 0)), (1, .int x1), (2, .int x2), (3, .int x3), (4, .int x4), (5, .int x5), (6, .long x6), (8, .long x8), (10, .int x10), (13, .int x13), (14, .int x14)]) hx hb dX7_lost_149 hl (by decide) rfl (fun ls hl => ?_)
  refine lv_aload_n hx hb dX7_lost_151 rfl (lv_at hl 1 rfl) ?_
  refine g_X7_25 hB hz kdM_0 dX7_lost_152 ?_
  refine lv_iconst (v := (4 : Int32)) hx hb dX7_lost_155 (by decide) ?_
  refine lv_iconst (v := (3 : Int32)) hx hb dX7_lost_156 (by decide) ?_
  refine lv_iload hx hb dX7_lost_157 (lv_at hl 11 rfl) ?_
  refine lv_imul hx hb dX7_lost_159 ?_
  refine lv_iadd hx hb dX7_lost_160 ?_
  refine lv_iconst (v := (0 : Int32)) hx hb dX7_lost_161 (by decide) ?_
  refine lv_iadd hx hb dX7_lost_162 ?_
  refine lv_iload hx hb dX7_lost_163 (lv_at hl 10 rfl) ?_
  refine lv_iconst (v := (1 : Int32)) hx hb dX7_lost_165 (by decide) ?_
  refine lv_iand hx hb dX7_lost_166 ?_
  refine lv_iconst (v := (1 : Int32)) hx hb dX7_lost_167 (by decide) ?_
  refine lv_icmp_ne (tgt := 175) hx hb dX7_lost_168 (by decide) (fun c168 => ?_) (fun c168 => ?_)
  · have hE := (if_neg c168).symm.trans hE
    refine lv_iconst (v := (2 : Int32)) hx hb dX7_lost_175 (by decide) ?_
    exact w_X7_lost_176_c6 hB hk106 _ _ _ _ _ _ _ _ _ _ _ _ _ _ _ _ _  hE hz (lv_sub hl [1, 2, 3, 4, 5, 6, 7, 8, 9, 0, 10, 11] rfl)
  · have hE := (if_pos c168).symm.trans hE
    refine lv_iconst (v := (1 : Int32)) hx hb dX7_lost_171 (by decide) ?_
    refine lv_goto (tgt := 176) hx hb dX7_lost_172 (by decide) ?_
    exact w_X7_lost_176_c6 hB hk106 _ _ _ _ _ _ _ _ _ _ _ _ _ _ _ _ _  hE hz (lv_sub hl [1, 2, 3, 4, 5, 6, 7, 8, 9, 0, 10, 11] rfl)

set_option maxHeartbeats 4000000 in
set_option maxRecDepth 100000 in
theorem w_X7_lost_106 {p : Program} {l : Launch} {e : Env} {s : State} {m : MethodId} {args : Array Value} {below : List Frame} {meth : Method} {c : Code} {g : GP} (hB : BX p s m args meth c g LM cX7_lost 16 RX7 (some .long)) {o : Int64 × Mem} {k80 : Int32 → Int32 → Int32 → Int32 → Int32 → Int64 → Int64 → Int32 → Mem → Option (Int64 × Mem)} (hk80 : ∀ (x1 : Int32) (x2 : Int32) (x3 : Int32) (x4 : Int32) (x5 : Int32) (x6 : Int64) (x8 : Int64) (x10 : Int32) (V : Mem) (H : Heap) (locs : List Loc) (ls : Array Slot), k80 x1 x2 x3 x4 x5 x6 x8 x10 V = some o → OK g LM V s H locs → lv_has ls 16 [(0, .ref (ad g 0)), (1, .int x1), (2, .int x2), (3, .int x3), (4, .int x4), (5, .int x5), (6, .long x6), (8, .long x8), (10, .int x10)] → W p l e rm_X7_lost s m args below meth c H locs 0 0 (MQ below (QQ g LM (some (.long o.1)) o.2) args s 0 0 (Ar g LM)) (F0 m 80 ls [])) : ∀ (n : Nat), ∀ (x1 : Int32) (x2 : Int32) (x3 : Int32) (x4 : Int32) (x5 : Int32) (x6 : Int64) (x8 : Int64) (x10 : Int32) (x11 : Int64) (x13 : Int32) (x14 : Int32) (V : Mem) (H : Heap) (locs : List Loc) (ls : Array Slot), f_X7_lost_106 k80 n x1 x2 x3 x4 x5 x6 x8 x10 x11 x13 x14 V = some o → OK g LM V s H locs → lv_has ls 16 [(0, .ref (ad g 0)), (1, .int x1), (2, .int x2), (3, .int x3), (4, .int x4), (5, .int x5), (6, .long x6), (8, .long x8), (10, .int x10), (11, .long x11), (13, .int x13), (14, .int x14)] → W p l e rm_X7_lost s m args below meth c H locs 0 0 (MQ below (QQ g LM (some (.long o.1)) o.2) args s 0 0 (Ar g LM)) (F0 m 106 ls []) := by
  obtain ⟨hx, hb, hml, hown, hT, hr, hlk, hK, hJ, hZ, hN⟩ := id hB
  intro n
  induction n with
  | zero =>
    intro x1 x2 x3 x4 x5 x6 x8 x10 x11 x13 x14 V H locs ls hE hz hl
    exact absurd (show (none : Option (Int64 × Mem)) = some o from hE) (by simp)
  | succ n ih =>
    intro x1 x2 x3 x4 x5 x6 x8 x10 x11 x13 x14 V H locs ls hE hz hl
    unfold f_X7_lost_106 at hE
    refine lv_iload hx hb dX7_lost_106 (lv_at hl 11 rfl) ?_
    refine lv_aload_n hx hb dX7_lost_108 rfl (lv_at hl 0 rfl) ?_
    refine g_X7_19 hB hz kdM_0 dX7_lost_109 ?_
    refine lv_iconst (v := (0 : Int32)) hx hb dX7_lost_112 (by decide) ?_
    obtain ⟨hi113, hE⟩ := x_chk hE
    refine x_iald (n := 76) hB hz kdM_4 hi113 dX7_lost_113 ?_
    refine lv_icmp_ge (tgt := 189) hx hb dX7_lost_114 (by decide) (fun c114 => ?_) (fun c114 => ?_)
    · have hE := (if_pos c114).symm.trans hE
      refine lv_aload_n hx hb dX7_lost_189 rfl (lv_at hl 0 rfl) ?_
      refine lv_aload_n hx hb dX7_lost_190 rfl (lv_at hl 0 rfl) ?_
      refine g_X7_25 hB hz kdM_0 dX7_lost_191 ?_
      obtain ⟨q194, hq194, hE⟩ := x_bind hE
      refine i_X7_231 hB hz kdM_0 (c_X7_countAll l g kdM_6 hq194) ⟨(Nat.le_of_ble_eq_true rfl), (Nat.le_of_ble_eq_true rfl)⟩ hl.1 (Nat.le_of_ble_eq_true rfl) dX7_lost_194 (fun H locs hz => ?_)
      refine lv_lload hx hb dX7_lost_197 (lv_at hl 7 rfl) ?_
      refine lv_lload hx hb dX7_lost_199 (lv_at hl 9 rfl) ?_
      refine lv_ladd hx hb dX7_lost_201 ?_
      refine lv_lstore (lv' := [(8, .long (x8 + x11)), (0, .ref (ad g 0)), (1, .int x1), (2, .int x2), (3, .int x3), (4, .int x4), (5, .int x5), (6, .long x6), (10, .int x10), (11, .long x11), (13, .int x13), (14, .int x14)]) hx hb dX7_lost_202 hl (by decide) rfl (fun ls hl => ?_)
      refine lv_lload hx hb dX7_lost_204 (lv_at hl 7 rfl) ?_
      refine lv_aload_n hx hb dX7_lost_206 rfl (lv_at hl 1 rfl) ?_
      refine lv_aload_n hx hb dX7_lost_207 rfl (lv_at hl 1 rfl) ?_
      refine g_X7_25 hB hz kdM_0 dX7_lost_208 ?_
      refine lv_iload_n hx hb dX7_lost_211 rfl (lv_at hl 2 rfl) ?_
      obtain ⟨q212, hq212, hE⟩ := x_bind hE
      refine i_X7_269 hB hz kdM_0 (c_X7_ownOf l g kdM_6 hq212) ⟨(Nat.le_of_ble_eq_true rfl), (Nat.le_of_ble_eq_true rfl)⟩ hl.1 (Nat.le_of_ble_eq_true rfl) dX7_lost_212 (fun H locs hz => ?_)
      refine lv_iload_n hx hb dX7_lost_215 rfl (lv_at hl 3 rfl) ?_
      refine lv_icmp_ne (tgt := 224) hx hb dX7_lost_216 (by decide) (fun c216 => ?_) (fun c216 => ?_)
      · have hE := (if_neg c216).symm.trans hE
        refine lv_lconst (v := (0 : Int64)) hx hb dX7_lost_224 (by decide) ?_
        exact w_X7_lost_225 hB hk80 _ _ _ _ _ _ _ _ _ _ _ _ _  hE hz (lv_sub hl [1, 2, 3, 4, 5, 6, 0, 8] rfl)
      · have hE := (if_pos c216).symm.trans hE
        refine lv_lload hx hb dX7_lost_219 (lv_at hl 9 rfl) ?_
        refine lv_goto (tgt := 225) hx hb dX7_lost_221 (by decide) ?_
        exact w_X7_lost_225 hB hk80 _ _ _ _ _ _ _ _ _ _ _ _ _  hE hz (lv_sub hl [1, 2, 3, 4, 5, 6, 0, 8] rfl)
    · have hE := (if_neg c114).symm.trans hE
      refine lv_iload hx hb dX7_lost_117 (lv_at hl 5 rfl) ?_
      refine lv_iload hx hb dX7_lost_119 (lv_at hl 11 rfl) ?_
      obtain ⟨q121, hq121, hE⟩ := x_bind hE
      refine i_X7_288 hB hz (c_X7_has l g  hq121) ⟨(Nat.le_of_ble_eq_true rfl), (Nat.le_of_ble_eq_true rfl)⟩ hl.1 (Nat.le_of_ble_eq_true rfl) dX7_lost_121 (fun H locs hz => ?_)
      refine lv_if_eq (tgt := 183) hx hb dX7_lost_124 (by decide) (fun c124 => ?_) (fun c124 => ?_)
      · have hE := (if_pos c124).symm.trans hE
        exact w_X7_lost_183 hB ih _ _ _ _ _ _ _ _ _ _ _ _ _ _ _  hE hz (lv_sub hl [0, 1, 2, 3, 4, 5, 6, 7, 8, 9, 10, 11] rfl)
      · have hE := (if_neg c124).symm.trans hE
        refine lv_lload hx hb dX7_lost_127 (lv_at hl 9 rfl) ?_
        refine lv_iload hx hb dX7_lost_129 (lv_at hl 10 rfl) ?_
        refine lv_iconst (v := (1 : Int32)) hx hb dX7_lost_131 (by decide) ?_
        refine lv_iand hx hb dX7_lost_132 ?_
        refine lv_iconst (v := (1 : Int32)) hx hb dX7_lost_133 (by decide) ?_
        refine lv_icmp_ne (tgt := 142) hx hb dX7_lost_134 (by decide) (fun c134 => ?_) (fun c134 => ?_)
        · have hE := (if_neg c134).symm.trans hE
          refine lv_ldc2 (v := (10 : Int64)) hx hb hown (hT _ kw_1089) dX7_lost_142 ?_
          refine lv_iload_n hx hb dX7_lost_145 rfl (lv_at hl 3 rfl) ?_
          refine lv_i2l hx hb dX7_lost_146 rfl ?_
          refine lv_lsub hx hb dX7_lost_147 ?_
          exact w_X7_lost_148 hB ih _ _ _ _ _ _ _ _ _ _ _ _ _ _ _ _  hE hz (lv_sub hl [0, 1, 2, 3, 4, 5, 6, 7, 8, 10, 11] rfl)
        · have hE := (if_pos c134).symm.trans hE
          refine lv_iload_n hx hb dX7_lost_137 rfl (lv_at hl 3 rfl) ?_
          refine lv_i2l hx hb dX7_lost_138 rfl ?_
          refine lv_goto (tgt := 148) hx hb dX7_lost_139 (by decide) ?_
          exact w_X7_lost_148 hB ih _ _ _ _ _ _ _ _ _ _ _ _ _ _ _ _  hE hz (lv_sub hl [0, 1, 2, 3, 4, 5, 6, 7, 8, 10, 11] rfl)

set_option maxHeartbeats 4000000 in
set_option maxRecDepth 100000 in
theorem w_X7_lost_80 {p : Program} {l : Launch} {e : Env} {s : State} {m : MethodId} {args : Array Value} {below : List Frame} {meth : Method} {c : Code} {g : GP} (hB : BX p s m args meth c g LM cX7_lost 16 RX7 (some .long)) {o : Int64 × Mem} : ∀ (n : Nat), ∀ (x1 : Int32) (x2 : Int32) (x3 : Int32) (x4 : Int32) (x5 : Int32) (x6 : Int64) (x8 : Int64) (x10 : Int32) (V : Mem) (H : Heap) (locs : List Loc) (ls : Array Slot), f_X7_lost_80 n x1 x2 x3 x4 x5 x6 x8 x10 V = some o → OK g LM V s H locs → lv_has ls 16 [(0, .ref (ad g 0)), (1, .int x1), (2, .int x2), (3, .int x3), (4, .int x4), (5, .int x5), (6, .long x6), (8, .long x8), (10, .int x10)] → W p l e rm_X7_lost s m args below meth c H locs 0 0 (MQ below (QQ g LM (some (.long o.1)) o.2) args s 0 0 (Ar g LM)) (F0 m 80 ls []) := by
  obtain ⟨hx, hb, hml, hown, hT, hr, hlk, hK, hJ, hZ, hN⟩ := id hB
  intro n
  induction n with
  | zero =>
    intro x1 x2 x3 x4 x5 x6 x8 x10 V H locs ls hE hz hl
    exact absurd (show (none : Option (Int64 × Mem)) = some o from hE) (by simp)
  | succ n ih =>
    intro x1 x2 x3 x4 x5 x6 x8 x10 V H locs ls hE hz hl
    unfold f_X7_lost_80 at hE
    refine lv_iload hx hb dX7_lost_80 (lv_at hl 8 rfl) ?_
    refine lv_iconst (v := (1 : Int32)) hx hb dX7_lost_82 (by decide) ?_
    refine lv_iload hx hb dX7_lost_83 (lv_at hl 5 rfl) ?_
    obtain ⟨q85, hq85, hE⟩ := x_bind hE
    refine i_X7_283 hB hz (c_X7_bits l g  hq85) ⟨(Nat.le_of_ble_eq_true rfl), (Nat.le_of_ble_eq_true rfl)⟩ hl.1 (Nat.le_of_ble_eq_true rfl) dX7_lost_85 (fun H locs hz => ?_)
    refine lv_ishl hx hb dX7_lost_88 ?_
    refine lv_icmp_ge (tgt := 234) hx hb dX7_lost_89 (by decide) (fun c89 => ?_) (fun c89 => ?_)
    · have hE := (if_pos c89).symm.trans hE
      refine lv_lload hx hb dX7_lost_234 (lv_at hl 6 rfl) ?_
      refine lv_lstore (lv' := [(10, .long x6), (0, .ref (ad g 0)), (1, .int x1), (2, .int x2), (3, .int x3), (4, .int x4), (5, .int x5), (6, .long x6), (8, .long x8)]) hx hb dX7_lost_236 hl (by decide) rfl (fun ls hl => ?_)
      refine lv_lload hx hb dX7_lost_238 (lv_at hl 8 rfl) ?_
      refine lv_lstore (lv' := [(12, .long x8), (10, .long x6), (0, .ref (ad g 0)), (1, .int x1), (2, .int x2), (3, .int x3), (4, .int x4), (5, .int x5), (6, .long x6), (8, .long x8)]) hx hb dX7_lost_240 hl (by decide) rfl (fun ls hl => ?_)
      exact w_X7_lost_242 hB  _ _ _ _ _ _ _ _ _ _  hE hz (lv_sub hl [6, 8, 9, 1, 0] rfl)
    · have hE := (if_neg c89).symm.trans hE
      refine lv_lconst (v := (1 : Int64)) hx hb dX7_lost_92 (by decide) ?_
      refine lv_lstore (lv' := [(11, .long (1 : Int64)), (0, .ref (ad g 0)), (1, .int x1), (2, .int x2), (3, .int x3), (4, .int x4), (5, .int x5), (6, .long x6), (8, .long x8), (10, .int x10)]) hx hb dX7_lost_93 hl (by decide) rfl (fun ls hl => ?_)
      refine lv_iload hx hb dX7_lost_95 (lv_at hl 9 rfl) ?_
      refine lv_istore (lv' := [(13, .int x10), (11, .long (1 : Int64)), (0, .ref (ad g 0)), (1, .int x1), (2, .int x2), (3, .int x3), (4, .int x4), (5, .int x5), (6, .long x6), (8, .long x8), (10, .int x10)]) hx hb dX7_lost_97 hl (by decide) rfl (fun ls hl => ?_)
      refine lv_aload_n hx hb dX7_lost_99 rfl (lv_at hl 2 rfl) ?_
      obtain ⟨q100, hq100, hE⟩ := x_bind hE
      refine i_X7_257 hB hz kdM_0 (c_X7_layThen l g  hq100) ⟨(Nat.le_of_ble_eq_true rfl), (Nat.le_of_ble_eq_true rfl)⟩ hl.1 (Nat.le_of_ble_eq_true rfl) dX7_lost_100 (fun H locs hz => ?_)
      refine lv_iconst (v := (0 : Int32)) hx hb dX7_lost_103 (by decide) ?_
      refine lv_istore (lv' := [(14, .int (0 : Int32)), (13, .int x10), (11, .long (1 : Int64)), (0, .ref (ad g 0)), (1, .int x1), (2, .int x2), (3, .int x3), (4, .int x4), (5, .int x5), (6, .long x6), (8, .long x8), (10, .int x10)]) hx hb dX7_lost_104 hl (by decide) rfl (fun ls hl => ?_)
      exact w_X7_lost_106 hB ih _ _ _ _ _ _ _ _ _ _ _ _ _ _ _ _  hE hz (lv_sub hl [3, 4, 5, 6, 7, 8, 9, 10, 11, 2, 1, 0] rfl)

set_option maxHeartbeats 4000000 in
set_option maxRecDepth 100000 in
theorem w_X7_lost {p : Program} {l : Launch} {e : Env} {s : State} {m : MethodId} {args : Array Value} {below : List Frame} {meth : Method} {c : Code} {g : GP} (hB : BX p s m args meth c g LM cX7_lost 16 RX7 (some .long)) {o : Int64 × Mem} : ∀ (x1 : Int32) (x2 : Int32) (x3 : Int32) (x4 : Int32) (V : Mem) (H : Heap) (locs : List Loc) (ls : Array Slot), f_X7_lost x1 x2 x3 x4 V = some o → OK g LM V s H locs → lv_has ls 16 [(0, .ref (ad g 0)), (1, .int x1), (2, .int x2), (3, .int x3), (4, .int x4)] → W p l e rm_X7_lost s m args below meth c H locs 0 0 (MQ below (QQ g LM (some (.long o.1)) o.2) args s 0 0 (Ar g LM)) (F0 m 0 ls []) := by
  obtain ⟨hx, hb, hml, hown, hT, hr, hlk, hK, hJ, hZ, hN⟩ := id hB
  intro x1 x2 x3 x4 V H locs ls hE hz hl
  unfold f_X7_lost at hE
  refine lv_aload_n hx hb dX7_lost_0 rfl (lv_at hl 0 rfl) ?_
  refine lv_iconst (v := (0 : Int32)) hx hb dX7_lost_1 (by decide) ?_
  refine p_X7_59 hB hz kdM_0 dX7_lost_2 (fun H locs hz => ?_)
  refine lv_aload_n hx hb dX7_lost_5 rfl (lv_at hl 0 rfl) ?_
  refine lv_iload_n hx hb dX7_lost_6 rfl (lv_at hl 1 rfl) ?_
  obtain ⟨q7, hq7, hE⟩ := x_bind hE
  refine i_X7_222 hB hz kdM_0 (c_X7_isParagraph l g  hq7) ⟨(Nat.le_of_ble_eq_true rfl), (Nat.le_of_ble_eq_true rfl)⟩ hl.1 (Nat.le_of_ble_eq_true rfl) dX7_lost_7 (fun H locs hz => ?_)
  refine lv_if_eq (tgt := 48) hx hb dX7_lost_10 (by decide) (fun c10 => ?_) (fun c10 => ?_)
  · have hE := (if_pos c10).symm.trans hE
    exact w_X7_lost_48 hB   _ _ _ _  hE hz (lv_sub hl [] rfl)
  · have hE := (if_neg c10).symm.trans hE
    refine lv_iload_n hx hb dX7_lost_13 rfl (lv_at hl 2 rfl) ?_
    refine lv_i2l hx hb dX7_lost_14 rfl ?_
    refine lv_lconst (v := (0 : Int64)) hx hb dX7_lost_15 (by decide) ?_
    refine lv_ldc2 (v := (99 : Int64)) hx hb hown (hT _ kw_1061) dX7_lost_16 ?_
    obtain ⟨q19, hq19, hE⟩ := x_bind hE
    refine i_X7_69 hB hz (c_X7_in l g  hq19) ⟨(Nat.le_of_ble_eq_true rfl), (Nat.le_of_ble_eq_true rfl)⟩ hl.1 (Nat.le_of_ble_eq_true rfl) dX7_lost_19 (fun H locs hz => ?_)
    refine lv_if_eq (tgt := 48) hx hb dX7_lost_22 (by decide) (fun c22 => ?_) (fun c22 => ?_)
    · have hE := (if_pos c22).symm.trans hE
      exact w_X7_lost_48 hB   _ _ _ _  hE hz (lv_sub hl [] rfl)
    · have hE := (if_neg c22).symm.trans hE
      refine lv_iload_n hx hb dX7_lost_25 rfl (lv_at hl 3 rfl) ?_
      refine lv_i2l hx hb dX7_lost_26 rfl ?_
      refine lv_lconst (v := (0 : Int64)) hx hb dX7_lost_27 (by decide) ?_
      refine lv_ldc2 (v := (10 : Int64)) hx hb hown (hT _ kw_1089) dX7_lost_28 ?_
      obtain ⟨q31, hq31, hE⟩ := x_bind hE
      refine i_X7_69 hB hz (c_X7_in l g  hq31) ⟨(Nat.le_of_ble_eq_true rfl), (Nat.le_of_ble_eq_true rfl)⟩ hl.1 (Nat.le_of_ble_eq_true rfl) dX7_lost_31 (fun H locs hz => ?_)
      refine lv_if_eq (tgt := 48) hx hb dX7_lost_34 (by decide) (fun c34 => ?_) (fun c34 => ?_)
      · have hE := (if_pos c34).symm.trans hE
        exact w_X7_lost_48 hB   _ _ _ _  hE hz (lv_sub hl [] rfl)
      · have hE := (if_neg c34).symm.trans hE
        refine lv_iload hx hb dX7_lost_37 (lv_at hl 4 rfl) ?_
        refine lv_i2l hx hb dX7_lost_39 rfl ?_
        refine lv_lconst (v := (0 : Int64)) hx hb dX7_lost_40 (by decide) ?_
        refine lv_lconst (v := (1 : Int64)) hx hb dX7_lost_41 (by decide) ?_
        obtain ⟨q42, hq42, hE⟩ := x_bind hE
        refine i_X7_69 hB hz (c_X7_in l g  hq42) ⟨(Nat.le_of_ble_eq_true rfl), (Nat.le_of_ble_eq_true rfl)⟩ hl.1 (Nat.le_of_ble_eq_true rfl) dX7_lost_42 (fun H locs hz => ?_)
        refine lv_if_ne (tgt := 52) hx hb dX7_lost_45 (by decide) (fun c45 => ?_) (fun c45 => ?_)
        · have hE := (if_neg c45).symm.trans hE
          refine lv_aload_n hx hb dX7_lost_52 rfl (lv_at hl 0 rfl) ?_
          obtain ⟨q53, hq53, hE⟩ := x_bind hE
          refine i_X7_280 hB hz kdM_0 (c_X7_restarts l g  hq53) ⟨(Nat.le_of_ble_eq_true rfl), (Nat.le_of_ble_eq_true rfl)⟩ hl.1 (Nat.le_of_ble_eq_true rfl) dX7_lost_53 (fun H locs hz => ?_)
          refine lv_istore (lv' := [(5, .int q53.1), (0, .ref (ad g 0)), (1, .int x1), (2, .int x2), (3, .int x3), (4, .int x4)]) hx hb dX7_lost_56 hl (by decide) rfl (fun ls hl => ?_)
          refine lv_iload hx hb dX7_lost_58 (lv_at hl 0 rfl) ?_
          obtain ⟨q60, hq60, hE⟩ := x_bind hE
          refine i_X7_283 hB hz (c_X7_bits l g  hq60) ⟨(Nat.le_of_ble_eq_true rfl), (Nat.le_of_ble_eq_true rfl)⟩ hl.1 (Nat.le_of_ble_eq_true rfl) dX7_lost_60 (fun H locs hz => ?_)
          refine lv_iconst (v := (5 : Int32)) hx hb dX7_lost_63 (by decide) ?_
          refine lv_icmp_le (tgt := 71) hx hb dX7_lost_64 (by decide) (fun c64 => ?_) (fun c64 => ?_)
          · have hE := (if_pos c64).symm.trans hE
            refine lv_lconst (v := (0 : Int64)) hx hb dX7_lost_71 (by decide) ?_
            refine lv_lstore (lv' := [(6, .long (0 : Int64)), (5, .int q53.1), (0, .ref (ad g 0)), (1, .int x1), (2, .int x2), (3, .int x3), (4, .int x4)]) hx hb dX7_lost_72 hl (by decide) rfl (fun ls hl => ?_)
            refine lv_lconst (v := (0 : Int64)) hx hb dX7_lost_74 (by decide) ?_
            refine lv_lstore (lv' := [(8, .long (0 : Int64)), (6, .long (0 : Int64)), (5, .int q53.1), (0, .ref (ad g 0)), (1, .int x1), (2, .int x2), (3, .int x3), (4, .int x4)]) hx hb dX7_lost_75 hl (by decide) rfl (fun ls hl => ?_)
            refine lv_iconst (v := (0 : Int32)) hx hb dX7_lost_77 (by decide) ?_
            refine lv_istore (lv' := [(10, .int (0 : Int32)), (8, .long (0 : Int64)), (6, .long (0 : Int64)), (5, .int q53.1), (0, .ref (ad g 0)), (1, .int x1), (2, .int x2), (3, .int x3), (4, .int x4)]) hx hb dX7_lost_78 hl (by decide) rfl (fun ls hl => ?_)
            exact w_X7_lost_80 hB  _ _ _ _ _ _ _ _ _ _ _ _ _  hE hz (lv_sub hl [4, 5, 6, 7, 8, 3, 2, 1, 0] rfl)
          · have hE := (if_neg c64).symm.trans hE
            refine lv_ldc2 (v := (-1000003 : Int64)) hx hb hown (hT _ kw_1098) dX7_lost_67 ?_
            exact x_lret hB hz hE dX7_lost_70
        · have hE := (if_pos c45).symm.trans hE
          exact w_X7_lost_48 hB   _ _ _ _  hE hz (lv_sub hl [] rfl)
theorem c_X7_lost (l : Launch) (g : GP) {x1 : Int32} {x2 : Int32} {x3 : Int32} {x4 : Int32} {V : Mem} {o : Int64 × Mem} (hE : f_X7_lost x1 x2 x3 x4 V = some o) : CT l g LM yX7_lost cX7_lost 16 (some .long) rm_X7_lost [.ref (ad g 0), .int x1, .int x2, .int x3, .int x4] V (some (.long o.1)) o.2 := by
  refine ct_of (by decide) (Nat.le_of_ble_eq_true rfl) ?_
  intro p e s m args below meth c ls hB hz hl
  exact w_X7_lost hB _ _ _ _ _ _ _ _  hE hz hl
def rm_X7_drawn : Room := { frames := 3, cells := 0, slots := 0, locals := 71 }
theorem i_X7_309 {p : Program} {l : Launch} {e : Env} {R : Room} {s : State} {m : MethodId} {args : Array Value} {below : List Frame} {meth : Method} {c : Code} {H : Heap} {locs : List Loc} {Q : State → Prop} {cc : ByteArray} {pc : Nat} {ls : Array Slot} {rest : List Value} {g : GP} {V : Mem} {nL : Nat} {ret : Option FieldType} (hB : BX p s m args meth c g LM cc nL RX7 ret) (hz : OK g LM V s H locs) {i : Nat} (hk : KD LM i 6) {a0 : Nat} {r : Int32} {V1 : Mem} (hM : CT l g LM yX7_lastTogether cX7_lastTogether 3 (some .int) rm_X7_lastTogether [.ref (ad g i), .ref (ad g a0)] V (some (.int r)) V1) (hR : rm_X7_lastTogether.frames + 1 ≤ R.frames ∧ 8 + (3 + 11) + rm_X7_lastTogether.locals ≤ R.locals) (hsz : ls.size = nL) (hrest : (rest.map fun v => v.category).sum ≤ 8) (hdg : decode cc pc = .ok (.invokevirtual 309, 3)) (kk : ∀ (H1 : Heap) (locs1 : List Loc), OK g LM V1 s H1 locs1 → W p l e R s m args below meth c H1 locs1 0 0 Q (F0 m (pc + 3) ls (.int r :: rest))) : W p l e R s m args below meth c H locs 0 0 Q (F0 m pc ls (.ref (ad g a0) :: .ref (ad g i) :: rest)) :=
  x_cv (As := [.ref (ad g a0)]) (n := 1) (T := TX7) (N := 30) hB hz hM hk rfl rfl rfl rfl kw_1118 kw_68 kw_1115 kw_1117 kw_55 (by decide +kernel) rfl hR hsz hrest hdg kk
set_option maxHeartbeats 4000000 in
set_option maxRecDepth 100000 in
theorem w_X7_drawn_186 {p : Program} {l : Launch} {e : Env} {s : State} {m : MethodId} {args : Array Value} {below : List Frame} {meth : Method} {c : Code} {g : GP} (hB : BX p s m args meth c g LM cX7_drawn 8 RX7 (some .int)) {o : Int32 × Mem} {k63 : Int32 → Int32 → Int64 → Int32 → Mem → Option (Int32 × Mem)} (hk63 : ∀ (x1 : Int32) (x3 : Int32) (x4 : Int64) (x6 : Int32) (V : Mem) (H : Heap) (locs : List Loc) (ls : Array Slot), k63 x1 x3 x4 x6 V = some o → OK g LM V s H locs → lv_has ls 8 [(0, .ref (ad g 0)), (1, .int x1), (3, .int x3), (4, .long x4), (6, .int x6)] → W p l e rm_X7_drawn s m args below meth c H locs 0 0 (MQ below (QQ g LM (some (.int o.1)) o.2) args s 0 0 (Ar g LM)) (F0 m 63 ls [])) : ∀ (x1 : Int32) (x3 : Int32) (x4 : Int64) (x6 : Int32) (V : Mem) (H : Heap) (locs : List Loc) (ls : Array Slot), f_X7_drawn_186 k63 x1 x3 x4 x6 V = some o → OK g LM V s H locs → lv_has ls 8 [(0, .ref (ad g 0)), (1, .int x1), (3, .int x3), (4, .long x4), (6, .int x6)] → W p l e rm_X7_drawn s m args below meth c H locs 0 0 (MQ below (QQ g LM (some (.int o.1)) o.2) args s 0 0 (Ar g LM)) (F0 m 186 ls []) := by
  obtain ⟨hx, hb, hml, hown, hT, hr, hlk, hK, hJ, hZ, hN⟩ := id hB
  intro x1 x3 x4 x6 V H locs ls hE hz hl
  unfold f_X7_drawn_186 at hE
  refine lv_iinc (v := (x6 + 1)) (lv' := [(6, .int (x6 + 1)), (0, .ref (ad g 0)), (1, .int x1), (3, .int x3), (4, .long x4)]) hx hb dX7_drawn_186 hl (k := 4) rfl rfl (by decide) rfl (fun ls hl => ?_)
  refine lv_goto (tgt := 63) hx hb dX7_drawn_189 (by decide) ?_
  exact hk63 _ _ _ _ _ _ _ _  hE hz (lv_sub hl [1, 2, 3, 4, 0] rfl)

set_option maxHeartbeats 4000000 in
set_option maxRecDepth 100000 in
theorem w_X7_drawn_167 {p : Program} {l : Launch} {e : Env} {s : State} {m : MethodId} {args : Array Value} {below : List Frame} {meth : Method} {c : Code} {g : GP} (hB : BX p s m args meth c g LM cX7_drawn 8 RX7 (some .int)) {o : Int32 × Mem} {k63 : Int32 → Int32 → Int64 → Int32 → Mem → Option (Int32 × Mem)} (hk63 : ∀ (x1 : Int32) (x3 : Int32) (x4 : Int64) (x6 : Int32) (V : Mem) (H : Heap) (locs : List Loc) (ls : Array Slot), k63 x1 x3 x4 x6 V = some o → OK g LM V s H locs → lv_has ls 8 [(0, .ref (ad g 0)), (1, .int x1), (3, .int x3), (4, .long x4), (6, .int x6)] → W p l e rm_X7_drawn s m args below meth c H locs 0 0 (MQ below (QQ g LM (some (.int o.1)) o.2) args s 0 0 (Ar g LM)) (F0 m 63 ls [])) : ∀ (x1 : Int32) (x3 : Int32) (x4 : Int64) (x6 : Int32) (x7 : Int32) (V : Mem) (H : Heap) (locs : List Loc) (ls : Array Slot), f_X7_drawn_167 k63 x1 x3 x4 x6 x7 V = some o → OK g LM V s H locs → lv_has ls 8 [(0, .ref (ad g 0)), (1, .int x1), (3, .int x3), (4, .long x4), (6, .int x6), (7, .int x7)] → W p l e rm_X7_drawn s m args below meth c H locs 0 0 (MQ below (QQ g LM (some (.int o.1)) o.2) args s 0 0 (Ar g LM)) (F0 m 167 ls []) := by
  obtain ⟨hx, hb, hml, hown, hT, hr, hlk, hK, hJ, hZ, hN⟩ := id hB
  intro x1 x3 x4 x6 x7 V H locs ls hE hz hl
  unfold f_X7_drawn_167 at hE
  refine lv_aload_n hx hb dX7_drawn_167 rfl (lv_at hl 0 rfl) ?_
  refine g_X7_25 hB hz kdM_0 dX7_drawn_168 ?_
  refine lv_iconst (v := (0 : Int32)) hx hb dX7_drawn_171 (by decide) ?_
  obtain ⟨hi172, hE⟩ := x_chk hE
  refine x_iald (n := 76) hB hz kdM_6 hi172 dX7_drawn_172 ?_
  refine lv_iconst (v := (1 : Int32)) hx hb dX7_drawn_173 (by decide) ?_
  refine lv_icmp_le (tgt := 186) hx hb dX7_drawn_174 (by decide) (fun c174 => ?_) (fun c174 => ?_)
  · have hE := (if_pos c174).symm.trans hE
    exact w_X7_drawn_186 hB hk63 _ _ _ _ _ _ _ _  hE hz (lv_sub hl [0, 1, 2, 3, 4] rfl)
  · have hE := (if_neg c174).symm.trans hE
    refine lv_aload_n hx hb dX7_drawn_177 rfl (lv_at hl 0 rfl) ?_
    refine g_X7_25 hB hz kdM_0 dX7_drawn_178 ?_
    refine lv_iload hx hb dX7_drawn_181 (lv_at hl 5 rfl) ?_
    obtain ⟨q183, hq183, hE⟩ := x_bind hE
    refine i_X7_201 hB hz (c_X7_takeOut l g kdM_6 hq183) ⟨(Nat.le_of_ble_eq_true rfl), (Nat.le_of_ble_eq_true rfl)⟩ hl.1 (Nat.le_of_ble_eq_true rfl) dX7_drawn_183 (fun H locs hz => ?_)
    exact w_X7_drawn_186 hB hk63 _ _ _ _ _ _ _ _  hE hz (lv_sub hl [0, 1, 2, 3, 4] rfl)

set_option maxHeartbeats 4000000 in
set_option maxRecDepth 100000 in
theorem w_X7_drawn_63 {p : Program} {l : Launch} {e : Env} {s : State} {m : MethodId} {args : Array Value} {below : List Frame} {meth : Method} {c : Code} {g : GP} (hB : BX p s m args meth c g LM cX7_drawn 8 RX7 (some .int)) {o : Int32 × Mem} : ∀ (n : Nat), ∀ (x1 : Int32) (x3 : Int32) (x4 : Int64) (x6 : Int32) (V : Mem) (H : Heap) (locs : List Loc) (ls : Array Slot), f_X7_drawn_63 n x1 x3 x4 x6 V = some o → OK g LM V s H locs → lv_has ls 8 [(0, .ref (ad g 0)), (1, .int x1), (3, .int x3), (4, .long x4), (6, .int x6)] → W p l e rm_X7_drawn s m args below meth c H locs 0 0 (MQ below (QQ g LM (some (.int o.1)) o.2) args s 0 0 (Ar g LM)) (F0 m 63 ls []) := by
  obtain ⟨hx, hb, hml, hown, hT, hr, hlk, hK, hJ, hZ, hN⟩ := id hB
  intro n
  induction n with
  | zero =>
    intro x1 x3 x4 x6 V H locs ls hE hz hl
    exact absurd (show (none : Option (Int32 × Mem)) = some o from hE) (by simp)
  | succ n ih =>
    intro x1 x3 x4 x6 V H locs ls hE hz hl
    unfold f_X7_drawn_63 at hE
    refine lv_iload hx hb dX7_drawn_63 (lv_at hl 4 rfl) ?_
    refine lv_iload_n hx hb dX7_drawn_65 rfl (lv_at hl 1 rfl) ?_
    refine lv_icmp_ge (tgt := 192) hx hb dX7_drawn_66 (by decide) (fun c66 => ?_) (fun c66 => ?_)
    · have hE := (if_pos c66).symm.trans hE
      refine lv_aload_n hx hb dX7_drawn_192 rfl (lv_at hl 0 rfl) ?_
      refine lv_aload_n hx hb dX7_drawn_193 rfl (lv_at hl 0 rfl) ?_
      refine g_X7_25 hB hz kdM_0 dX7_drawn_194 ?_
      obtain ⟨q197, hq197, hE⟩ := x_bind hE
      refine i_X7_231 hB hz kdM_0 (c_X7_countAll l g kdM_6 hq197) ⟨(Nat.le_of_ble_eq_true rfl), (Nat.le_of_ble_eq_true rfl)⟩ hl.1 (Nat.le_of_ble_eq_true rfl) dX7_drawn_197 (fun H locs hz => ?_)
      refine lv_iload_n hx hb dX7_drawn_200 rfl (lv_at hl 2 rfl) ?_
      refine lv_if_ne (tgt := 213) hx hb dX7_drawn_201 (by decide) (fun c201 => ?_) (fun c201 => ?_)
      · have hE := (if_neg c201).symm.trans hE
        refine lv_aload_n hx hb dX7_drawn_213 rfl (lv_at hl 0 rfl) ?_
        refine lv_aload_n hx hb dX7_drawn_214 rfl (lv_at hl 0 rfl) ?_
        refine g_X7_25 hB hz kdM_0 dX7_drawn_215 ?_
        obtain ⟨q218, hq218, hE⟩ := x_bind hE
        refine i_X7_309 hB hz kdM_0 (c_X7_lastTogether l g kdM_6 hq218) ⟨(Nat.le_of_ble_eq_true rfl), (Nat.le_of_ble_eq_true rfl)⟩ hl.1 (Nat.le_of_ble_eq_true rfl) dX7_drawn_218 (fun H locs hz => ?_)
        exact x_iret hB hz hE dX7_drawn_221
      · have hE := (if_pos c201).symm.trans hE
        refine lv_aload_n hx hb dX7_drawn_204 rfl (lv_at hl 0 rfl) ?_
        refine g_X7_25 hB hz kdM_0 dX7_drawn_205 ?_
        refine lv_iconst (v := (0 : Int32)) hx hb dX7_drawn_208 (by decide) ?_
        obtain ⟨hi209, hE⟩ := x_chk hE
        refine x_iald (n := 76) hB hz kdM_6 hi209 dX7_drawn_209 ?_
        refine lv_goto (tgt := 221) hx hb dX7_drawn_210 (by decide) ?_
        exact x_iret hB hz hE dX7_drawn_221
    · have hE := (if_neg c66).symm.trans hE
      refine lv_lload hx hb dX7_drawn_69 (lv_at hl 3 rfl) ?_
      refine lv_ldc2 (v := (16807 : Int64)) hx hb hown (hT _ kw_1108) dX7_drawn_71 ?_
      refine lv_lmul hx hb dX7_drawn_74 ?_
      refine lv_ldc2 (v := (2147483647 : Int64)) hx hb hown (hT _ kw_1109) dX7_drawn_75 ?_
      refine lv_lrem hx hb dX7_drawn_78 (by decide) ?_
      refine lv_lstore (lv' := [(4, .long ((x4 * (16807 : Int64)) - ((x4 * (16807 : Int64)) / (2147483647 : Int64)) * (2147483647 : Int64))), (0, .ref (ad g 0)), (1, .int x1), (3, .int x3), (6, .int x6)]) hx hb dX7_drawn_79 hl (by decide) rfl (fun ls hl => ?_)
      refine lv_lload hx hb dX7_drawn_81 (lv_at hl 0 rfl) ?_
      refine lv_ldc2 (v := (8 : Int64)) hx hb hown (hT _ kw_1110) dX7_drawn_83 ?_
      refine lv_ldiv hx hb dX7_drawn_86 (by decide) ?_
      refine lv_aload_n hx hb dX7_drawn_87 rfl (lv_at hl 1 rfl) ?_
      refine g_X7_25 hB hz kdM_0 dX7_drawn_88 ?_
      refine lv_iconst (v := (0 : Int32)) hx hb dX7_drawn_91 (by decide) ?_
      obtain ⟨hi92, hE⟩ := x_chk hE
      refine x_iald (n := 76) hB hz kdM_6 hi92 dX7_drawn_92 ?_
      refine lv_i2l hx hb dX7_drawn_93 rfl ?_
      obtain ⟨hn94, hE⟩ := x_ne0 hE
      refine lv_lrem hx hb dX7_drawn_94 hn94 ?_
      refine lv_l2i hx hb dX7_drawn_95 rfl ?_
      refine lv_istore (lv' := [(7, .int (((((x4 * (16807 : Int64)) - ((x4 * (16807 : Int64)) / (2147483647 : Int64)) * (2147483647 : Int64)) / (8 : Int64)) - ((((x4 * (16807 : Int64)) - ((x4 * (16807 : Int64)) / (2147483647 : Int64)) * (2147483647 : Int64)) / (8 : Int64)) / ((V 6 ((0 : Int32)).toNatClampNeg)).toInt64) * ((V 6 ((0 : Int32)).toNatClampNeg)).toInt64)).toInt32), (4, .long ((x4 * (16807 : Int64)) - ((x4 * (16807 : Int64)) / (2147483647 : Int64)) * (2147483647 : Int64))), (0, .ref (ad g 0)), (1, .int x1), (3, .int x3), (6, .int x6)]) hx hb dX7_drawn_96 hl (by decide) rfl (fun ls hl => ?_)
      refine lv_lload hx hb dX7_drawn_98 (lv_at hl 1 rfl) ?_
      refine lv_ldc2 (v := (2 : Int64)) hx hb hown (hT _ kw_825) dX7_drawn_100 ?_
      refine lv_lrem hx hb dX7_drawn_103 (by decide) ?_
      refine lv_lconst (v := (0 : Int64)) hx hb dX7_drawn_104 (by decide) ?_
      refine W.lcmp hx hb dX7_drawn_105 ?_
      refine lv_if_ne (tgt := 167) hx hb dX7_drawn_106 (by decide) (fun c106 => ?_) (fun c106 => ?_)
      · have hE := (if_neg c106).symm.trans hE
        exact w_X7_drawn_167 hB ih _ _ _ _ _ _ _ _ _  hE hz (lv_sub hl [2, 3, 4, 1, 5, 0] rfl)
      · have hE := (if_pos c106).symm.trans hE
        refine lv_aload_n hx hb dX7_drawn_109 rfl (lv_at hl 2 rfl) ?_
        refine g_X7_25 hB hz kdM_0 dX7_drawn_110 ?_
        refine lv_iconst (v := (0 : Int32)) hx hb dX7_drawn_113 (by decide) ?_
        obtain ⟨hi114, hE⟩ := x_chk hE
        refine x_iald (n := 76) hB hz kdM_6 hi114 dX7_drawn_114 ?_
        refine lv_bipush (v := (24 : Int32)) hx hb dX7_drawn_115 (by decide) ?_
        refine lv_icmp_ge (tgt := 167) hx hb dX7_drawn_117 (by decide) (fun c117 => ?_) (fun c117 => ?_)
        · have hE := (if_pos c117).symm.trans hE
          exact w_X7_drawn_167 hB ih _ _ _ _ _ _ _ _ _  hE hz (lv_sub hl [2, 3, 4, 1, 5, 0] rfl)
        · have hE := (if_neg c117).symm.trans hE
          refine lv_aload_n hx hb dX7_drawn_120 rfl (lv_at hl 2 rfl) ?_
          refine g_X7_25 hB hz kdM_0 dX7_drawn_121 ?_
          refine lv_iload hx hb dX7_drawn_124 (lv_at hl 0 rfl) ?_
          refine lv_iconst (v := (1 : Int32)) hx hb dX7_drawn_126 (by decide) ?_
          refine lv_lload hx hb dX7_drawn_127 (lv_at hl 1 rfl) ?_
          refine lv_ldc2 (v := (64 : Int64)) hx hb hown (hT _ kw_1111) dX7_drawn_129 ?_
          refine lv_ldiv hx hb dX7_drawn_132 (by decide) ?_
          refine lv_ldc2 (v := (5 : Int64)) hx hb hown (hT _ kw_922) dX7_drawn_133 ?_
          refine lv_lrem hx hb dX7_drawn_136 (by decide) ?_
          refine lv_l2i hx hb dX7_drawn_137 rfl ?_
          refine lv_iadd hx hb dX7_drawn_138 ?_
          refine lv_lload hx hb dX7_drawn_139 (lv_at hl 1 rfl) ?_
          refine lv_ldc2 (v := (512 : Int64)) hx hb hown (hT _ kw_1112) dX7_drawn_141 ?_
          refine lv_ldiv hx hb dX7_drawn_144 (by decide) ?_
          refine lv_ldc2 (v := (3 : Int64)) hx hb hown (hT _ kw_960) dX7_drawn_145 ?_
          refine lv_lrem hx hb dX7_drawn_148 (by decide) ?_
          refine lv_l2i hx hb dX7_drawn_149 rfl ?_
          refine lv_lload hx hb dX7_drawn_150 (lv_at hl 1 rfl) ?_
          refine lv_ldc2 (v := (4096 : Int64)) hx hb hown (hT _ kw_1113) dX7_drawn_152 ?_
          refine lv_ldiv hx hb dX7_drawn_155 (by decide) ?_
          refine lv_ldc2 (v := (21 : Int64)) hx hb hown (hT _ kw_1114) dX7_drawn_156 ?_
          refine lv_lrem hx hb dX7_drawn_159 (by decide) ?_
          refine lv_l2i hx hb dX7_drawn_160 rfl ?_
          obtain ⟨q161, hq161, hE⟩ := x_bind hE
          refine i_X7_204 hB hz (c_X7_putAt l g kdM_6 hq161) ⟨(Nat.le_of_ble_eq_true rfl), (Nat.le_of_ble_eq_true rfl)⟩ hl.1 (Nat.le_of_ble_eq_true rfl) dX7_drawn_161 (fun H locs hz => ?_)
          refine lv_goto (tgt := 186) hx hb dX7_drawn_164 (by decide) ?_
          exact w_X7_drawn_186 hB ih _ _ _ _ _ _ _ _  hE hz (lv_sub hl [2, 3, 4, 1, 5] rfl)

set_option maxHeartbeats 4000000 in
set_option maxRecDepth 100000 in
theorem w_X7_drawn {p : Program} {l : Launch} {e : Env} {s : State} {m : MethodId} {args : Array Value} {below : List Frame} {meth : Method} {c : Code} {g : GP} (hB : BX p s m args meth c g LM cX7_drawn 8 RX7 (some .int)) {o : Int32 × Mem} : ∀ (x1 : Int32) (x2 : Int32) (x3 : Int32) (V : Mem) (H : Heap) (locs : List Loc) (ls : Array Slot), f_X7_drawn x1 x2 x3 V = some o → OK g LM V s H locs → lv_has ls 8 [(0, .ref (ad g 0)), (1, .int x1), (2, .int x2), (3, .int x3)] → W p l e rm_X7_drawn s m args below meth c H locs 0 0 (MQ below (QQ g LM (some (.int o.1)) o.2) args s 0 0 (Ar g LM)) (F0 m 0 ls []) := by
  obtain ⟨hx, hb, hml, hown, hT, hr, hlk, hK, hJ, hZ, hN⟩ := id hB
  intro x1 x2 x3 V H locs ls hE hz hl
  unfold f_X7_drawn at hE
  refine lv_aload_n hx hb dX7_drawn_0 rfl (lv_at hl 0 rfl) ?_
  refine lv_iconst (v := (0 : Int32)) hx hb dX7_drawn_1 (by decide) ?_
  refine p_X7_59 hB hz kdM_0 dX7_drawn_2 (fun H locs hz => ?_)
  refine lv_aload_n hx hb dX7_drawn_5 rfl (lv_at hl 0 rfl) ?_
  obtain ⟨q6, hq6, hE⟩ := x_bind hE
  refine i_X7_211 hB hz kdM_0 (c_X7_isThere l g  hq6) ⟨(Nat.le_of_ble_eq_true rfl), (Nat.le_of_ble_eq_true rfl)⟩ hl.1 (Nat.le_of_ble_eq_true rfl) dX7_drawn_6 (fun H locs hz => ?_)
  refine lv_if_ne (tgt := 15) hx hb dX7_drawn_9 (by decide) (fun c9 => ?_) (fun c9 => ?_)
  · have hE := (if_neg c9).symm.trans hE
    refine lv_iload_n hx hb dX7_drawn_15 rfl (lv_at hl 1 rfl) ?_
    refine lv_i2l hx hb dX7_drawn_16 rfl ?_
    refine lv_lconst (v := (0 : Int64)) hx hb dX7_drawn_17 (by decide) ?_
    refine lv_ldc2 (v := (60 : Int64)) hx hb hown (hT _ kw_1106) dX7_drawn_18 ?_
    obtain ⟨q21, hq21, hE⟩ := x_bind hE
    refine i_X7_69 hB hz (c_X7_in l g  hq21) ⟨(Nat.le_of_ble_eq_true rfl), (Nat.le_of_ble_eq_true rfl)⟩ hl.1 (Nat.le_of_ble_eq_true rfl) dX7_drawn_21 (fun H locs hz => ?_)
    refine lv_if_eq (tgt := 49) hx hb dX7_drawn_24 (by decide) (fun c24 => ?_) (fun c24 => ?_)
    · have hE := (if_pos c24).symm.trans hE
      refine lv_ldc (v := (-1000001 : Int32)) hx hb hown (hT _ kw_826) dX7_drawn_49 ?_
      exact x_iret hB hz hE dX7_drawn_51
    · have hE := (if_neg c24).symm.trans hE
      refine lv_iload_n hx hb dX7_drawn_27 rfl (lv_at hl 2 rfl) ?_
      refine lv_i2l hx hb dX7_drawn_28 rfl ?_
      refine lv_lconst (v := (1 : Int64)) hx hb dX7_drawn_29 (by decide) ?_
      refine lv_ldc2 (v := (999999 : Int64)) hx hb hown (hT _ kw_1107) dX7_drawn_30 ?_
      obtain ⟨q33, hq33, hE⟩ := x_bind hE
      refine i_X7_69 hB hz (c_X7_in l g  hq33) ⟨(Nat.le_of_ble_eq_true rfl), (Nat.le_of_ble_eq_true rfl)⟩ hl.1 (Nat.le_of_ble_eq_true rfl) dX7_drawn_33 (fun H locs hz => ?_)
      refine lv_if_eq (tgt := 49) hx hb dX7_drawn_36 (by decide) (fun c36 => ?_) (fun c36 => ?_)
      · have hE := (if_pos c36).symm.trans hE
        refine lv_ldc (v := (-1000001 : Int32)) hx hb hown (hT _ kw_826) dX7_drawn_49 ?_
        exact x_iret hB hz hE dX7_drawn_51
      · have hE := (if_neg c36).symm.trans hE
        refine lv_iload_n hx hb dX7_drawn_39 rfl (lv_at hl 3 rfl) ?_
        refine lv_i2l hx hb dX7_drawn_40 rfl ?_
        refine lv_lconst (v := (0 : Int64)) hx hb dX7_drawn_41 (by decide) ?_
        refine lv_lconst (v := (1 : Int64)) hx hb dX7_drawn_42 (by decide) ?_
        obtain ⟨q43, hq43, hE⟩ := x_bind hE
        refine i_X7_69 hB hz (c_X7_in l g  hq43) ⟨(Nat.le_of_ble_eq_true rfl), (Nat.le_of_ble_eq_true rfl)⟩ hl.1 (Nat.le_of_ble_eq_true rfl) dX7_drawn_43 (fun H locs hz => ?_)
        refine lv_if_ne (tgt := 52) hx hb dX7_drawn_46 (by decide) (fun c46 => ?_) (fun c46 => ?_)
        · have hE := (if_neg c46).symm.trans hE
          refine lv_aload_n hx hb dX7_drawn_52 rfl (lv_at hl 0 rfl) ?_
          obtain ⟨q53, hq53, hE⟩ := x_bind hE
          refine i_X7_257 hB hz kdM_0 (c_X7_layThen l g  hq53) ⟨(Nat.le_of_ble_eq_true rfl), (Nat.le_of_ble_eq_true rfl)⟩ hl.1 (Nat.le_of_ble_eq_true rfl) dX7_drawn_53 (fun H locs hz => ?_)
          refine lv_iload_n hx hb dX7_drawn_56 rfl (lv_at hl 2 rfl) ?_
          refine lv_i2l hx hb dX7_drawn_57 rfl ?_
          refine lv_lstore (lv' := [(4, .long (x2).toInt64), (0, .ref (ad g 0)), (1, .int x1), (2, .int x2), (3, .int x3)]) hx hb dX7_drawn_58 hl (by decide) rfl (fun ls hl => ?_)
          refine lv_iconst (v := (0 : Int32)) hx hb dX7_drawn_60 (by decide) ?_
          refine lv_istore (lv' := [(6, .int (0 : Int32)), (4, .long (x2).toInt64), (0, .ref (ad g 0)), (1, .int x1), (2, .int x2), (3, .int x3)]) hx hb dX7_drawn_61 hl (by decide) rfl (fun ls hl => ?_)
          exact w_X7_drawn_63 hB  _ _ _ _ _ _ _ _ _  hE hz (lv_sub hl [2, 3, 5, 1, 0] rfl)
        · have hE := (if_pos c46).symm.trans hE
          refine lv_ldc (v := (-1000001 : Int32)) hx hb hown (hT _ kw_826) dX7_drawn_49 ?_
          exact x_iret hB hz hE dX7_drawn_51
  · have hE := (if_pos c9).symm.trans hE
    refine lv_ldc (v := (-1000002 : Int32)) hx hb hown (hT _ kw_918) dX7_drawn_12 ?_
    exact x_iret hB hz hE dX7_drawn_14
theorem c_X7_drawn (l : Launch) (g : GP) {x1 : Int32} {x2 : Int32} {x3 : Int32} {V : Mem} {o : Int32 × Mem} (hE : f_X7_drawn x1 x2 x3 V = some o) : CT l g LM yX7_drawn cX7_drawn 8 (some .int) rm_X7_drawn [.ref (ad g 0), .int x1, .int x2, .int x3] V (some (.int o.1)) o.2 := by
  refine ct_of (by decide) (Nat.le_of_ble_eq_true rfl) ?_
  intro p e s m args below meth c ls hB hz hl
  exact w_X7_drawn hB _ _ _ _ _ _ _  hE hz hl
def rm_X7_image : Room := { frames := 1, cells := 0, slots := 0, locals := 25 }
set_option maxHeartbeats 4000000 in
set_option maxRecDepth 100000 in
theorem w_X7_image_30 {p : Program} {l : Launch} {e : Env} {s : State} {m : MethodId} {args : Array Value} {below : List Frame} {meth : Method} {c : Code} {g : GP} (hB : BX p s m args meth c g LM cX7_image 3 RX7 (some .int)) {o : Int32 × Mem} : ∀ (n : Nat), ∀ (x1 : Int32) (x2 : Int32) (V : Mem) (H : Heap) (locs : List Loc) (ls : Array Slot), f_X7_image_30 n x1 x2 V = some o → OK g LM V s H locs → lv_has ls 3 [(0, .ref (ad g 0)), (1, .int x1), (2, .int x2)] → W p l e rm_X7_image s m args below meth c H locs 0 0 (MQ below (QQ g LM (some (.int o.1)) o.2) args s 0 0 (Ar g LM)) (F0 m 30 ls []) := by
  obtain ⟨hx, hb, hml, hown, hT, hr, hlk, hK, hJ, hZ, hN⟩ := id hB
  intro n
  induction n with
  | zero =>
    intro x1 x2 V H locs ls hE hz hl
    exact absurd (show (none : Option (Int32 × Mem)) = some o from hE) (by simp)
  | succ n ih =>
    intro x1 x2 V H locs ls hE hz hl
    unfold f_X7_image_30 at hE
    refine lv_iload_n hx hb dX7_image_30 rfl (lv_at hl 2 rfl) ?_
    refine lv_bipush (v := (76 : Int32)) hx hb dX7_image_31 (by decide) ?_
    refine lv_icmp_ge (tgt := 59) hx hb dX7_image_33 (by decide) (fun c33 => ?_) (fun c33 => ?_)
    · have hE := (if_pos c33).symm.trans hE
      refine lv_aload_n hx hb dX7_image_59 rfl (lv_at hl 0 rfl) ?_
      refine g_X7_49 hB hz kdM_0 dX7_image_60 ?_
      refine lv_iload_n hx hb dX7_image_63 rfl (lv_at hl 1 rfl) ?_
      refine lv_iconst (v := (1 : Int32)) hx hb dX7_image_64 (by decide) ?_
      obtain ⟨hi65, hE⟩ := x_chk hE
      refine x_zast hB hz kdM_14 hi65 dX7_image_65 (fun H locs hz => ?_)
      refine lv_iconst (v := (1 : Int32)) hx hb dX7_image_66 (by decide) ?_
      exact x_iret hB hz hE dX7_image_67
    · have hE := (if_neg c33).symm.trans hE
      refine lv_aload_n hx hb dX7_image_36 rfl (lv_at hl 0 rfl) ?_
      refine g_X7_53 hB hz kdM_0 dX7_image_37 ?_
      refine lv_bipush (v := (76 : Int32)) hx hb dX7_image_40 (by decide) ?_
      refine lv_iload_n hx hb dX7_image_42 rfl (lv_at hl 1 rfl) ?_
      refine lv_imul hx hb dX7_image_43 ?_
      refine lv_iload_n hx hb dX7_image_44 rfl (lv_at hl 2 rfl) ?_
      refine lv_iadd hx hb dX7_image_45 ?_
      refine lv_aload_n hx hb dX7_image_46 rfl (lv_at hl 0 rfl) ?_
      refine g_X7_19 hB hz kdM_0 dX7_image_47 ?_
      refine lv_iload_n hx hb dX7_image_50 rfl (lv_at hl 2 rfl) ?_
      obtain ⟨hi51, hE⟩ := x_chk hE
      refine x_iald (n := 76) hB hz kdM_4 hi51 dX7_image_51 ?_
      obtain ⟨hi52, hE⟩ := x_chk hE
      refine x_iast (n := 152) hB hz kdM_15 hi52 dX7_image_52 (fun H locs hz => ?_)
      refine lv_iinc (v := (x2 + 1)) (lv' := [(2, .int (x2 + 1)), (0, .ref (ad g 0)), (1, .int x1)]) hx hb dX7_image_53 hl (k := 2) rfl rfl (by decide) rfl (fun ls hl => ?_)
      refine lv_goto (tgt := 30) hx hb dX7_image_56 (by decide) ?_
      exact ih _ _ _ _ _ _  hE hz (lv_sub hl [1, 2, 0] rfl)

set_option maxHeartbeats 4000000 in
set_option maxRecDepth 100000 in
theorem w_X7_image {p : Program} {l : Launch} {e : Env} {s : State} {m : MethodId} {args : Array Value} {below : List Frame} {meth : Method} {c : Code} {g : GP} (hB : BX p s m args meth c g LM cX7_image 3 RX7 (some .int)) {o : Int32 × Mem} : ∀ (x1 : Int32) (V : Mem) (H : Heap) (locs : List Loc) (ls : Array Slot), f_X7_image x1 V = some o → OK g LM V s H locs → lv_has ls 3 [(0, .ref (ad g 0)), (1, .int x1)] → W p l e rm_X7_image s m args below meth c H locs 0 0 (MQ below (QQ g LM (some (.int o.1)) o.2) args s 0 0 (Ar g LM)) (F0 m 0 ls []) := by
  obtain ⟨hx, hb, hml, hown, hT, hr, hlk, hK, hJ, hZ, hN⟩ := id hB
  intro x1 V H locs ls hE hz hl
  unfold f_X7_image at hE
  refine lv_aload_n hx hb dX7_image_0 rfl (lv_at hl 0 rfl) ?_
  refine lv_iconst (v := (0 : Int32)) hx hb dX7_image_1 (by decide) ?_
  refine p_X7_59 hB hz kdM_0 dX7_image_2 (fun H locs hz => ?_)
  refine lv_iload_n hx hb dX7_image_5 rfl (lv_at hl 1 rfl) ?_
  refine lv_i2l hx hb dX7_image_6 rfl ?_
  refine lv_lconst (v := (0 : Int64)) hx hb dX7_image_7 (by decide) ?_
  refine lv_lconst (v := (1 : Int64)) hx hb dX7_image_8 (by decide) ?_
  obtain ⟨q9, hq9, hE⟩ := x_bind hE
  refine i_X7_69 hB hz (c_X7_in l g  hq9) ⟨(Nat.le_of_ble_eq_true rfl), (Nat.le_of_ble_eq_true rfl)⟩ hl.1 (Nat.le_of_ble_eq_true rfl) dX7_image_9 (fun H locs hz => ?_)
  refine lv_if_ne (tgt := 18) hx hb dX7_image_12 (by decide) (fun c12 => ?_) (fun c12 => ?_)
  · have hE := (if_neg c12).symm.trans hE
    refine lv_aload_n hx hb dX7_image_18 rfl (lv_at hl 0 rfl) ?_
    obtain ⟨q19, hq19, hE⟩ := x_bind hE
    refine i_X7_211 hB hz kdM_0 (c_X7_isThere l g  hq19) ⟨(Nat.le_of_ble_eq_true rfl), (Nat.le_of_ble_eq_true rfl)⟩ hl.1 (Nat.le_of_ble_eq_true rfl) dX7_image_19 (fun H locs hz => ?_)
    refine lv_if_ne (tgt := 28) hx hb dX7_image_22 (by decide) (fun c22 => ?_) (fun c22 => ?_)
    · have hE := (if_neg c22).symm.trans hE
      refine lv_iconst (v := (0 : Int32)) hx hb dX7_image_28 (by decide) ?_
      refine lv_istore_n (lv' := [(2, .int (0 : Int32)), (0, .ref (ad g 0)), (1, .int x1)]) hx hb dX7_image_29 rfl hl (by decide) rfl (fun ls hl => ?_)
      exact w_X7_image_30 hB  _ _ _ _ _ _ _  hE hz (lv_sub hl [1, 2, 0] rfl)
    · have hE := (if_pos c22).symm.trans hE
      refine lv_ldc (v := (-1000002 : Int32)) hx hb hown (hT _ kw_918) dX7_image_25 ?_
      exact x_iret hB hz hE dX7_image_27
  · have hE := (if_pos c12).symm.trans hE
    refine lv_ldc (v := (-1000001 : Int32)) hx hb hown (hT _ kw_826) dX7_image_15 ?_
    exact x_iret hB hz hE dX7_image_17
theorem c_X7_image (l : Launch) (g : GP) {x1 : Int32} {V : Mem} {o : Int32 × Mem} (hE : f_X7_image x1 V = some o) : CT l g LM yX7_image cX7_image 3 (some .int) rm_X7_image [.ref (ad g 0), .int x1] V (some (.int o.1)) o.2 := by
  refine ct_of (by decide) (Nat.le_of_ble_eq_true rfl) ?_
  intro p e s m args below meth c ls hB hz hl
  exact w_X7_image hB _ _ _ _ _  hE hz hl
def rm_X7_restore : Room := { frames := 1, cells := 0, slots := 0, locals := 25 }
set_option maxHeartbeats 4000000 in
set_option maxRecDepth 100000 in
theorem w_X7_restore_32 {p : Program} {l : Launch} {e : Env} {s : State} {m : MethodId} {args : Array Value} {below : List Frame} {meth : Method} {c : Code} {g : GP} (hB : BX p s m args meth c g LM cX7_restore 3 RX7 (some .int)) {o : Int32 × Mem} : ∀ (n : Nat), ∀ (x1 : Int32) (x2 : Int32) (V : Mem) (H : Heap) (locs : List Loc) (ls : Array Slot), f_X7_restore_32 n x1 x2 V = some o → OK g LM V s H locs → lv_has ls 3 [(0, .ref (ad g 0)), (1, .int x1), (2, .int x2)] → W p l e rm_X7_restore s m args below meth c H locs 0 0 (MQ below (QQ g LM (some (.int o.1)) o.2) args s 0 0 (Ar g LM)) (F0 m 32 ls []) := by
  obtain ⟨hx, hb, hml, hown, hT, hr, hlk, hK, hJ, hZ, hN⟩ := id hB
  intro n
  induction n with
  | zero =>
    intro x1 x2 V H locs ls hE hz hl
    exact absurd (show (none : Option (Int32 × Mem)) = some o from hE) (by simp)
  | succ n ih =>
    intro x1 x2 V H locs ls hE hz hl
    unfold f_X7_restore_32 at hE
    refine lv_iload_n hx hb dX7_restore_32 rfl (lv_at hl 2 rfl) ?_
    refine lv_bipush (v := (76 : Int32)) hx hb dX7_restore_33 (by decide) ?_
    refine lv_icmp_ge (tgt := 61) hx hb dX7_restore_35 (by decide) (fun c35 => ?_) (fun c35 => ?_)
    · have hE := (if_pos c35).symm.trans hE
      refine lv_aload_n hx hb dX7_restore_61 rfl (lv_at hl 0 rfl) ?_
      refine lv_iconst (v := (0 : Int32)) hx hb dX7_restore_62 (by decide) ?_
      refine p_X7_162 hB hz kdM_0 dX7_restore_63 (fun H locs hz => ?_)
      refine lv_iconst (v := (1 : Int32)) hx hb dX7_restore_66 (by decide) ?_
      exact x_iret hB hz hE dX7_restore_67
    · have hE := (if_neg c35).symm.trans hE
      refine lv_aload_n hx hb dX7_restore_38 rfl (lv_at hl 0 rfl) ?_
      refine g_X7_19 hB hz kdM_0 dX7_restore_39 ?_
      refine lv_iload_n hx hb dX7_restore_42 rfl (lv_at hl 2 rfl) ?_
      refine lv_aload_n hx hb dX7_restore_43 rfl (lv_at hl 0 rfl) ?_
      refine g_X7_53 hB hz kdM_0 dX7_restore_44 ?_
      refine lv_bipush (v := (76 : Int32)) hx hb dX7_restore_47 (by decide) ?_
      refine lv_iload_n hx hb dX7_restore_49 rfl (lv_at hl 1 rfl) ?_
      refine lv_imul hx hb dX7_restore_50 ?_
      refine lv_iload_n hx hb dX7_restore_51 rfl (lv_at hl 2 rfl) ?_
      refine lv_iadd hx hb dX7_restore_52 ?_
      obtain ⟨hi53, hE⟩ := x_chk hE
      refine x_iald (n := 152) hB hz kdM_15 hi53 dX7_restore_53 ?_
      obtain ⟨hi54, hE⟩ := x_chk hE
      refine x_iast (n := 76) hB hz kdM_4 hi54 dX7_restore_54 (fun H locs hz => ?_)
      refine lv_iinc (v := (x2 + 1)) (lv' := [(2, .int (x2 + 1)), (0, .ref (ad g 0)), (1, .int x1)]) hx hb dX7_restore_55 hl (k := 2) rfl rfl (by decide) rfl (fun ls hl => ?_)
      refine lv_goto (tgt := 32) hx hb dX7_restore_58 (by decide) ?_
      exact ih _ _ _ _ _ _  hE hz (lv_sub hl [1, 2, 0] rfl)

set_option maxHeartbeats 4000000 in
set_option maxRecDepth 100000 in
theorem w_X7_restore {p : Program} {l : Launch} {e : Env} {s : State} {m : MethodId} {args : Array Value} {below : List Frame} {meth : Method} {c : Code} {g : GP} (hB : BX p s m args meth c g LM cX7_restore 3 RX7 (some .int)) {o : Int32 × Mem} : ∀ (x1 : Int32) (V : Mem) (H : Heap) (locs : List Loc) (ls : Array Slot), f_X7_restore x1 V = some o → OK g LM V s H locs → lv_has ls 3 [(0, .ref (ad g 0)), (1, .int x1)] → W p l e rm_X7_restore s m args below meth c H locs 0 0 (MQ below (QQ g LM (some (.int o.1)) o.2) args s 0 0 (Ar g LM)) (F0 m 0 ls []) := by
  obtain ⟨hx, hb, hml, hown, hT, hr, hlk, hK, hJ, hZ, hN⟩ := id hB
  intro x1 V H locs ls hE hz hl
  unfold f_X7_restore at hE
  refine lv_aload_n hx hb dX7_restore_0 rfl (lv_at hl 0 rfl) ?_
  refine lv_iconst (v := (0 : Int32)) hx hb dX7_restore_1 (by decide) ?_
  refine p_X7_59 hB hz kdM_0 dX7_restore_2 (fun H locs hz => ?_)
  refine lv_iload_n hx hb dX7_restore_5 rfl (lv_at hl 1 rfl) ?_
  refine lv_i2l hx hb dX7_restore_6 rfl ?_
  refine lv_lconst (v := (0 : Int64)) hx hb dX7_restore_7 (by decide) ?_
  refine lv_lconst (v := (1 : Int64)) hx hb dX7_restore_8 (by decide) ?_
  obtain ⟨q9, hq9, hE⟩ := x_bind hE
  refine i_X7_69 hB hz (c_X7_in l g  hq9) ⟨(Nat.le_of_ble_eq_true rfl), (Nat.le_of_ble_eq_true rfl)⟩ hl.1 (Nat.le_of_ble_eq_true rfl) dX7_restore_9 (fun H locs hz => ?_)
  refine lv_if_ne (tgt := 18) hx hb dX7_restore_12 (by decide) (fun c12 => ?_) (fun c12 => ?_)
  · have hE := (if_neg c12).symm.trans hE
    refine lv_aload_n hx hb dX7_restore_18 rfl (lv_at hl 0 rfl) ?_
    refine g_X7_49 hB hz kdM_0 dX7_restore_19 ?_
    refine lv_iload_n hx hb dX7_restore_22 rfl (lv_at hl 1 rfl) ?_
    obtain ⟨hi23, hE⟩ := x_chk hE
    refine x_zald hB hz kdM_14 hi23 dX7_restore_23 ?_
    refine lv_if_ne (tgt := 30) hx hb dX7_restore_24 (by decide) (fun c24 => ?_) (fun c24 => ?_)
    · have hE := (if_neg c24).symm.trans hE
      refine lv_iconst (v := (0 : Int32)) hx hb dX7_restore_30 (by decide) ?_
      refine lv_istore_n (lv' := [(2, .int (0 : Int32)), (0, .ref (ad g 0)), (1, .int x1)]) hx hb dX7_restore_31 rfl hl (by decide) rfl (fun ls hl => ?_)
      exact w_X7_restore_32 hB  _ _ _ _ _ _ _  hE hz (lv_sub hl [1, 2, 0] rfl)
    · have hE := (if_pos c24).symm.trans hE
      refine lv_ldc (v := (-1000002 : Int32)) hx hb hown (hT _ kw_918) dX7_restore_27 ?_
      exact x_iret hB hz hE dX7_restore_29
  · have hE := (if_pos c12).symm.trans hE
    refine lv_ldc (v := (-1000001 : Int32)) hx hb hown (hT _ kw_826) dX7_restore_15 ?_
    exact x_iret hB hz hE dX7_restore_17
theorem c_X7_restore (l : Launch) (g : GP) {x1 : Int32} {V : Mem} {o : Int32 × Mem} (hE : f_X7_restore x1 V = some o) : CT l g LM yX7_restore cX7_restore 3 (some .int) rm_X7_restore [.ref (ad g 0), .int x1] V (some (.int o.1)) o.2 := by
  refine ct_of (by decide) (Nat.le_of_ble_eq_true rfl) ?_
  intro p e s m args below meth c ls hB hz hl
  exact w_X7_restore hB _ _ _ _ _  hE hz hl
def rm_X7_isOf : Room := { frames := 0, cells := 0, slots := 0, locals := 0 }
set_option maxHeartbeats 4000000 in
set_option maxRecDepth 100000 in
theorem w_X7_isOf_19 {p : Program} {l : Launch} {e : Env} {s : State} {m : MethodId} {args : Array Value} {below : List Frame} {meth : Method} {c : Code} {g : GP} (hB : BX p s m args meth c g LM cX7_isOf 2 RX7 (some .boolean)) {o : Int32 × Mem} : ∀ (x0 : Int32) (x1 : Int32) (V : Mem) (H : Heap) (locs : List Loc) (ls : Array Slot), f_X7_isOf_19 x0 x1 V = some o → OK g LM V s H locs → lv_has ls 2 [(0, .int x0), (1, .int x1)] → W p l e rm_X7_isOf s m args below meth c H locs 0 0 (MQ below (QQ g LM (some (.int o.1)) o.2) args s 0 0 (Ar g LM)) (F0 m 19 ls []) := by
  obtain ⟨hx, hb, hml, hown, hT, hr, hlk, hK, hJ, hZ, hN⟩ := id hB
  intro x0 x1 V H locs ls hE hz hl
  unfold f_X7_isOf_19 at hE
  refine lv_iload_n hx hb dX7_isOf_19 rfl (lv_at hl 1 rfl) ?_
  refine lv_iconst (v := (4 : Int32)) hx hb dX7_isOf_20 (by decide) ?_
  refine lv_icmp_ne (tgt := 33) hx hb dX7_isOf_21 (by decide) (fun c21 => ?_) (fun c21 => ?_)
  · have hE := (if_neg c21).symm.trans hE
    refine lv_iconst (v := (0 : Int32)) hx hb dX7_isOf_33 (by decide) ?_
    exact x_zret hB hz hE (by decide) dX7_isOf_34
  · have hE := (if_pos c21).symm.trans hE
    refine lv_iload_n hx hb dX7_isOf_24 rfl (lv_at hl 0 rfl) ?_
    refine lv_iconst (v := (5 : Int32)) hx hb dX7_isOf_25 (by decide) ?_
    refine lv_icmp_ne (tgt := 33) hx hb dX7_isOf_26 (by decide) (fun c26 => ?_) (fun c26 => ?_)
    · have hE := (if_neg c26).symm.trans hE
      refine lv_iconst (v := (0 : Int32)) hx hb dX7_isOf_33 (by decide) ?_
      exact x_zret hB hz hE (by decide) dX7_isOf_34
    · have hE := (if_pos c26).symm.trans hE
      refine lv_iconst (v := (1 : Int32)) hx hb dX7_isOf_29 (by decide) ?_
      refine lv_goto (tgt := 34) hx hb dX7_isOf_30 (by decide) ?_
      exact x_zret hB hz hE (by decide) dX7_isOf_34

set_option maxHeartbeats 4000000 in
set_option maxRecDepth 100000 in
theorem w_X7_isOf {p : Program} {l : Launch} {e : Env} {s : State} {m : MethodId} {args : Array Value} {below : List Frame} {meth : Method} {c : Code} {g : GP} (hB : BX p s m args meth c g LM cX7_isOf 2 RX7 (some .boolean)) {o : Int32 × Mem} : ∀ (x0 : Int32) (x1 : Int32) (V : Mem) (H : Heap) (locs : List Loc) (ls : Array Slot), f_X7_isOf x0 x1 V = some o → OK g LM V s H locs → lv_has ls 2 [(0, .int x0), (1, .int x1)] → W p l e rm_X7_isOf s m args below meth c H locs 0 0 (MQ below (QQ g LM (some (.int o.1)) o.2) args s 0 0 (Ar g LM)) (F0 m 0 ls []) := by
  obtain ⟨hx, hb, hml, hown, hT, hr, hlk, hK, hJ, hZ, hN⟩ := id hB
  intro x0 x1 V H locs ls hE hz hl
  unfold f_X7_isOf at hE
  refine lv_iload_n hx hb dX7_isOf_0 rfl (lv_at hl 1 rfl) ?_
  refine lv_if_eq (tgt := 29) hx hb dX7_isOf_1 (by decide) (fun c1 => ?_) (fun c1 => ?_)
  · have hE := (if_pos c1).symm.trans hE
    refine lv_iconst (v := (1 : Int32)) hx hb dX7_isOf_29 (by decide) ?_
    refine lv_goto (tgt := 34) hx hb dX7_isOf_30 (by decide) ?_
    exact x_zret hB hz hE (by decide) dX7_isOf_34
  · have hE := (if_neg c1).symm.trans hE
    refine lv_iload_n hx hb dX7_isOf_4 rfl (lv_at hl 0 rfl) ?_
    refine lv_iload_n hx hb dX7_isOf_5 rfl (lv_at hl 1 rfl) ?_
    refine lv_icmp_eq (tgt := 29) hx hb dX7_isOf_6 (by decide) (fun c6 => ?_) (fun c6 => ?_)
    · have hE := (if_pos c6).symm.trans hE
      refine lv_iconst (v := (1 : Int32)) hx hb dX7_isOf_29 (by decide) ?_
      refine lv_goto (tgt := 34) hx hb dX7_isOf_30 (by decide) ?_
      exact x_zret hB hz hE (by decide) dX7_isOf_34
    · have hE := (if_neg c6).symm.trans hE
      refine lv_iload_n hx hb dX7_isOf_9 rfl (lv_at hl 1 rfl) ?_
      refine lv_iconst (v := (1 : Int32)) hx hb dX7_isOf_10 (by decide) ?_
      refine lv_icmp_ne (tgt := 19) hx hb dX7_isOf_11 (by decide) (fun c11 => ?_) (fun c11 => ?_)
      · have hE := (if_neg c11).symm.trans hE
        exact w_X7_isOf_19 hB  _ _ _ _ _ _  hE hz (lv_sub hl [0, 1] rfl)
      · have hE := (if_pos c11).symm.trans hE
        refine lv_iload_n hx hb dX7_isOf_14 rfl (lv_at hl 0 rfl) ?_
        refine lv_iconst (v := (4 : Int32)) hx hb dX7_isOf_15 (by decide) ?_
        refine lv_icmp_lt (tgt := 29) hx hb dX7_isOf_16 (by decide) (fun c16 => ?_) (fun c16 => ?_)
        · have hE := (if_pos c16).symm.trans hE
          refine lv_iconst (v := (1 : Int32)) hx hb dX7_isOf_29 (by decide) ?_
          refine lv_goto (tgt := 34) hx hb dX7_isOf_30 (by decide) ?_
          exact x_zret hB hz hE (by decide) dX7_isOf_34
        · have hE := (if_neg c16).symm.trans hE
          exact w_X7_isOf_19 hB  _ _ _ _ _ _  hE hz (lv_sub hl [0, 1] rfl)
theorem c_X7_isOf (l : Launch) (g : GP) {x0 : Int32} {x1 : Int32} {V : Mem} {o : Int32 × Mem} (hE : f_X7_isOf x0 x1 V = some o) : CT l g LM yX7_isOf cX7_isOf 2 (some .boolean) rm_X7_isOf [.int x0, .int x1] V (some (.int o.1)) o.2 := by
  refine ct_of (by decide) (Nat.le_of_ble_eq_true rfl) ?_
  intro p e s m args below meth c ls hB hz hl
  exact w_X7_isOf hB _ _ _ _ _ _  hE hz hl

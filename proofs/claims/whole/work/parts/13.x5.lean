def rm_X5_isFigure : Room := { frames := 0, cells := 0, slots := 0, locals := 0 }
set_option maxHeartbeats 4000000 in
set_option maxRecDepth 100000 in
theorem w_X5_isFigure {p : Program} {l : Launch} {e : Env} {s : State} {m : MethodId} {args : Array Value} {below : List Frame} {meth : Method} {c : Code} {g : GP} (hB : BX p s m args meth c g LX cX5_isFigure 1 RX5 (some .boolean)) {o : Int32 × Mem} : ∀ (x0 : Int32) (V : Mem) (H : Heap) (locs : List Loc) (ls : Array Slot), f_X5_isFigure x0 V = some o → OK g LX V s H locs → lv_has ls 1 [(0, .int x0)] → W p l e rm_X5_isFigure s m args below meth c H locs 0 0 (MQ below (QQ g LX (some (.int o.1)) o.2) args s 0 0 (Ar g LX)) (F0 m 0 ls []) := by
  obtain ⟨hx, hb, hml, hown, hT, hr, hlk, hK, hJ, hZ, hN⟩ := id hB
  intro x0 V H locs ls hE hz hl
  unfold f_X5_isFigure at hE
  refine lv_iload_n hx hb dX5_isFigure_0 rfl (lv_at hl 0 rfl) ?_
  refine lv_bipush (v := (48 : Int32)) hx hb dX5_isFigure_1 (by decide) ?_
  refine lv_icmp_lt (tgt := 16) hx hb dX5_isFigure_3 (by decide) (fun c3 => ?_) (fun c3 => ?_)
  · have hE := (if_pos c3).symm.trans hE
    refine lv_iconst (v := (0 : Int32)) hx hb dX5_isFigure_16 (by decide) ?_
    exact x_zret hB hz hE (by decide) dX5_isFigure_17
  · have hE := (if_neg c3).symm.trans hE
    refine lv_iload_n hx hb dX5_isFigure_6 rfl (lv_at hl 0 rfl) ?_
    refine lv_bipush (v := (57 : Int32)) hx hb dX5_isFigure_7 (by decide) ?_
    refine lv_icmp_gt (tgt := 16) hx hb dX5_isFigure_9 (by decide) (fun c9 => ?_) (fun c9 => ?_)
    · have hE := (if_pos c9).symm.trans hE
      refine lv_iconst (v := (0 : Int32)) hx hb dX5_isFigure_16 (by decide) ?_
      exact x_zret hB hz hE (by decide) dX5_isFigure_17
    · have hE := (if_neg c9).symm.trans hE
      refine lv_iconst (v := (1 : Int32)) hx hb dX5_isFigure_12 (by decide) ?_
      refine lv_goto (tgt := 17) hx hb dX5_isFigure_13 (by decide) ?_
      exact x_zret hB hz hE (by decide) dX5_isFigure_17
theorem c_X5_isFigure (l : Launch) (g : GP) {x0 : Int32} {V : Mem} {o : Int32 × Mem} (hE : f_X5_isFigure x0 V = some o) : CT l g LX yX5_isFigure cX5_isFigure 1 (some .boolean) rm_X5_isFigure [.int x0] V (some (.int o.1)) o.2 := by
  refine ct_of (by decide) (Nat.le_of_ble_eq_true rfl) ?_
  intro p e s m args below meth c ls hB hz hl
  exact w_X5_isFigure hB _ _ _ _ _  hE hz hl
def rm_X5_stepOverFigures : Room := { frames := 1, cells := 0, slots := 0, locals := 20 }
theorem i_X5_74 {p : Program} {l : Launch} {e : Env} {R : Room} {s : State} {m : MethodId} {args : Array Value} {below : List Frame} {meth : Method} {c : Code} {H : Heap} {locs : List Loc} {Q : State → Prop} {cc : ByteArray} {pc : Nat} {ls : Array Slot} {rest : List Value} {g : GP} {V : Mem} {nL : Nat} {ret : Option FieldType} (hB : BX p s m args meth c g LX cc nL RX5 ret) (hz : OK g LX V s H locs) {a0 : Int32} {r : Int32} {V1 : Mem} (hM : CT l g LX yX5_isFigure cX5_isFigure 1 (some .boolean) rm_X5_isFigure [.int a0] V (some (.int r)) V1) (hR : rm_X5_isFigure.frames + 1 ≤ R.frames ∧ 8 + (1 + 11) + rm_X5_isFigure.locals ≤ R.locals) (hsz : ls.size = nL) (hrest : (rest.map fun v => v.category).sum ≤ 8) (hdg : decode cc pc = .ok (.invokestatic 74, 3)) (kk : ∀ (H1 : Heap) (locs1 : List Loc), OK g LX V1 s H1 locs1 → W p l e R s m args below meth c H1 locs1 0 0 Q (F0 m (pc + 3) ls (.int r :: rest))) : W p l e R s m args below meth c H locs 0 0 Q (F0 m pc ls (.int a0 :: rest)) :=
  x_cs (As := [.int a0]) (n := 1) hB hz hM rfl rfl kw_337 kw_63 kw_335 kw_336 (by decide +kernel) rfl hR hsz hrest hdg kk
set_option maxHeartbeats 4000000 in
set_option maxRecDepth 100000 in
theorem w_X5_stepOverFigures_90_cz {p : Program} {l : Launch} {e : Env} {s : State} {m : MethodId} {args : Array Value} {below : List Frame} {meth : Method} {c : Code} {g : GP} (hB : BX p s m args meth c g LX cX5_stepOverFigures 1 RX5 none) {z : Nat} (k_z : KD LX z 4) {o : Mem} : ∀ (s1 : Int32) (V : Mem) (H : Heap) (locs : List Loc) (ls : Array Slot), f_X5_stepOverFigures_90_cz z s1 V = some o → OK g LX V s H locs → lv_has ls 1 [] → W p l e rm_X5_stepOverFigures s m args below meth c H locs 0 0 (MQ below (QQ g LX none o) args s 0 0 (Ar g LX)) (F0 m 90 ls [.int s1, .ref (ad g z)]) := by
  obtain ⟨hx, hb, hml, hown, hT, hr, hlk, hK, hJ, hZ, hN⟩ := id hB
  intro s1 V H locs ls hE hz hl
  unfold f_X5_stepOverFigures_90_cz at hE
  refine p_X5_25 hB hz k_z dX5_stepOverFigures_90 (fun H locs hz => ?_)
  exact x_vret hB hz hE dX5_stepOverFigures_93

set_option maxHeartbeats 4000000 in
set_option maxRecDepth 100000 in
theorem w_X5_stepOverFigures_71 {p : Program} {l : Launch} {e : Env} {s : State} {m : MethodId} {args : Array Value} {below : List Frame} {meth : Method} {c : Code} {g : GP} (hB : BX p s m args meth c g LX cX5_stepOverFigures 1 RX5 none) {z : Nat} (k_z : KD LX z 4) {o : Mem} : ∀ (V : Mem) (H : Heap) (locs : List Loc) (ls : Array Slot), f_X5_stepOverFigures_71 z V = some o → OK g LX V s H locs → lv_has ls 1 [(0, .ref (ad g z))] → W p l e rm_X5_stepOverFigures s m args below meth c H locs 0 0 (MQ below (QQ g LX none o) args s 0 0 (Ar g LX)) (F0 m 71 ls []) := by
  obtain ⟨hx, hb, hml, hown, hT, hr, hlk, hK, hJ, hZ, hN⟩ := id hB
  intro V H locs ls hE hz hl
  unfold f_X5_stepOverFigures_71 at hE
  refine lv_aload_n hx hb dX5_stepOverFigures_71 rfl (lv_at hl 0 rfl) ?_
  refine lv_aload_n hx hb dX5_stepOverFigures_72 rfl (lv_at hl 0 rfl) ?_
  refine g_X5_22 hB hz k_z dX5_stepOverFigures_73 ?_
  refine lv_aload_n hx hb dX5_stepOverFigures_76 rfl (lv_at hl 0 rfl) ?_
  refine g_X5_19 hB hz k_z dX5_stepOverFigures_77 ?_
  refine lv_isub hx hb dX5_stepOverFigures_80 ?_
  refine lv_iconst (v := (2 : Int32)) hx hb dX5_stepOverFigures_81 (by decide) ?_
  refine lv_icmp_gt (tgt := 89) hx hb dX5_stepOverFigures_82 (by decide) (fun c82 => ?_) (fun c82 => ?_)
  · have hE := (if_pos c82).symm.trans hE
    refine lv_iconst (v := (2 : Int32)) hx hb dX5_stepOverFigures_89 (by decide) ?_
    exact w_X5_stepOverFigures_90_cz hB k_z  _ _ _ _ _  hE hz (lv_sub hl [] rfl)
  · have hE := (if_neg c82).symm.trans hE
    refine lv_iconst (v := (1 : Int32)) hx hb dX5_stepOverFigures_85 (by decide) ?_
    refine lv_goto (tgt := 90) hx hb dX5_stepOverFigures_86 (by decide) ?_
    exact w_X5_stepOverFigures_90_cz hB k_z  _ _ _ _ _  hE hz (lv_sub hl [] rfl)

set_option maxHeartbeats 4000000 in
set_option maxRecDepth 100000 in
theorem w_X5_stepOverFigures_8 {p : Program} {l : Launch} {e : Env} {s : State} {m : MethodId} {args : Array Value} {below : List Frame} {meth : Method} {c : Code} {g : GP} (hB : BX p s m args meth c g LX cX5_stepOverFigures 1 RX5 none) {z : Nat} (k_z : KD LX z 4) {o : Mem} : ∀ (n : Nat), ∀ (V : Mem) (H : Heap) (locs : List Loc) (ls : Array Slot), f_X5_stepOverFigures_8 z n V = some o → OK g LX V s H locs → lv_has ls 1 [(0, .ref (ad g z))] → W p l e rm_X5_stepOverFigures s m args below meth c H locs 0 0 (MQ below (QQ g LX none o) args s 0 0 (Ar g LX)) (F0 m 8 ls []) := by
  obtain ⟨hx, hb, hml, hown, hT, hr, hlk, hK, hJ, hZ, hN⟩ := id hB
  intro n
  induction n with
  | zero =>
    intro V H locs ls hE hz hl
    exact absurd (show (none : Option (Mem)) = some o from hE) (by simp)
  | succ n ih =>
    intro V H locs ls hE hz hl
    unfold f_X5_stepOverFigures_8 at hE
    refine lv_aload_n hx hb dX5_stepOverFigures_8 rfl (lv_at hl 0 rfl) ?_
    refine g_X5_22 hB hz k_z dX5_stepOverFigures_9 ?_
    refine lv_aload_n hx hb dX5_stepOverFigures_12 rfl (lv_at hl 0 rfl) ?_
    refine g_X5_15 hB hz k_z dX5_stepOverFigures_13 ?_
    refine lv_icmp_ge (tgt := 71) hx hb dX5_stepOverFigures_16 (by decide) (fun c16 => ?_) (fun c16 => ?_)
    · have hE := (if_pos c16).symm.trans hE
      exact w_X5_stepOverFigures_71 hB k_z   _ _ _ _  hE hz (lv_sub hl [0] rfl)
    · have hE := (if_neg c16).symm.trans hE
      refine lv_aload_n hx hb dX5_stepOverFigures_19 rfl (lv_at hl 0 rfl) ?_
      refine g_X5_9 hB hz k_z dX5_stepOverFigures_20 ?_
      refine lv_aload_n hx hb dX5_stepOverFigures_23 rfl (lv_at hl 0 rfl) ?_
      refine g_X5_22 hB hz k_z dX5_stepOverFigures_24 ?_
      obtain ⟨hi27, hE⟩ := x_chk hE
      refine x_iald (n := 130) hB hz (kd_tp k_z) hi27 dX5_stepOverFigures_27 ?_
      obtain ⟨q28, hq28, hE⟩ := x_bind hE
      refine i_X5_74 hB hz (c_X5_isFigure l g  hq28) ⟨(Nat.le_of_ble_eq_true rfl), (Nat.le_of_ble_eq_true rfl)⟩ hl.1 (Nat.le_of_ble_eq_true rfl) dX5_stepOverFigures_28 (fun H locs hz => ?_)
      refine lv_if_eq (tgt := 71) hx hb dX5_stepOverFigures_31 (by decide) (fun c31 => ?_) (fun c31 => ?_)
      · have hE := (if_pos c31).symm.trans hE
        exact w_X5_stepOverFigures_71 hB k_z   _ _ _ _  hE hz (lv_sub hl [0] rfl)
      · have hE := (if_neg c31).symm.trans hE
        refine lv_aload_n hx hb dX5_stepOverFigures_34 rfl (lv_at hl 0 rfl) ?_
        refine lv_aload_n hx hb dX5_stepOverFigures_35 rfl (lv_at hl 0 rfl) ?_
        refine g_X5_28 hB hz k_z dX5_stepOverFigures_36 ?_
        refine lv_bipush (v := (10 : Int32)) hx hb dX5_stepOverFigures_39 (by decide) ?_
        refine lv_imul hx hb dX5_stepOverFigures_41 ?_
        refine lv_aload_n hx hb dX5_stepOverFigures_42 rfl (lv_at hl 0 rfl) ?_
        refine g_X5_9 hB hz k_z dX5_stepOverFigures_43 ?_
        refine lv_aload_n hx hb dX5_stepOverFigures_46 rfl (lv_at hl 0 rfl) ?_
        refine g_X5_22 hB hz k_z dX5_stepOverFigures_47 ?_
        obtain ⟨hi50, hE⟩ := x_chk hE
        refine x_iald (n := 130) hB hz (kd_tp k_z) hi50 dX5_stepOverFigures_50 ?_
        refine lv_iadd hx hb dX5_stepOverFigures_51 ?_
        refine lv_bipush (v := (48 : Int32)) hx hb dX5_stepOverFigures_52 (by decide) ?_
        refine lv_isub hx hb dX5_stepOverFigures_54 ?_
        refine p_X5_28 hB hz k_z dX5_stepOverFigures_55 (fun H locs hz => ?_)
        refine lv_aload_n hx hb dX5_stepOverFigures_58 rfl (lv_at hl 0 rfl) ?_
        refine lv_dup hx hb dX5_stepOverFigures_59 rfl ?_
        refine g_X5_22 hB hz k_z dX5_stepOverFigures_60 ?_
        refine lv_iconst (v := (1 : Int32)) hx hb dX5_stepOverFigures_63 (by decide) ?_
        refine lv_iadd hx hb dX5_stepOverFigures_64 ?_
        refine p_X5_22 hB hz k_z dX5_stepOverFigures_65 (fun H locs hz => ?_)
        refine lv_goto (tgt := 8) hx hb dX5_stepOverFigures_68 (by decide) ?_
        exact ih  _ _ _ _  hE hz (lv_sub hl [0] rfl)

set_option maxHeartbeats 4000000 in
set_option maxRecDepth 100000 in
theorem w_X5_stepOverFigures {p : Program} {l : Launch} {e : Env} {s : State} {m : MethodId} {args : Array Value} {below : List Frame} {meth : Method} {c : Code} {g : GP} (hB : BX p s m args meth c g LX cX5_stepOverFigures 1 RX5 none) {z : Nat} (k_z : KD LX z 4) {o : Mem} : ∀ (V : Mem) (H : Heap) (locs : List Loc) (ls : Array Slot), f_X5_stepOverFigures z V = some o → OK g LX V s H locs → lv_has ls 1 [(0, .ref (ad g z))] → W p l e rm_X5_stepOverFigures s m args below meth c H locs 0 0 (MQ below (QQ g LX none o) args s 0 0 (Ar g LX)) (F0 m 0 ls []) := by
  obtain ⟨hx, hb, hml, hown, hT, hr, hlk, hK, hJ, hZ, hN⟩ := id hB
  intro V H locs ls hE hz hl
  unfold f_X5_stepOverFigures at hE
  refine lv_aload_n hx hb dX5_stepOverFigures_0 rfl (lv_at hl 0 rfl) ?_
  refine lv_aload_n hx hb dX5_stepOverFigures_1 rfl (lv_at hl 0 rfl) ?_
  refine g_X5_19 hB hz k_z dX5_stepOverFigures_2 ?_
  refine p_X5_22 hB hz k_z dX5_stepOverFigures_5 (fun H locs hz => ?_)
  exact w_X5_stepOverFigures_8 hB k_z  _  _ _ _ _  hE hz (lv_sub hl [0] rfl)
theorem c_X5_stepOverFigures (l : Launch) (g : GP) {z : Nat} (k_z : KD LX z 4) {V : Mem} {o : Mem} (hE : f_X5_stepOverFigures z V = some o) : CT l g LX yX5_stepOverFigures cX5_stepOverFigures 1 none rm_X5_stepOverFigures [.ref (ad g z)] V none o := by
  refine ct_of (by decide) (Nat.le_of_ble_eq_true rfl) ?_
  intro p e s m args below meth c ls hB hz hl
  exact w_X5_stepOverFigures hB k_z  _ _ _ _  hE hz hl
def rm_X5_stepOn : Room := { frames := 2, cells := 0, slots := 0, locals := 40 }
theorem i_X5_78 {p : Program} {l : Launch} {e : Env} {R : Room} {s : State} {m : MethodId} {args : Array Value} {below : List Frame} {meth : Method} {c : Code} {H : Heap} {locs : List Loc} {Q : State → Prop} {cc : ByteArray} {pc : Nat} {ls : Array Slot} {rest : List Value} {g : GP} {V : Mem} {nL : Nat} {ret : Option FieldType} (hB : BX p s m args meth c g LX cc nL RX5 ret) (hz : OK g LX V s H locs) {i : Nat} (hk : KD LX i 4) {V1 : Mem} (hM : CT l g LX yX5_stepOverFigures cX5_stepOverFigures 1 none rm_X5_stepOverFigures [.ref (ad g i)] V none V1) (hR : rm_X5_stepOverFigures.frames + 1 ≤ R.frames ∧ 8 + (1 + 11) + rm_X5_stepOverFigures.locals ≤ R.locals) (hsz : ls.size = nL) (hrest : (rest.map fun v => v.category).sum ≤ 8) (hdg : decode cc pc = .ok (.invokevirtual 78, 3)) (kk : ∀ (H1 : Heap) (locs1 : List Loc), OK g LX V1 s H1 locs1 → W p l e R s m args below meth c H1 locs1 0 0 Q (F0 m (pc + 3) ls (rest))) : W p l e R s m args below meth c H locs 0 0 Q (F0 m pc ls (.ref (ad g i) :: rest)) :=
  x_cv (As := []) (n := 0) (T := TX5) (N := 7) hB hz hM hk rfl rfl rfl rfl kw_341 kw_63 kw_338 kw_340 kw_3 (by decide +kernel) rfl hR hsz hrest hdg kk
set_option maxHeartbeats 4000000 in
set_option maxRecDepth 100000 in
theorem w_X5_stepOn_96 {p : Program} {l : Launch} {e : Env} {s : State} {m : MethodId} {args : Array Value} {below : List Frame} {meth : Method} {c : Code} {g : GP} (hB : BX p s m args meth c g LX cX5_stepOn 2 RX5 none) {z : Nat} (k_z : KD LX z 4) {o : Mem} : ∀ (x1 : Int32) (V : Mem) (H : Heap) (locs : List Loc) (ls : Array Slot), f_X5_stepOn_96 z x1 V = some o → OK g LX V s H locs → lv_has ls 2 [(0, .ref (ad g z)), (1, .int x1)] → W p l e rm_X5_stepOn s m args below meth c H locs 0 0 (MQ below (QQ g LX none o) args s 0 0 (Ar g LX)) (F0 m 96 ls []) := by
  obtain ⟨hx, hb, hml, hown, hT, hr, hlk, hK, hJ, hZ, hN⟩ := id hB
  intro x1 V H locs ls hE hz hl
  unfold f_X5_stepOn_96 at hE
  refine lv_aload_n hx hb dX5_stepOn_96 rfl (lv_at hl 0 rfl) ?_
  refine lv_iload_n hx hb dX5_stepOn_97 rfl (lv_at hl 1 rfl) ?_
  refine p_X5_25 hB hz k_z dX5_stepOn_98 (fun H locs hz => ?_)
  refine lv_goto (tgt := 109) hx hb dX5_stepOn_101 (by decide) ?_
  exact x_vret hB hz hE dX5_stepOn_109

set_option maxHeartbeats 4000000 in
set_option maxRecDepth 100000 in
theorem w_X5_stepOn_84 {p : Program} {l : Launch} {e : Env} {s : State} {m : MethodId} {args : Array Value} {below : List Frame} {meth : Method} {c : Code} {g : GP} (hB : BX p s m args meth c g LX cX5_stepOn 2 RX5 none) {z : Nat} (k_z : KD LX z 4) {o : Mem} : ∀ (x1 : Int32) (V : Mem) (H : Heap) (locs : List Loc) (ls : Array Slot), f_X5_stepOn_84 z x1 V = some o → OK g LX V s H locs → lv_has ls 2 [(0, .ref (ad g z)), (1, .int x1)] → W p l e rm_X5_stepOn s m args below meth c H locs 0 0 (MQ below (QQ g LX none o) args s 0 0 (Ar g LX)) (F0 m 84 ls []) := by
  obtain ⟨hx, hb, hml, hown, hT, hr, hlk, hK, hJ, hZ, hN⟩ := id hB
  intro x1 V H locs ls hE hz hl
  unfold f_X5_stepOn_84 at hE
  refine lv_iload_n hx hb dX5_stepOn_84 rfl (lv_at hl 1 rfl) ?_
  refine lv_bipush (v := (44 : Int32)) hx hb dX5_stepOn_85 (by decide) ?_
  refine lv_icmp_eq (tgt := 96) hx hb dX5_stepOn_87 (by decide) (fun c87 => ?_) (fun c87 => ?_)
  · have hE := (if_pos c87).symm.trans hE
    exact w_X5_stepOn_96 hB k_z  _ _ _ _ _  hE hz (lv_sub hl [0, 1] rfl)
  · have hE := (if_neg c87).symm.trans hE
    refine lv_iload_n hx hb dX5_stepOn_90 rfl (lv_at hl 1 rfl) ?_
    refine lv_bipush (v := (59 : Int32)) hx hb dX5_stepOn_91 (by decide) ?_
    refine lv_icmp_ne (tgt := 104) hx hb dX5_stepOn_93 (by decide) (fun c93 => ?_) (fun c93 => ?_)
    · have hE := (if_neg c93).symm.trans hE
      refine lv_aload_n hx hb dX5_stepOn_104 rfl (lv_at hl 0 rfl) ?_
      refine lv_iconst (v := (2 : Int32)) hx hb dX5_stepOn_105 (by decide) ?_
      refine p_X5_25 hB hz k_z dX5_stepOn_106 (fun H locs hz => ?_)
      exact x_vret hB hz hE dX5_stepOn_109
    · have hE := (if_pos c93).symm.trans hE
      exact w_X5_stepOn_96 hB k_z  _ _ _ _ _  hE hz (lv_sub hl [0, 1] rfl)

set_option maxHeartbeats 4000000 in
set_option maxRecDepth 100000 in
theorem w_X5_stepOn {p : Program} {l : Launch} {e : Env} {s : State} {m : MethodId} {args : Array Value} {below : List Frame} {meth : Method} {c : Code} {g : GP} (hB : BX p s m args meth c g LX cX5_stepOn 2 RX5 none) {z : Nat} (k_z : KD LX z 4) {o : Mem} : ∀ (V : Mem) (H : Heap) (locs : List Loc) (ls : Array Slot), f_X5_stepOn z V = some o → OK g LX V s H locs → lv_has ls 2 [(0, .ref (ad g z))] → W p l e rm_X5_stepOn s m args below meth c H locs 0 0 (MQ below (QQ g LX none o) args s 0 0 (Ar g LX)) (F0 m 0 ls []) := by
  obtain ⟨hx, hb, hml, hown, hT, hr, hlk, hK, hJ, hZ, hN⟩ := id hB
  intro V H locs ls hE hz hl
  unfold f_X5_stepOn at hE
  refine lv_aload_n hx hb dX5_stepOn_0 rfl (lv_at hl 0 rfl) ?_
  refine g_X5_31 hB hz k_z dX5_stepOn_1 ?_
  refine lv_if_eq (tgt := 8) hx hb dX5_stepOn_4 (by decide) (fun c4 => ?_) (fun c4 => ?_)
  · have hE := (if_pos c4).symm.trans hE
    refine lv_aload_n hx hb dX5_stepOn_8 rfl (lv_at hl 0 rfl) ?_
    refine lv_aload_n hx hb dX5_stepOn_9 rfl (lv_at hl 0 rfl) ?_
    refine g_X5_22 hB hz k_z dX5_stepOn_10 ?_
    refine p_X5_19 hB hz k_z dX5_stepOn_13 (fun H locs hz => ?_)
    refine lv_aload_n hx hb dX5_stepOn_16 rfl (lv_at hl 0 rfl) ?_
    refine lv_iconst (v := (0 : Int32)) hx hb dX5_stepOn_17 (by decide) ?_
    refine p_X5_28 hB hz k_z dX5_stepOn_18 (fun H locs hz => ?_)
    refine lv_aload_n hx hb dX5_stepOn_21 rfl (lv_at hl 0 rfl) ?_
    refine g_X5_19 hB hz k_z dX5_stepOn_22 ?_
    refine lv_aload_n hx hb dX5_stepOn_25 rfl (lv_at hl 0 rfl) ?_
    refine g_X5_15 hB hz k_z dX5_stepOn_26 ?_
    refine lv_icmp_lt (tgt := 38) hx hb dX5_stepOn_29 (by decide) (fun c29 => ?_) (fun c29 => ?_)
    · have hE := (if_pos c29).symm.trans hE
      refine lv_aload_n hx hb dX5_stepOn_38 rfl (lv_at hl 0 rfl) ?_
      refine lv_aload_n hx hb dX5_stepOn_39 rfl (lv_at hl 0 rfl) ?_
      refine g_X5_19 hB hz k_z dX5_stepOn_40 ?_
      refine lv_iconst (v := (1 : Int32)) hx hb dX5_stepOn_43 (by decide) ?_
      refine lv_iadd hx hb dX5_stepOn_44 ?_
      refine p_X5_22 hB hz k_z dX5_stepOn_45 (fun H locs hz => ?_)
      refine lv_aload_n hx hb dX5_stepOn_48 rfl (lv_at hl 0 rfl) ?_
      refine g_X5_9 hB hz k_z dX5_stepOn_49 ?_
      refine lv_aload_n hx hb dX5_stepOn_52 rfl (lv_at hl 0 rfl) ?_
      refine g_X5_19 hB hz k_z dX5_stepOn_53 ?_
      obtain ⟨hi56, hE⟩ := x_chk hE
      refine x_iald (n := 130) hB hz (kd_tp k_z) hi56 dX5_stepOn_56 ?_
      refine lv_istore_n (lv' := [(1, .int ((st (st (st V z 2 (V z 3)) z 5 (0 : Int32)) z 3 (((st (st V z 2 (V z 3)) z 5 (0 : Int32)) z 2) + (1 : Int32))) (z + 1) (((st (st (st V z 2 (V z 3)) z 5 (0 : Int32)) z 3 (((st (st V z 2 (V z 3)) z 5 (0 : Int32)) z 2) + (1 : Int32))) z 2)).toNatClampNeg)), (0, .ref (ad g z))]) hx hb dX5_stepOn_57 rfl hl (by decide) rfl (fun ls hl => ?_)
      refine lv_iload_n hx hb dX5_stepOn_58 rfl (lv_at hl 0 rfl) ?_
      obtain ⟨q59, hq59, hE⟩ := x_bind hE
      refine i_X5_74 hB hz (c_X5_isFigure l g  hq59) ⟨(Nat.le_of_ble_eq_true rfl), (Nat.le_of_ble_eq_true rfl)⟩ hl.1 (Nat.le_of_ble_eq_true rfl) dX5_stepOn_59 (fun H locs hz => ?_)
      refine lv_if_eq (tgt := 72) hx hb dX5_stepOn_62 (by decide) (fun c62 => ?_) (fun c62 => ?_)
      · have hE := (if_pos c62).symm.trans hE
        refine lv_iload_n hx hb dX5_stepOn_72 rfl (lv_at hl 0 rfl) ?_
        refine lv_bipush (v := (97 : Int32)) hx hb dX5_stepOn_73 (by decide) ?_
        refine lv_icmp_lt (tgt := 84) hx hb dX5_stepOn_75 (by decide) (fun c75 => ?_) (fun c75 => ?_)
        · have hE := (if_pos c75).symm.trans hE
          exact w_X5_stepOn_84 hB k_z  _ _ _ _ _  hE hz (lv_sub hl [1, 0] rfl)
        · have hE := (if_neg c75).symm.trans hE
          refine lv_iload_n hx hb dX5_stepOn_78 rfl (lv_at hl 0 rfl) ?_
          refine lv_bipush (v := (122 : Int32)) hx hb dX5_stepOn_79 (by decide) ?_
          refine lv_icmp_le (tgt := 96) hx hb dX5_stepOn_81 (by decide) (fun c81 => ?_) (fun c81 => ?_)
          · have hE := (if_pos c81).symm.trans hE
            exact w_X5_stepOn_96 hB k_z  _ _ _ _ _  hE hz (lv_sub hl [1, 0] rfl)
          · have hE := (if_neg c81).symm.trans hE
            exact w_X5_stepOn_84 hB k_z  _ _ _ _ _  hE hz (lv_sub hl [1, 0] rfl)
      · have hE := (if_neg c62).symm.trans hE
        refine lv_aload_n hx hb dX5_stepOn_65 rfl (lv_at hl 1 rfl) ?_
        obtain ⟨q66, hq66, hE⟩ := x_bind hE
        refine i_X5_78 hB hz k_z (c_X5_stepOverFigures l g k_z hq66) ⟨(Nat.le_of_ble_eq_true rfl), (Nat.le_of_ble_eq_true rfl)⟩ hl.1 (Nat.le_of_ble_eq_true rfl) dX5_stepOn_66 (fun H locs hz => ?_)
        refine lv_goto (tgt := 109) hx hb dX5_stepOn_69 (by decide) ?_
        exact x_vret hB hz hE dX5_stepOn_109
    · have hE := (if_neg c29).symm.trans hE
      refine lv_aload_n hx hb dX5_stepOn_32 rfl (lv_at hl 0 rfl) ?_
      refine lv_iconst (v := (0 : Int32)) hx hb dX5_stepOn_33 (by decide) ?_
      refine p_X5_25 hB hz k_z dX5_stepOn_34 (fun H locs hz => ?_)
      exact x_vret hB hz hE dX5_stepOn_37
  · have hE := (if_neg c4).symm.trans hE
    exact x_vret hB hz hE dX5_stepOn_7
theorem c_X5_stepOn (l : Launch) (g : GP) {z : Nat} (k_z : KD LX z 4) {V : Mem} {o : Mem} (hE : f_X5_stepOn z V = some o) : CT l g LX yX5_stepOn cX5_stepOn 2 none rm_X5_stepOn [.ref (ad g z)] V none o := by
  refine ct_of (by decide) (Nat.le_of_ble_eq_true rfl) ?_
  intro p e s m args below meth c ls hB hz hl
  exact w_X5_stepOn hB k_z  _ _ _ _  hE hz hl
def rm_X5_pass : Room := { frames := 3, cells := 0, slots := 0, locals := 61 }
theorem i_X5_39 {p : Program} {l : Launch} {e : Env} {R : Room} {s : State} {m : MethodId} {args : Array Value} {below : List Frame} {meth : Method} {c : Code} {H : Heap} {locs : List Loc} {Q : State → Prop} {cc : ByteArray} {pc : Nat} {ls : Array Slot} {rest : List Value} {g : GP} {V : Mem} {nL : Nat} {ret : Option FieldType} (hB : BX p s m args meth c g LX cc nL RX5 ret) (hz : OK g LX V s H locs) {i : Nat} (hk : KD LX i 4) {V1 : Mem} (hM : CT l g LX yX5_stepOn cX5_stepOn 2 none rm_X5_stepOn [.ref (ad g i)] V none V1) (hR : rm_X5_stepOn.frames + 1 ≤ R.frames ∧ 8 + (2 + 11) + rm_X5_stepOn.locals ≤ R.locals) (hsz : ls.size = nL) (hrest : (rest.map fun v => v.category).sum ≤ 8) (hdg : decode cc pc = .ok (.invokevirtual 39, 3)) (kk : ∀ (H1 : Heap) (locs1 : List Loc), OK g LX V1 s H1 locs1 → W p l e R s m args below meth c H1 locs1 0 0 Q (F0 m (pc + 3) ls (rest))) : W p l e R s m args below meth c H locs 0 0 Q (F0 m pc ls (.ref (ad g i) :: rest)) :=
  x_cv (As := []) (n := 0) (T := TX5) (N := 7) hB hz hM hk rfl rfl rfl rfl kw_334 kw_63 kw_331 kw_333 kw_2 (by decide +kernel) rfl hR hsz hrest hdg kk
set_option maxHeartbeats 4000000 in
set_option maxRecDepth 100000 in
theorem w_X5_pass_20 {p : Program} {l : Launch} {e : Env} {s : State} {m : MethodId} {args : Array Value} {below : List Frame} {meth : Method} {c : Code} {g : GP} (hB : BX p s m args meth c g LX cX5_pass 2 RX5 none) {z : Nat} (k_z : KD LX z 4) {o : Mem} : ∀ (V : Mem) (H : Heap) (locs : List Loc) (ls : Array Slot), f_X5_pass_20 z V = some o → OK g LX V s H locs → lv_has ls 2 [(0, .ref (ad g z))] → W p l e rm_X5_pass s m args below meth c H locs 0 0 (MQ below (QQ g LX none o) args s 0 0 (Ar g LX)) (F0 m 20 ls []) := by
  obtain ⟨hx, hb, hml, hown, hT, hr, hlk, hK, hJ, hZ, hN⟩ := id hB
  intro V H locs ls hE hz hl
  unfold f_X5_pass_20 at hE
  refine lv_aload_n hx hb dX5_pass_20 rfl (lv_at hl 0 rfl) ?_
  obtain ⟨q21, hq21, hE⟩ := x_bind hE
  refine i_X5_39 hB hz k_z (c_X5_stepOn l g k_z hq21) ⟨(Nat.le_of_ble_eq_true rfl), (Nat.le_of_ble_eq_true rfl)⟩ hl.1 (Nat.le_of_ble_eq_true rfl) dX5_pass_21 (fun H locs hz => ?_)
  exact x_vret hB hz hE dX5_pass_24

set_option maxHeartbeats 4000000 in
set_option maxRecDepth 100000 in
theorem w_X5_pass {p : Program} {l : Launch} {e : Env} {s : State} {m : MethodId} {args : Array Value} {below : List Frame} {meth : Method} {c : Code} {g : GP} (hB : BX p s m args meth c g LX cX5_pass 2 RX5 none) {z : Nat} (k_z : KD LX z 4) {o : Mem} : ∀ (x1 : Int32) (V : Mem) (H : Heap) (locs : List Loc) (ls : Array Slot), f_X5_pass z x1 V = some o → OK g LX V s H locs → lv_has ls 2 [(0, .ref (ad g z)), (1, .int x1)] → W p l e rm_X5_pass s m args below meth c H locs 0 0 (MQ below (QQ g LX none o) args s 0 0 (Ar g LX)) (F0 m 0 ls []) := by
  obtain ⟨hx, hb, hml, hown, hT, hr, hlk, hK, hJ, hZ, hN⟩ := id hB
  intro x1 V H locs ls hE hz hl
  unfold f_X5_pass at hE
  refine lv_aload_n hx hb dX5_pass_0 rfl (lv_at hl 0 rfl) ?_
  refine g_X5_31 hB hz k_z dX5_pass_1 ?_
  refine lv_if_ne (tgt := 20) hx hb dX5_pass_4 (by decide) (fun c4 => ?_) (fun c4 => ?_)
  · have hE := (if_neg c4).symm.trans hE
    exact w_X5_pass_20 hB k_z   _ _ _ _  hE hz (lv_sub hl [0] rfl)
  · have hE := (if_pos c4).symm.trans hE
    refine lv_aload_n hx hb dX5_pass_7 rfl (lv_at hl 0 rfl) ?_
    refine g_X5_25 hB hz k_z dX5_pass_8 ?_
    refine lv_iload_n hx hb dX5_pass_11 rfl (lv_at hl 1 rfl) ?_
    refine lv_icmp_eq (tgt := 20) hx hb dX5_pass_12 (by decide) (fun c12 => ?_) (fun c12 => ?_)
    · have hE := (if_pos c12).symm.trans hE
      exact w_X5_pass_20 hB k_z   _ _ _ _  hE hz (lv_sub hl [0] rfl)
    · have hE := (if_neg c12).symm.trans hE
      refine lv_aload_n hx hb dX5_pass_15 rfl (lv_at hl 0 rfl) ?_
      refine lv_iconst (v := (1 : Int32)) hx hb dX5_pass_16 (by decide) ?_
      refine p_X5_31 hB hz k_z dX5_pass_17 (fun H locs hz => ?_)
      exact w_X5_pass_20 hB k_z   _ _ _ _  hE hz (lv_sub hl [0] rfl)
theorem c_X5_pass (l : Launch) (g : GP) {z : Nat} (k_z : KD LX z 4) {x1 : Int32} {V : Mem} {o : Mem} (hE : f_X5_pass z x1 V = some o) : CT l g LX yX5_pass cX5_pass 2 none rm_X5_pass [.ref (ad g z), .int x1] V none o := by
  refine ct_of (by decide) (Nat.le_of_ble_eq_true rfl) ?_
  intro p e s m args below meth c ls hB hz hl
  exact w_X5_pass hB k_z _ _ _ _ _  hE hz hl
def rm_X5_passNumber : Room := { frames := 3, cells := 0, slots := 0, locals := 61 }
set_option maxHeartbeats 4000000 in
set_option maxRecDepth 100000 in
theorem w_X5_passNumber_40 {p : Program} {l : Launch} {e : Env} {s : State} {m : MethodId} {args : Array Value} {below : List Frame} {meth : Method} {c : Code} {g : GP} (hB : BX p s m args meth c g LX cX5_passNumber 3 RX5 (some .int)) {z : Nat} (k_z : KD LX z 4) {o : Int32 × Mem} : ∀ (V : Mem) (H : Heap) (locs : List Loc) (ls : Array Slot), f_X5_passNumber_40 z V = some o → OK g LX V s H locs → lv_has ls 3 [(0, .ref (ad g z))] → W p l e rm_X5_passNumber s m args below meth c H locs 0 0 (MQ below (QQ g LX (some (.int o.1)) o.2) args s 0 0 (Ar g LX)) (F0 m 40 ls []) := by
  obtain ⟨hx, hb, hml, hown, hT, hr, hlk, hK, hJ, hZ, hN⟩ := id hB
  intro V H locs ls hE hz hl
  unfold f_X5_passNumber_40 at hE
  refine lv_aload_n hx hb dX5_passNumber_40 rfl (lv_at hl 0 rfl) ?_
  refine g_X5_28 hB hz k_z dX5_passNumber_41 ?_
  refine lv_istore_n (lv' := [(2, .int (V z 5)), (0, .ref (ad g z))]) hx hb dX5_passNumber_44 rfl hl (by decide) rfl (fun ls hl => ?_)
  refine lv_aload_n hx hb dX5_passNumber_45 rfl (lv_at hl 1 rfl) ?_
  obtain ⟨q46, hq46, hE⟩ := x_bind hE
  refine i_X5_39 hB hz k_z (c_X5_stepOn l g k_z hq46) ⟨(Nat.le_of_ble_eq_true rfl), (Nat.le_of_ble_eq_true rfl)⟩ hl.1 (Nat.le_of_ble_eq_true rfl) dX5_passNumber_46 (fun H locs hz => ?_)
  refine lv_iload_n hx hb dX5_passNumber_49 rfl (lv_at hl 0 rfl) ?_
  exact x_iret hB hz hE dX5_passNumber_50

set_option maxHeartbeats 4000000 in
set_option maxRecDepth 100000 in
theorem w_X5_passNumber_20 {p : Program} {l : Launch} {e : Env} {s : State} {m : MethodId} {args : Array Value} {below : List Frame} {meth : Method} {c : Code} {g : GP} (hB : BX p s m args meth c g LX cX5_passNumber 3 RX5 (some .int)) {z : Nat} (k_z : KD LX z 4) {o : Int32 × Mem} : ∀ (x1 : Int32) (V : Mem) (H : Heap) (locs : List Loc) (ls : Array Slot), f_X5_passNumber_20 z x1 V = some o → OK g LX V s H locs → lv_has ls 3 [(0, .ref (ad g z)), (1, .int x1)] → W p l e rm_X5_passNumber s m args below meth c H locs 0 0 (MQ below (QQ g LX (some (.int o.1)) o.2) args s 0 0 (Ar g LX)) (F0 m 20 ls []) := by
  obtain ⟨hx, hb, hml, hown, hT, hr, hlk, hK, hJ, hZ, hN⟩ := id hB
  intro x1 V H locs ls hE hz hl
  unfold f_X5_passNumber_20 at hE
  refine lv_aload_n hx hb dX5_passNumber_20 rfl (lv_at hl 0 rfl) ?_
  refine g_X5_31 hB hz k_z dX5_passNumber_21 ?_
  refine lv_if_ne (tgt := 40) hx hb dX5_passNumber_24 (by decide) (fun c24 => ?_) (fun c24 => ?_)
  · have hE := (if_neg c24).symm.trans hE
    exact w_X5_passNumber_40 hB k_z   _ _ _ _  hE hz (lv_sub hl [0] rfl)
  · have hE := (if_pos c24).symm.trans hE
    refine lv_aload_n hx hb dX5_passNumber_27 rfl (lv_at hl 0 rfl) ?_
    refine g_X5_28 hB hz k_z dX5_passNumber_28 ?_
    refine lv_iload_n hx hb dX5_passNumber_31 rfl (lv_at hl 1 rfl) ?_
    refine lv_icmp_le (tgt := 40) hx hb dX5_passNumber_32 (by decide) (fun c32 => ?_) (fun c32 => ?_)
    · have hE := (if_pos c32).symm.trans hE
      exact w_X5_passNumber_40 hB k_z   _ _ _ _  hE hz (lv_sub hl [0] rfl)
    · have hE := (if_neg c32).symm.trans hE
      refine lv_aload_n hx hb dX5_passNumber_35 rfl (lv_at hl 0 rfl) ?_
      refine lv_iconst (v := (2 : Int32)) hx hb dX5_passNumber_36 (by decide) ?_
      refine p_X5_31 hB hz k_z dX5_passNumber_37 (fun H locs hz => ?_)
      exact w_X5_passNumber_40 hB k_z   _ _ _ _  hE hz (lv_sub hl [0] rfl)

set_option maxHeartbeats 4000000 in
set_option maxRecDepth 100000 in
theorem w_X5_passNumber {p : Program} {l : Launch} {e : Env} {s : State} {m : MethodId} {args : Array Value} {below : List Frame} {meth : Method} {c : Code} {g : GP} (hB : BX p s m args meth c g LX cX5_passNumber 3 RX5 (some .int)) {z : Nat} (k_z : KD LX z 4) {o : Int32 × Mem} : ∀ (x1 : Int32) (V : Mem) (H : Heap) (locs : List Loc) (ls : Array Slot), f_X5_passNumber z x1 V = some o → OK g LX V s H locs → lv_has ls 3 [(0, .ref (ad g z)), (1, .int x1)] → W p l e rm_X5_passNumber s m args below meth c H locs 0 0 (MQ below (QQ g LX (some (.int o.1)) o.2) args s 0 0 (Ar g LX)) (F0 m 0 ls []) := by
  obtain ⟨hx, hb, hml, hown, hT, hr, hlk, hK, hJ, hZ, hN⟩ := id hB
  intro x1 V H locs ls hE hz hl
  unfold f_X5_passNumber at hE
  refine lv_aload_n hx hb dX5_passNumber_0 rfl (lv_at hl 0 rfl) ?_
  refine g_X5_31 hB hz k_z dX5_passNumber_1 ?_
  refine lv_if_ne (tgt := 20) hx hb dX5_passNumber_4 (by decide) (fun c4 => ?_) (fun c4 => ?_)
  · have hE := (if_neg c4).symm.trans hE
    exact w_X5_passNumber_20 hB k_z  _ _ _ _ _  hE hz (lv_sub hl [0, 1] rfl)
  · have hE := (if_pos c4).symm.trans hE
    refine lv_aload_n hx hb dX5_passNumber_7 rfl (lv_at hl 0 rfl) ?_
    refine g_X5_25 hB hz k_z dX5_passNumber_8 ?_
    refine lv_iconst (v := (1 : Int32)) hx hb dX5_passNumber_11 (by decide) ?_
    refine lv_icmp_eq (tgt := 20) hx hb dX5_passNumber_12 (by decide) (fun c12 => ?_) (fun c12 => ?_)
    · have hE := (if_pos c12).symm.trans hE
      exact w_X5_passNumber_20 hB k_z  _ _ _ _ _  hE hz (lv_sub hl [0, 1] rfl)
    · have hE := (if_neg c12).symm.trans hE
      refine lv_aload_n hx hb dX5_passNumber_15 rfl (lv_at hl 0 rfl) ?_
      refine lv_iconst (v := (1 : Int32)) hx hb dX5_passNumber_16 (by decide) ?_
      refine p_X5_31 hB hz k_z dX5_passNumber_17 (fun H locs hz => ?_)
      exact w_X5_passNumber_20 hB k_z  _ _ _ _ _  hE hz (lv_sub hl [0, 1] rfl)
theorem c_X5_passNumber (l : Launch) (g : GP) {z : Nat} (k_z : KD LX z 4) {x1 : Int32} {V : Mem} {o : Int32 × Mem} (hE : f_X5_passNumber z x1 V = some o) : CT l g LX yX5_passNumber cX5_passNumber 3 (some .int) rm_X5_passNumber [.ref (ad g z), .int x1] V (some (.int o.1)) o.2 := by
  refine ct_of (by decide) (Nat.le_of_ble_eq_true rfl) ?_
  intro p e s m args below meth c ls hB hz hl
  exact w_X5_passNumber hB k_z _ _ _ _ _  hE hz hl
def rm_X5_passSort : Room := { frames := 3, cells := 0, slots := 0, locals := 61 }
set_option maxHeartbeats 4000000 in
set_option maxRecDepth 100000 in
theorem w_X5_passSort_67 {p : Program} {l : Launch} {e : Env} {s : State} {m : MethodId} {args : Array Value} {below : List Frame} {meth : Method} {c : Code} {g : GP} (hB : BX p s m args meth c g LX cX5_passSort 3 RX5 (some .int)) {z : Nat} (k_z : KD LX z 4) {o : Int32 × Mem} : ∀ (x2 : Int32) (V : Mem) (H : Heap) (locs : List Loc) (ls : Array Slot), f_X5_passSort_67 z x2 V = some o → OK g LX V s H locs → lv_has ls 3 [(0, .ref (ad g z)), (2, .int x2)] → W p l e rm_X5_passSort s m args below meth c H locs 0 0 (MQ below (QQ g LX (some (.int o.1)) o.2) args s 0 0 (Ar g LX)) (F0 m 67 ls []) := by
  obtain ⟨hx, hb, hml, hown, hT, hr, hlk, hK, hJ, hZ, hN⟩ := id hB
  intro x2 V H locs ls hE hz hl
  unfold f_X5_passSort_67 at hE
  refine lv_aload_n hx hb dX5_passSort_67 rfl (lv_at hl 0 rfl) ?_
  obtain ⟨q68, hq68, hE⟩ := x_bind hE
  refine i_X5_39 hB hz k_z (c_X5_stepOn l g k_z hq68) ⟨(Nat.le_of_ble_eq_true rfl), (Nat.le_of_ble_eq_true rfl)⟩ hl.1 (Nat.le_of_ble_eq_true rfl) dX5_passSort_68 (fun H locs hz => ?_)
  refine lv_iload_n hx hb dX5_passSort_71 rfl (lv_at hl 1 rfl) ?_
  exact x_iret hB hz hE dX5_passSort_72

set_option maxHeartbeats 4000000 in
set_option maxRecDepth 100000 in
theorem w_X5_passSort_49 {p : Program} {l : Launch} {e : Env} {s : State} {m : MethodId} {args : Array Value} {below : List Frame} {meth : Method} {c : Code} {g : GP} (hB : BX p s m args meth c g LX cX5_passSort 3 RX5 (some .int)) {z : Nat} (k_z : KD LX z 4) {o : Int32 × Mem} : ∀ (x1 : Int32) (x2 : Int32) (V : Mem) (H : Heap) (locs : List Loc) (ls : Array Slot), f_X5_passSort_49 z x1 x2 V = some o → OK g LX V s H locs → lv_has ls 3 [(0, .ref (ad g z)), (1, .int x1), (2, .int x2)] → W p l e rm_X5_passSort s m args below meth c H locs 0 0 (MQ below (QQ g LX (some (.int o.1)) o.2) args s 0 0 (Ar g LX)) (F0 m 49 ls []) := by
  obtain ⟨hx, hb, hml, hown, hT, hr, hlk, hK, hJ, hZ, hN⟩ := id hB
  intro x1 x2 V H locs ls hE hz hl
  unfold f_X5_passSort_49 at hE
  refine lv_aload_n hx hb dX5_passSort_49 rfl (lv_at hl 0 rfl) ?_
  refine g_X5_31 hB hz k_z dX5_passSort_50 ?_
  refine lv_if_ne (tgt := 67) hx hb dX5_passSort_53 (by decide) (fun c53 => ?_) (fun c53 => ?_)
  · have hE := (if_neg c53).symm.trans hE
    exact w_X5_passSort_67 hB k_z  _ _ _ _ _  hE hz (lv_sub hl [0, 2] rfl)
  · have hE := (if_pos c53).symm.trans hE
    refine lv_iload_n hx hb dX5_passSort_56 rfl (lv_at hl 1 rfl) ?_
    refine lv_bipush (v := (16 : Int32)) hx hb dX5_passSort_57 (by decide) ?_
    refine lv_icmp_lt (tgt := 67) hx hb dX5_passSort_59 (by decide) (fun c59 => ?_) (fun c59 => ?_)
    · have hE := (if_pos c59).symm.trans hE
      exact w_X5_passSort_67 hB k_z  _ _ _ _ _  hE hz (lv_sub hl [0, 2] rfl)
    · have hE := (if_neg c59).symm.trans hE
      refine lv_aload_n hx hb dX5_passSort_62 rfl (lv_at hl 0 rfl) ?_
      refine lv_iconst (v := (3 : Int32)) hx hb dX5_passSort_63 (by decide) ?_
      refine p_X5_31 hB hz k_z dX5_passSort_64 (fun H locs hz => ?_)
      exact w_X5_passSort_67 hB k_z  _ _ _ _ _  hE hz (lv_sub hl [0, 2] rfl)

set_option maxHeartbeats 4000000 in
set_option maxRecDepth 100000 in
theorem w_X5_passSort_25 {p : Program} {l : Launch} {e : Env} {s : State} {m : MethodId} {args : Array Value} {below : List Frame} {meth : Method} {c : Code} {g : GP} (hB : BX p s m args meth c g LX cX5_passSort 3 RX5 (some .int)) {z : Nat} (k_z : KD LX z 4) {o : Int32 × Mem} : ∀ (x1 : Int32) (x2 : Int32) (V : Mem) (H : Heap) (locs : List Loc) (ls : Array Slot), f_X5_passSort_25 z x1 x2 V = some o → OK g LX V s H locs → lv_has ls 3 [(0, .ref (ad g z)), (1, .int x1), (2, .int x2)] → W p l e rm_X5_passSort s m args below meth c H locs 0 0 (MQ below (QQ g LX (some (.int o.1)) o.2) args s 0 0 (Ar g LX)) (F0 m 25 ls []) := by
  obtain ⟨hx, hb, hml, hown, hT, hr, hlk, hK, hJ, hZ, hN⟩ := id hB
  intro x1 x2 V H locs ls hE hz hl
  unfold f_X5_passSort_25 at hE
  refine lv_aload_n hx hb dX5_passSort_25 rfl (lv_at hl 0 rfl) ?_
  refine g_X5_31 hB hz k_z dX5_passSort_26 ?_
  refine lv_if_ne (tgt := 49) hx hb dX5_passSort_29 (by decide) (fun c29 => ?_) (fun c29 => ?_)
  · have hE := (if_neg c29).symm.trans hE
    exact w_X5_passSort_49 hB k_z  _ _ _ _ _ _  hE hz (lv_sub hl [0, 1, 2] rfl)
  · have hE := (if_pos c29).symm.trans hE
    refine x_gstN (k := 1) (by decide) hB hz (by decide) (by decide) dX5_passSort_32 ?_
    refine lv_iload_n hx hb dX5_passSort_35 rfl (lv_at hl 2 rfl) ?_
    obtain ⟨hi36, hE⟩ := x_chk hE
    refine x_stc (k := 1) (by decide) rfl hB hz hi36 dX5_passSort_36 ?_
    refine lv_aload_n hx hb dX5_passSort_37 rfl (lv_at hl 0 rfl) ?_
    refine g_X5_25 hB hz k_z dX5_passSort_38 ?_
    refine lv_icmp_eq (tgt := 49) hx hb dX5_passSort_41 (by decide) (fun c41 => ?_) (fun c41 => ?_)
    · have hE := (if_pos c41).symm.trans hE
      exact w_X5_passSort_49 hB k_z  _ _ _ _ _ _  hE hz (lv_sub hl [0, 1, 2] rfl)
    · have hE := (if_neg c41).symm.trans hE
      refine lv_aload_n hx hb dX5_passSort_44 rfl (lv_at hl 0 rfl) ?_
      refine lv_iconst (v := (1 : Int32)) hx hb dX5_passSort_45 (by decide) ?_
      refine p_X5_31 hB hz k_z dX5_passSort_46 (fun H locs hz => ?_)
      exact w_X5_passSort_49 hB k_z  _ _ _ _ _ _  hE hz (lv_sub hl [0, 1, 2] rfl)

set_option maxHeartbeats 4000000 in
set_option maxRecDepth 100000 in
theorem w_X5_passSort_2 {p : Program} {l : Launch} {e : Env} {s : State} {m : MethodId} {args : Array Value} {below : List Frame} {meth : Method} {c : Code} {g : GP} (hB : BX p s m args meth c g LX cX5_passSort 3 RX5 (some .int)) {z : Nat} (k_z : KD LX z 4) {o : Int32 × Mem} : ∀ (n : Nat), ∀ (x1 : Int32) (x2 : Int32) (V : Mem) (H : Heap) (locs : List Loc) (ls : Array Slot), f_X5_passSort_2 z n x1 x2 V = some o → OK g LX V s H locs → lv_has ls 3 [(0, .ref (ad g z)), (1, .int x1), (2, .int x2)] → W p l e rm_X5_passSort s m args below meth c H locs 0 0 (MQ below (QQ g LX (some (.int o.1)) o.2) args s 0 0 (Ar g LX)) (F0 m 2 ls []) := by
  obtain ⟨hx, hb, hml, hown, hT, hr, hlk, hK, hJ, hZ, hN⟩ := id hB
  intro n
  induction n with
  | zero =>
    intro x1 x2 V H locs ls hE hz hl
    exact absurd (show (none : Option (Int32 × Mem)) = some o from hE) (by simp)
  | succ n ih =>
    intro x1 x2 V H locs ls hE hz hl
    unfold f_X5_passSort_2 at hE
    refine lv_iload_n hx hb dX5_passSort_2 rfl (lv_at hl 2 rfl) ?_
    refine lv_iconst (v := (5 : Int32)) hx hb dX5_passSort_3 (by decide) ?_
    refine lv_icmp_ge (tgt := 25) hx hb dX5_passSort_4 (by decide) (fun c4 => ?_) (fun c4 => ?_)
    · have hE := (if_pos c4).symm.trans hE
      exact w_X5_passSort_25 hB k_z  _ _ _ _ _ _  hE hz (lv_sub hl [0, 1, 2] rfl)
    · have hE := (if_neg c4).symm.trans hE
      refine x_gstN (k := 1) (by decide) hB hz (by decide) (by decide) dX5_passSort_7 ?_
      refine lv_iload_n hx hb dX5_passSort_10 rfl (lv_at hl 2 rfl) ?_
      obtain ⟨hi11, hE⟩ := x_chk hE
      refine x_stc (k := 1) (by decide) rfl hB hz hi11 dX5_passSort_11 ?_
      refine lv_aload_n hx hb dX5_passSort_12 rfl (lv_at hl 0 rfl) ?_
      refine g_X5_25 hB hz k_z dX5_passSort_13 ?_
      refine lv_icmp_eq (tgt := 25) hx hb dX5_passSort_16 (by decide) (fun c16 => ?_) (fun c16 => ?_)
      · have hE := (if_pos c16).symm.trans hE
        exact w_X5_passSort_25 hB k_z  _ _ _ _ _ _  hE hz (lv_sub hl [0, 1, 2] rfl)
      · have hE := (if_neg c16).symm.trans hE
        refine lv_iinc (v := (x2 + 1)) (lv' := [(2, .int (x2 + 1)), (0, .ref (ad g z)), (1, .int x1)]) hx hb dX5_passSort_19 hl (k := 2) rfl rfl (by decide) rfl (fun ls hl => ?_)
        refine lv_goto (tgt := 2) hx hb dX5_passSort_22 (by decide) ?_
        exact ih _ _ _ _ _ _  hE hz (lv_sub hl [1, 2, 0] rfl)

set_option maxHeartbeats 4000000 in
set_option maxRecDepth 100000 in
theorem w_X5_passSort {p : Program} {l : Launch} {e : Env} {s : State} {m : MethodId} {args : Array Value} {below : List Frame} {meth : Method} {c : Code} {g : GP} (hB : BX p s m args meth c g LX cX5_passSort 3 RX5 (some .int)) {z : Nat} (k_z : KD LX z 4) {o : Int32 × Mem} : ∀ (x1 : Int32) (V : Mem) (H : Heap) (locs : List Loc) (ls : Array Slot), f_X5_passSort z x1 V = some o → OK g LX V s H locs → lv_has ls 3 [(0, .ref (ad g z)), (1, .int x1)] → W p l e rm_X5_passSort s m args below meth c H locs 0 0 (MQ below (QQ g LX (some (.int o.1)) o.2) args s 0 0 (Ar g LX)) (F0 m 0 ls []) := by
  obtain ⟨hx, hb, hml, hown, hT, hr, hlk, hK, hJ, hZ, hN⟩ := id hB
  intro x1 V H locs ls hE hz hl
  unfold f_X5_passSort at hE
  refine lv_iconst (v := (1 : Int32)) hx hb dX5_passSort_0 (by decide) ?_
  refine lv_istore_n (lv' := [(2, .int (1 : Int32)), (0, .ref (ad g z)), (1, .int x1)]) hx hb dX5_passSort_1 rfl hl (by decide) rfl (fun ls hl => ?_)
  exact w_X5_passSort_2 hB k_z  _ _ _ _ _ _ _  hE hz (lv_sub hl [1, 2, 0] rfl)
theorem c_X5_passSort (l : Launch) (g : GP) {z : Nat} (k_z : KD LX z 4) {x1 : Int32} {V : Mem} {o : Int32 × Mem} (hE : f_X5_passSort z x1 V = some o) : CT l g LX yX5_passSort cX5_passSort 3 (some .int) rm_X5_passSort [.ref (ad g z), .int x1] V (some (.int o.1)) o.2 := by
  refine ct_of (by decide) (Nat.le_of_ble_eq_true rfl) ?_
  intro p e s m args below meth c ls hB hz hl
  exact w_X5_passSort hB k_z _ _ _ _ _  hE hz hl
def rm_X5_readLaw : Room := { frames := 4, cells := 0, slots := 0, locals := 83 }
theorem i_X5_49 {p : Program} {l : Launch} {e : Env} {R : Room} {s : State} {m : MethodId} {args : Array Value} {below : List Frame} {meth : Method} {c : Code} {H : Heap} {locs : List Loc} {Q : State → Prop} {cc : ByteArray} {pc : Nat} {ls : Array Slot} {rest : List Value} {g : GP} {V : Mem} {nL : Nat} {ret : Option FieldType} (hB : BX p s m args meth c g LX cc nL RX5 ret) (hz : OK g LX V s H locs) {i : Nat} (hk : KD LX i 4) {a0 : Int32} {V1 : Mem} (hM : CT l g LX yX5_pass cX5_pass 2 none rm_X5_pass [.ref (ad g i), .int a0] V none V1) (hR : rm_X5_pass.frames + 1 ≤ R.frames ∧ 8 + (2 + 11) + rm_X5_pass.locals ≤ R.locals) (hsz : ls.size = nL) (hrest : (rest.map fun v => v.category).sum ≤ 8) (hdg : decode cc pc = .ok (.invokevirtual 49, 3)) (kk : ∀ (H1 : Heap) (locs1 : List Loc), OK g LX V1 s H1 locs1 → W p l e R s m args below meth c H1 locs1 0 0 Q (F0 m (pc + 3) ls (rest))) : W p l e R s m args below meth c H locs 0 0 Q (F0 m pc ls (.int a0 :: .ref (ad g i) :: rest)) :=
  x_cv (As := [.int a0]) (n := 1) (T := TX5) (N := 7) hB hz hM hk rfl rfl rfl rfl kw_349 kw_63 kw_346 kw_348 kw_5 (by decide +kernel) rfl hR hsz hrest hdg kk
theorem i_X5_56 {p : Program} {l : Launch} {e : Env} {R : Room} {s : State} {m : MethodId} {args : Array Value} {below : List Frame} {meth : Method} {c : Code} {H : Heap} {locs : List Loc} {Q : State → Prop} {cc : ByteArray} {pc : Nat} {ls : Array Slot} {rest : List Value} {g : GP} {V : Mem} {nL : Nat} {ret : Option FieldType} (hB : BX p s m args meth c g LX cc nL RX5 ret) (hz : OK g LX V s H locs) {i : Nat} (hk : KD LX i 4) {a0 : Int32} {r : Int32} {V1 : Mem} (hM : CT l g LX yX5_passNumber cX5_passNumber 3 (some .int) rm_X5_passNumber [.ref (ad g i), .int a0] V (some (.int r)) V1) (hR : rm_X5_passNumber.frames + 1 ≤ R.frames ∧ 8 + (3 + 11) + rm_X5_passNumber.locals ≤ R.locals) (hsz : ls.size = nL) (hrest : (rest.map fun v => v.category).sum ≤ 8) (hdg : decode cc pc = .ok (.invokevirtual 56, 3)) (kk : ∀ (H1 : Heap) (locs1 : List Loc), OK g LX V1 s H1 locs1 → W p l e R s m args below meth c H1 locs1 0 0 Q (F0 m (pc + 3) ls (.int r :: rest))) : W p l e R s m args below meth c H locs 0 0 Q (F0 m pc ls (.int a0 :: .ref (ad g i) :: rest)) :=
  x_cv (As := [.int a0]) (n := 1) (T := TX5) (N := 7) hB hz hM hk rfl rfl rfl rfl kw_353 kw_63 kw_350 kw_352 kw_6 (by decide +kernel) rfl hR hsz hrest hdg kk
set_option maxHeartbeats 4000000 in
set_option maxRecDepth 100000 in
theorem w_X5_readLaw_37_cz {p : Program} {l : Launch} {e : Env} {s : State} {m : MethodId} {args : Array Value} {below : List Frame} {meth : Method} {c : Code} {g : GP} (hB : BX p s m args meth c g LX cX5_readLaw 3 RX5 none) {z : Nat} (k_z : KD LX z 4) {o : Mem} {k8 : Nat → Int32 → Mem → Option (Mem)} (hk8 : ∀ (r1 : Nat) (x2 : Int32) (V : Mem) (H : Heap) (locs : List Loc) (ls : Array Slot), KD LX r1 2 → k8 r1 x2 V = some o → OK g LX V s H locs → lv_has ls 3 [(0, .ref (ad g z)), (1, .ref (ad g r1)), (2, .int x2)] → W p l e rm_X5_readLaw s m args below meth c H locs 0 0 (MQ below (QQ g LX none o) args s 0 0 (Ar g LX)) (F0 m 8 ls [])) : ∀ (r1 : Nat) (x2 : Int32) (s1 : Int32) (V : Mem) (H : Heap) (locs : List Loc) (ls : Array Slot), KD LX r1 2 → f_X5_readLaw_37_cz z k8 r1 x2 s1 V = some o → OK g LX V s H locs → lv_has ls 3 [(0, .ref (ad g z)), (1, .ref (ad g r1)), (2, .int x2)] → W p l e rm_X5_readLaw s m args below meth c H locs 0 0 (MQ below (QQ g LX none o) args s 0 0 (Ar g LX)) (F0 m 37 ls [.int s1, .ref (ad g z)]) := by
  obtain ⟨hx, hb, hml, hown, hT, hr, hlk, hK, hJ, hZ, hN⟩ := id hB
  intro r1 x2 s1 V H locs ls k_r1 hE hz hl
  unfold f_X5_readLaw_37_cz at hE
  obtain ⟨q37, hq37, hE⟩ := x_bind hE
  refine i_X5_49 hB hz k_z (c_X5_pass l g k_z hq37) ⟨(Nat.le_of_ble_eq_true rfl), (Nat.le_of_ble_eq_true rfl)⟩ hl.1 (Nat.le_of_ble_eq_true rfl) dX5_readLaw_37 (fun H locs hz => ?_)
  refine lv_iinc (v := (x2 + 1)) (lv' := [(2, .int (x2 + 1)), (0, .ref (ad g z)), (1, .ref (ad g r1))]) hx hb dX5_readLaw_40 hl (k := 2) rfl rfl (by decide) rfl (fun ls hl => ?_)
  refine lv_goto (tgt := 8) hx hb dX5_readLaw_43 (by decide) ?_
  exact hk8 _ _ _ _ _ _ k_r1 hE hz (lv_sub hl [1, 2, 0] rfl)

set_option maxHeartbeats 4000000 in
set_option maxRecDepth 100000 in
theorem w_X5_readLaw_8 {p : Program} {l : Launch} {e : Env} {s : State} {m : MethodId} {args : Array Value} {below : List Frame} {meth : Method} {c : Code} {g : GP} (hB : BX p s m args meth c g LX cX5_readLaw 3 RX5 none) {z : Nat} (k_z : KD LX z 4) {o : Mem} : ∀ (n : Nat), ∀ (r1 : Nat) (x2 : Int32) (V : Mem) (H : Heap) (locs : List Loc) (ls : Array Slot), KD LX r1 2 → f_X5_readLaw_8 z n r1 x2 V = some o → OK g LX V s H locs → lv_has ls 3 [(0, .ref (ad g z)), (1, .ref (ad g r1)), (2, .int x2)] → W p l e rm_X5_readLaw s m args below meth c H locs 0 0 (MQ below (QQ g LX none o) args s 0 0 (Ar g LX)) (F0 m 8 ls []) := by
  obtain ⟨hx, hb, hml, hown, hT, hr, hlk, hK, hJ, hZ, hN⟩ := id hB
  intro n
  induction n with
  | zero =>
    intro r1 x2 V H locs ls k_r1 hE hz hl
    exact absurd (show (none : Option (Mem)) = some o from hE) (by simp)
  | succ n ih =>
    intro r1 x2 V H locs ls k_r1 hE hz hl
    unfold f_X5_readLaw_8 at hE
    refine lv_iload_n hx hb dX5_readLaw_8 rfl (lv_at hl 2 rfl) ?_
    refine lv_iconst (v := (3 : Int32)) hx hb dX5_readLaw_9 (by decide) ?_
    refine lv_icmp_ge (tgt := 46) hx hb dX5_readLaw_10 (by decide) (fun c10 => ?_) (fun c10 => ?_)
    · have hE := (if_pos c10).symm.trans hE
      exact x_vret hB hz hE dX5_readLaw_46
    · have hE := (if_neg c10).symm.trans hE
      refine lv_aload_n hx hb dX5_readLaw_13 rfl (lv_at hl 1 rfl) ?_
      refine g_X5_53 hB hz k_r1 dX5_readLaw_14 ?_
      refine lv_iload_n hx hb dX5_readLaw_17 rfl (lv_at hl 2 rfl) ?_
      refine lv_aload_n hx hb dX5_readLaw_18 rfl (lv_at hl 0 rfl) ?_
      refine lv_iconst (v := (3 : Int32)) hx hb dX5_readLaw_19 (by decide) ?_
      obtain ⟨q20, hq20, hE⟩ := x_bind hE
      refine i_X5_56 hB hz k_z (c_X5_passNumber l g k_z hq20) ⟨(Nat.le_of_ble_eq_true rfl), (Nat.le_of_ble_eq_true rfl)⟩ hl.1 (Nat.le_of_ble_eq_true rfl) dX5_readLaw_20 (fun H locs hz => ?_)
      obtain ⟨hi23, hE⟩ := x_chk hE
      refine x_iast (n := 3) hB hz (kd_sh k_r1).1 hi23 dX5_readLaw_23 (fun H locs hz => ?_)
      refine lv_aload_n hx hb dX5_readLaw_24 rfl (lv_at hl 0 rfl) ?_
      refine lv_iload_n hx hb dX5_readLaw_25 rfl (lv_at hl 2 rfl) ?_
      refine lv_iconst (v := (2 : Int32)) hx hb dX5_readLaw_26 (by decide) ?_
      refine lv_icmp_ge (tgt := 35) hx hb dX5_readLaw_27 (by decide) (fun c27 => ?_) (fun c27 => ?_)
      · have hE := (if_pos c27).symm.trans hE
        refine lv_bipush (v := (59 : Int32)) hx hb dX5_readLaw_35 (by decide) ?_
        exact w_X5_readLaw_37_cz hB k_z ih _ _ _ _ _ _ _ k_r1 hE hz (lv_sub hl [0, 1, 2] rfl)
      · have hE := (if_neg c27).symm.trans hE
        refine lv_bipush (v := (44 : Int32)) hx hb dX5_readLaw_30 (by decide) ?_
        refine lv_goto (tgt := 37) hx hb dX5_readLaw_32 (by decide) ?_
        exact w_X5_readLaw_37_cz hB k_z ih _ _ _ _ _ _ _ k_r1 hE hz (lv_sub hl [0, 1, 2] rfl)

set_option maxHeartbeats 4000000 in
set_option maxRecDepth 100000 in
theorem w_X5_readLaw {p : Program} {l : Launch} {e : Env} {s : State} {m : MethodId} {args : Array Value} {below : List Frame} {meth : Method} {c : Code} {g : GP} (hB : BX p s m args meth c g LX cX5_readLaw 3 RX5 none) {z : Nat} (k_z : KD LX z 4) {o : Mem} : ∀ (r1 : Nat) (V : Mem) (H : Heap) (locs : List Loc) (ls : Array Slot), KD LX r1 2 → f_X5_readLaw z r1 V = some o → OK g LX V s H locs → lv_has ls 3 [(0, .ref (ad g z)), (1, .ref (ad g r1))] → W p l e rm_X5_readLaw s m args below meth c H locs 0 0 (MQ below (QQ g LX none o) args s 0 0 (Ar g LX)) (F0 m 0 ls []) := by
  obtain ⟨hx, hb, hml, hown, hT, hr, hlk, hK, hJ, hZ, hN⟩ := id hB
  intro r1 V H locs ls k_r1 hE hz hl
  unfold f_X5_readLaw at hE
  refine lv_aload_n hx hb dX5_readLaw_0 rfl (lv_at hl 0 rfl) ?_
  refine lv_bipush (v := (110 : Int32)) hx hb dX5_readLaw_1 (by decide) ?_
  obtain ⟨q3, hq3, hE⟩ := x_bind hE
  refine i_X5_49 hB hz k_z (c_X5_pass l g k_z hq3) ⟨(Nat.le_of_ble_eq_true rfl), (Nat.le_of_ble_eq_true rfl)⟩ hl.1 (Nat.le_of_ble_eq_true rfl) dX5_readLaw_3 (fun H locs hz => ?_)
  refine lv_iconst (v := (0 : Int32)) hx hb dX5_readLaw_6 (by decide) ?_
  refine lv_istore_n (lv' := [(2, .int (0 : Int32)), (0, .ref (ad g z)), (1, .ref (ad g r1))]) hx hb dX5_readLaw_7 rfl hl (by decide) rfl (fun ls hl => ?_)
  exact w_X5_readLaw_8 hB k_z  _ _ _ _ _ _ _ k_r1 hE hz (lv_sub hl [1, 2, 0] rfl)
theorem c_X5_readLaw (l : Launch) (g : GP) {z : Nat} (k_z : KD LX z 4) {r1 : Nat} (k_r1 : KD LX r1 2) {V : Mem} {o : Mem} (hE : f_X5_readLaw z r1 V = some o) : CT l g LX yX5_readLaw cX5_readLaw 3 none rm_X5_readLaw [.ref (ad g z), .ref (ad g r1)] V none o := by
  refine ct_of (by decide) (Nat.le_of_ble_eq_true rfl) ?_
  intro p e s m args below meth c ls hB hz hl
  exact w_X5_readLaw hB k_z _ _ _ _ _ k_r1 hE hz hl
def rm_X5_readParagraph : Room := { frames := 4, cells := 0, slots := 0, locals := 148 }
theorem i_X5_63 {p : Program} {l : Launch} {e : Env} {R : Room} {s : State} {m : MethodId} {args : Array Value} {below : List Frame} {meth : Method} {c : Code} {H : Heap} {locs : List Loc} {Q : State → Prop} {cc : ByteArray} {pc : Nat} {ls : Array Slot} {rest : List Value} {g : GP} {V : Mem} {nL : Nat} {ret : Option FieldType} (hB : BX p s m args meth c g LX cc nL RX5 ret) (hz : OK g LX V s H locs) {i : Nat} (hk : KD LX i 4) {a0 : Int32} {r : Int32} {V1 : Mem} (hM : CT l g LX yX5_passSort cX5_passSort 3 (some .int) rm_X5_passSort [.ref (ad g i), .int a0] V (some (.int r)) V1) (hR : rm_X5_passSort.frames + 1 ≤ R.frames ∧ 8 + (3 + 11) + rm_X5_passSort.locals ≤ R.locals) (hsz : ls.size = nL) (hrest : (rest.map fun v => v.category).sum ≤ 8) (hdg : decode cc pc = .ok (.invokevirtual 63, 3)) (kk : ∀ (H1 : Heap) (locs1 : List Loc), OK g LX V1 s H1 locs1 → W p l e R s m args below meth c H1 locs1 0 0 Q (F0 m (pc + 3) ls (.int r :: rest))) : W p l e R s m args below meth c H locs 0 0 Q (F0 m pc ls (.int a0 :: .ref (ad g i) :: rest)) :=
  x_cv (As := [.int a0]) (n := 1) (T := TX5) (N := 7) hB hz hM hk rfl rfl rfl rfl kw_361 kw_63 kw_358 kw_360 kw_8 (by decide +kernel) rfl hR hsz hrest hdg kk
theorem i_X5_66 {p : Program} {l : Launch} {e : Env} {R : Room} {s : State} {m : MethodId} {args : Array Value} {below : List Frame} {meth : Method} {c : Code} {H : Heap} {locs : List Loc} {Q : State → Prop} {cc : ByteArray} {pc : Nat} {ls : Array Slot} {rest : List Value} {g : GP} {V : Mem} {nL : Nat} {ret : Option FieldType} (hB : BX p s m args meth c g LX cc nL RX5 ret) (hz : OK g LX V s H locs) {i : Nat} (hk : KD LX i 2) {a0 : Int32} {a1 : Int32} {a2 : Int32} {a3 : Int32} {V1 : Mem} (hM : CT l g LX yX3_insert cX3_insert 5 none rm_X3_insert [.ref (ad g i), .int a0, .int a1, .int a2, .int a3] V none V1) (hR : rm_X3_insert.frames + 1 ≤ R.frames ∧ 8 + (5 + 11) + rm_X3_insert.locals ≤ R.locals) (hsz : ls.size = nL) (hrest : (rest.map fun v => v.category).sum ≤ 8) (hdg : decode cc pc = .ok (.invokevirtual 66, 3)) (kk : ∀ (H1 : Heap) (locs1 : List Loc), OK g LX V1 s H1 locs1 → W p l e R s m args below meth c H1 locs1 0 0 Q (F0 m (pc + 3) ls (rest))) : W p l e R s m args below meth c H locs 0 0 Q (F0 m pc ls (.int a3 :: .int a2 :: .int a1 :: .int a0 :: .ref (ad g i) :: rest)) :=
  x_cv (As := [.int a0, .int a1, .int a2, .int a3]) (n := 4) (T := TX3) (N := 7) hB hz hM hk rfl rfl rfl rfl kw_367 kw_64 kw_364 kw_365 kw_366 (by decide +kernel) rfl hR hsz hrest hdg kk
set_option maxHeartbeats 4000000 in
set_option maxRecDepth 100000 in
theorem w_X5_readParagraph {p : Program} {l : Launch} {e : Env} {s : State} {m : MethodId} {args : Array Value} {below : List Frame} {meth : Method} {c : Code} {g : GP} (hB : BX p s m args meth c g LX cX5_readParagraph 5 RX5 none) {z : Nat} (k_z : KD LX z 4) {o : Mem} : ∀ (r1 : Nat) (V : Mem) (H : Heap) (locs : List Loc) (ls : Array Slot), KD LX r1 2 → f_X5_readParagraph z r1 V = some o → OK g LX V s H locs → lv_has ls 5 [(0, .ref (ad g z)), (1, .ref (ad g r1))] → W p l e rm_X5_readParagraph s m args below meth c H locs 0 0 (MQ below (QQ g LX none o) args s 0 0 (Ar g LX)) (F0 m 0 ls []) := by
  obtain ⟨hx, hb, hml, hown, hT, hr, hlk, hK, hJ, hZ, hN⟩ := id hB
  intro r1 V H locs ls k_r1 hE hz hl
  unfold f_X5_readParagraph at hE
  refine lv_aload_n hx hb dX5_readParagraph_0 rfl (lv_at hl 0 rfl) ?_
  refine lv_aload_n hx hb dX5_readParagraph_1 rfl (lv_at hl 1 rfl) ?_
  refine g_X5_60 hB hz k_r1 dX5_readParagraph_2 ?_
  obtain ⟨q5, hq5, hE⟩ := x_bind hE
  refine i_X5_63 hB hz k_z (c_X5_passSort l g k_z hq5) ⟨(Nat.le_of_ble_eq_true rfl), (Nat.le_of_ble_eq_true rfl)⟩ hl.1 (Nat.le_of_ble_eq_true rfl) dX5_readParagraph_5 (fun H locs hz => ?_)
  refine lv_istore_n (lv' := [(2, .int q5.1), (0, .ref (ad g z)), (1, .ref (ad g r1))]) hx hb dX5_readParagraph_8 rfl hl (by decide) rfl (fun ls hl => ?_)
  refine lv_aload_n hx hb dX5_readParagraph_9 rfl (lv_at hl 1 rfl) ?_
  refine lv_iconst (v := (2 : Int32)) hx hb dX5_readParagraph_10 (by decide) ?_
  obtain ⟨q11, hq11, hE⟩ := x_bind hE
  refine i_X5_56 hB hz k_z (c_X5_passNumber l g k_z hq11) ⟨(Nat.le_of_ble_eq_true rfl), (Nat.le_of_ble_eq_true rfl)⟩ hl.1 (Nat.le_of_ble_eq_true rfl) dX5_readParagraph_11 (fun H locs hz => ?_)
  refine lv_istore_n (lv' := [(3, .int q11.1), (2, .int q5.1), (0, .ref (ad g z)), (1, .ref (ad g r1))]) hx hb dX5_readParagraph_14 rfl hl (by decide) rfl (fun ls hl => ?_)
  refine lv_aload_n hx hb dX5_readParagraph_15 rfl (lv_at hl 2 rfl) ?_
  refine lv_bipush (v := (44 : Int32)) hx hb dX5_readParagraph_16 (by decide) ?_
  obtain ⟨q18, hq18, hE⟩ := x_bind hE
  refine i_X5_49 hB hz k_z (c_X5_pass l g k_z hq18) ⟨(Nat.le_of_ble_eq_true rfl), (Nat.le_of_ble_eq_true rfl)⟩ hl.1 (Nat.le_of_ble_eq_true rfl) dX5_readParagraph_18 (fun H locs hz => ?_)
  refine lv_aload_n hx hb dX5_readParagraph_21 rfl (lv_at hl 2 rfl) ?_
  refine lv_bipush (v := (20 : Int32)) hx hb dX5_readParagraph_22 (by decide) ?_
  obtain ⟨q24, hq24, hE⟩ := x_bind hE
  refine i_X5_56 hB hz k_z (c_X5_passNumber l g k_z hq24) ⟨(Nat.le_of_ble_eq_true rfl), (Nat.le_of_ble_eq_true rfl)⟩ hl.1 (Nat.le_of_ble_eq_true rfl) dX5_readParagraph_24 (fun H locs hz => ?_)
  refine lv_istore (lv' := [(4, .int q24.1), (3, .int q11.1), (2, .int q5.1), (0, .ref (ad g z)), (1, .ref (ad g r1))]) hx hb dX5_readParagraph_27 hl (by decide) rfl (fun ls hl => ?_)
  refine lv_aload_n hx hb dX5_readParagraph_29 rfl (lv_at hl 3 rfl) ?_
  refine lv_bipush (v := (59 : Int32)) hx hb dX5_readParagraph_30 (by decide) ?_
  obtain ⟨q32, hq32, hE⟩ := x_bind hE
  refine i_X5_49 hB hz k_z (c_X5_pass l g k_z hq32) ⟨(Nat.le_of_ble_eq_true rfl), (Nat.le_of_ble_eq_true rfl)⟩ hl.1 (Nat.le_of_ble_eq_true rfl) dX5_readParagraph_32 (fun H locs hz => ?_)
  refine lv_aload_n hx hb dX5_readParagraph_35 rfl (lv_at hl 3 rfl) ?_
  refine g_X5_31 hB hz k_z dX5_readParagraph_36 ?_
  refine lv_if_ne (tgt := 54) hx hb dX5_readParagraph_39 (by decide) (fun c39 => ?_) (fun c39 => ?_)
  · have hE := (if_neg c39).symm.trans hE
    exact x_vret hB hz hE dX5_readParagraph_54
  · have hE := (if_pos c39).symm.trans hE
    refine lv_aload_n hx hb dX5_readParagraph_42 rfl (lv_at hl 4 rfl) ?_
    refine lv_aload_n hx hb dX5_readParagraph_43 rfl (lv_at hl 4 rfl) ?_
    refine g_X5_60 hB hz k_r1 dX5_readParagraph_44 ?_
    refine lv_iload_n hx hb dX5_readParagraph_47 rfl (lv_at hl 2 rfl) ?_
    refine lv_iload_n hx hb dX5_readParagraph_48 rfl (lv_at hl 1 rfl) ?_
    refine lv_iload hx hb dX5_readParagraph_49 (lv_at hl 0 rfl) ?_
    obtain ⟨q51, hq51, hE⟩ := x_bind hE
    refine i_X5_66 hB hz k_r1 (c_X3_insert l g k_r1 hq51) ⟨(Nat.le_of_ble_eq_true rfl), (Nat.le_of_ble_eq_true rfl)⟩ hl.1 (Nat.le_of_ble_eq_true rfl) dX5_readParagraph_51 (fun H locs hz => ?_)
    exact x_vret hB hz hE dX5_readParagraph_54
theorem c_X5_readParagraph (l : Launch) (g : GP) {z : Nat} (k_z : KD LX z 4) {r1 : Nat} (k_r1 : KD LX r1 2) {V : Mem} {o : Mem} (hE : f_X5_readParagraph z r1 V = some o) : CT l g LX yX5_readParagraph cX5_readParagraph 5 none rm_X5_readParagraph [.ref (ad g z), .ref (ad g r1)] V none o := by
  refine ct_of (by decide) (Nat.le_of_ble_eq_true rfl) ?_
  intro p e s m args below meth c ls hB hz hl
  exact w_X5_readParagraph hB k_z _ _ _ _ _ k_r1 hE hz hl
def rm_X5_readInto : Room := { frames := 5, cells := 0, slots := 0, locals := 172 }
theorem i_X5_34 {p : Program} {l : Launch} {e : Env} {R : Room} {s : State} {m : MethodId} {args : Array Value} {below : List Frame} {meth : Method} {c : Code} {H : Heap} {locs : List Loc} {Q : State → Prop} {cc : ByteArray} {pc : Nat} {ls : Array Slot} {rest : List Value} {g : GP} {V : Mem} {nL : Nat} {ret : Option FieldType} (hB : BX p s m args meth c g LX cc nL RX5 ret) (hz : OK g LX V s H locs) {i : Nat} (hk : KD LX i 2) {V1 : Mem} (hM : CT l g LX yX3_clear cX3_clear 1 none rm_X3_clear [.ref (ad g i)] V none V1) (hR : rm_X3_clear.frames + 1 ≤ R.frames ∧ 8 + (1 + 11) + rm_X3_clear.locals ≤ R.locals) (hsz : ls.size = nL) (hrest : (rest.map fun v => v.category).sum ≤ 8) (hdg : decode cc pc = .ok (.invokevirtual 34, 3)) (kk : ∀ (H1 : Heap) (locs1 : List Loc), OK g LX V1 s H1 locs1 → W p l e R s m args below meth c H1 locs1 0 0 Q (F0 m (pc + 3) ls (rest))) : W p l e R s m args below meth c H locs 0 0 Q (F0 m pc ls (.ref (ad g i) :: rest)) :=
  x_cv (As := []) (n := 0) (T := TX3) (N := 7) hB hz hM hk rfl rfl rfl rfl kw_330 kw_64 kw_327 kw_328 kw_329 (by decide +kernel) rfl hR hsz hrest hdg kk
theorem i_X5_42 {p : Program} {l : Launch} {e : Env} {R : Room} {s : State} {m : MethodId} {args : Array Value} {below : List Frame} {meth : Method} {c : Code} {H : Heap} {locs : List Loc} {Q : State → Prop} {cc : ByteArray} {pc : Nat} {ls : Array Slot} {rest : List Value} {g : GP} {V : Mem} {nL : Nat} {ret : Option FieldType} (hB : BX p s m args meth c g LX cc nL RX5 ret) (hz : OK g LX V s H locs) {i : Nat} (hk : KD LX i 4) {a0 : Nat} {V1 : Mem} (hM : CT l g LX yX5_readLaw cX5_readLaw 3 none rm_X5_readLaw [.ref (ad g i), .ref (ad g a0)] V none V1) (hR : rm_X5_readLaw.frames + 1 ≤ R.frames ∧ 8 + (3 + 11) + rm_X5_readLaw.locals ≤ R.locals) (hsz : ls.size = nL) (hrest : (rest.map fun v => v.category).sum ≤ 8) (hdg : decode cc pc = .ok (.invokevirtual 42, 3)) (kk : ∀ (H1 : Heap) (locs1 : List Loc), OK g LX V1 s H1 locs1 → W p l e R s m args below meth c H1 locs1 0 0 Q (F0 m (pc + 3) ls (rest))) : W p l e R s m args below meth c H locs 0 0 Q (F0 m pc ls (.ref (ad g a0) :: .ref (ad g i) :: rest)) :=
  x_cv (As := [.ref (ad g a0)]) (n := 1) (T := TX5) (N := 7) hB hz hM hk rfl rfl rfl rfl kw_345 kw_63 kw_342 kw_344 kw_4 (by decide +kernel) rfl hR hsz hrest hdg kk
theorem i_X5_46 {p : Program} {l : Launch} {e : Env} {R : Room} {s : State} {m : MethodId} {args : Array Value} {below : List Frame} {meth : Method} {c : Code} {H : Heap} {locs : List Loc} {Q : State → Prop} {cc : ByteArray} {pc : Nat} {ls : Array Slot} {rest : List Value} {g : GP} {V : Mem} {nL : Nat} {ret : Option FieldType} (hB : BX p s m args meth c g LX cc nL RX5 ret) (hz : OK g LX V s H locs) {i : Nat} (hk : KD LX i 4) {a0 : Nat} {V1 : Mem} (hM : CT l g LX yX5_readParagraph cX5_readParagraph 5 none rm_X5_readParagraph [.ref (ad g i), .ref (ad g a0)] V none V1) (hR : rm_X5_readParagraph.frames + 1 ≤ R.frames ∧ 8 + (5 + 11) + rm_X5_readParagraph.locals ≤ R.locals) (hsz : ls.size = nL) (hrest : (rest.map fun v => v.category).sum ≤ 8) (hdg : decode cc pc = .ok (.invokevirtual 46, 3)) (kk : ∀ (H1 : Heap) (locs1 : List Loc), OK g LX V1 s H1 locs1 → W p l e R s m args below meth c H1 locs1 0 0 Q (F0 m (pc + 3) ls (rest))) : W p l e R s m args below meth c H locs 0 0 Q (F0 m pc ls (.ref (ad g a0) :: .ref (ad g i) :: rest)) :=
  x_cv (As := [.ref (ad g a0)]) (n := 1) (T := TX5) (N := 7) hB hz hM hk rfl rfl rfl rfl kw_357 kw_63 kw_354 kw_356 kw_7 (by decide +kernel) rfl hR hsz hrest hdg kk
set_option maxHeartbeats 4000000 in
set_option maxRecDepth 100000 in
theorem w_X5_readInto_60 {p : Program} {l : Launch} {e : Env} {s : State} {m : MethodId} {args : Array Value} {below : List Frame} {meth : Method} {c : Code} {g : GP} (hB : BX p s m args meth c g LX cX5_readInto 3 RX5 (some .int)) {z : Nat} (k_z : KD LX z 4) {o : Int32 × Mem} : ∀ (V : Mem) (H : Heap) (locs : List Loc) (ls : Array Slot), f_X5_readInto_60 z V = some o → OK g LX V s H locs → lv_has ls 3 [(0, .ref (ad g z))] → W p l e rm_X5_readInto s m args below meth c H locs 0 0 (MQ below (QQ g LX (some (.int o.1)) o.2) args s 0 0 (Ar g LX)) (F0 m 60 ls []) := by
  obtain ⟨hx, hb, hml, hown, hT, hr, hlk, hK, hJ, hZ, hN⟩ := id hB
  intro V H locs ls hE hz hl
  unfold f_X5_readInto_60 at hE
  refine lv_aload_n hx hb dX5_readInto_60 rfl (lv_at hl 0 rfl) ?_
  refine g_X5_31 hB hz k_z dX5_readInto_61 ?_
  exact x_iret hB hz hE dX5_readInto_64

set_option maxHeartbeats 4000000 in
set_option maxRecDepth 100000 in
theorem w_X5_readInto_49 {p : Program} {l : Launch} {e : Env} {s : State} {m : MethodId} {args : Array Value} {below : List Frame} {meth : Method} {c : Code} {g : GP} (hB : BX p s m args meth c g LX cX5_readInto 3 RX5 (some .int)) {z : Nat} (k_z : KD LX z 4) {o : Int32 × Mem} {k25 : Nat → Int32 → Mem → Option (Int32 × Mem)} (hk25 : ∀ (r1 : Nat) (x2 : Int32) (V : Mem) (H : Heap) (locs : List Loc) (ls : Array Slot), KD LX r1 2 → k25 r1 x2 V = some o → OK g LX V s H locs → lv_has ls 3 [(0, .ref (ad g z)), (1, .ref (ad g r1)), (2, .int x2)] → W p l e rm_X5_readInto s m args below meth c H locs 0 0 (MQ below (QQ g LX (some (.int o.1)) o.2) args s 0 0 (Ar g LX)) (F0 m 25 ls [])) : ∀ (r1 : Nat) (x2 : Int32) (V : Mem) (H : Heap) (locs : List Loc) (ls : Array Slot), KD LX r1 2 → f_X5_readInto_49 z k25 r1 x2 V = some o → OK g LX V s H locs → lv_has ls 3 [(0, .ref (ad g z)), (1, .ref (ad g r1)), (2, .int x2)] → W p l e rm_X5_readInto s m args below meth c H locs 0 0 (MQ below (QQ g LX (some (.int o.1)) o.2) args s 0 0 (Ar g LX)) (F0 m 49 ls []) := by
  obtain ⟨hx, hb, hml, hown, hT, hr, hlk, hK, hJ, hZ, hN⟩ := id hB
  intro r1 x2 V H locs ls k_r1 hE hz hl
  unfold f_X5_readInto_49 at hE
  refine lv_aload_n hx hb dX5_readInto_49 rfl (lv_at hl 0 rfl) ?_
  refine lv_aload_n hx hb dX5_readInto_50 rfl (lv_at hl 1 rfl) ?_
  obtain ⟨q51, hq51, hE⟩ := x_bind hE
  refine i_X5_46 hB hz k_z (c_X5_readParagraph l g k_z k_r1 hq51) ⟨(Nat.le_of_ble_eq_true rfl), (Nat.le_of_ble_eq_true rfl)⟩ hl.1 (Nat.le_of_ble_eq_true rfl) dX5_readInto_51 (fun H locs hz => ?_)
  refine lv_iinc (v := (x2 + 1)) (lv' := [(2, .int (x2 + 1)), (0, .ref (ad g z)), (1, .ref (ad g r1))]) hx hb dX5_readInto_54 hl (k := 2) rfl rfl (by decide) rfl (fun ls hl => ?_)
  refine lv_goto (tgt := 25) hx hb dX5_readInto_57 (by decide) ?_
  exact hk25 _ _ _ _ _ _ k_r1 hE hz (lv_sub hl [1, 2, 0] rfl)

set_option maxHeartbeats 4000000 in
set_option maxRecDepth 100000 in
theorem w_X5_readInto_25 {p : Program} {l : Launch} {e : Env} {s : State} {m : MethodId} {args : Array Value} {below : List Frame} {meth : Method} {c : Code} {g : GP} (hB : BX p s m args meth c g LX cX5_readInto 3 RX5 (some .int)) {z : Nat} (k_z : KD LX z 4) {o : Int32 × Mem} : ∀ (n : Nat), ∀ (r1 : Nat) (x2 : Int32) (V : Mem) (H : Heap) (locs : List Loc) (ls : Array Slot), KD LX r1 2 → f_X5_readInto_25 z n r1 x2 V = some o → OK g LX V s H locs → lv_has ls 3 [(0, .ref (ad g z)), (1, .ref (ad g r1)), (2, .int x2)] → W p l e rm_X5_readInto s m args below meth c H locs 0 0 (MQ below (QQ g LX (some (.int o.1)) o.2) args s 0 0 (Ar g LX)) (F0 m 25 ls []) := by
  obtain ⟨hx, hb, hml, hown, hT, hr, hlk, hK, hJ, hZ, hN⟩ := id hB
  intro n
  induction n with
  | zero =>
    intro r1 x2 V H locs ls k_r1 hE hz hl
    exact absurd (show (none : Option (Int32 × Mem)) = some o from hE) (by simp)
  | succ n ih =>
    intro r1 x2 V H locs ls k_r1 hE hz hl
    unfold f_X5_readInto_25 at hE
    refine lv_iload_n hx hb dX5_readInto_25 rfl (lv_at hl 2 rfl) ?_
    refine lv_bipush (v := (16 : Int32)) hx hb dX5_readInto_26 (by decide) ?_
    refine lv_icmp_gt (tgt := 60) hx hb dX5_readInto_28 (by decide) (fun c28 => ?_) (fun c28 => ?_)
    · have hE := (if_pos c28).symm.trans hE
      exact w_X5_readInto_60 hB k_z   _ _ _ _  hE hz (lv_sub hl [0] rfl)
    · have hE := (if_neg c28).symm.trans hE
      refine lv_aload_n hx hb dX5_readInto_31 rfl (lv_at hl 0 rfl) ?_
      refine g_X5_31 hB hz k_z dX5_readInto_32 ?_
      refine lv_if_ne (tgt := 60) hx hb dX5_readInto_35 (by decide) (fun c35 => ?_) (fun c35 => ?_)
      · have hE := (if_neg c35).symm.trans hE
        exact w_X5_readInto_60 hB k_z   _ _ _ _  hE hz (lv_sub hl [0] rfl)
      · have hE := (if_pos c35).symm.trans hE
        refine lv_iload_n hx hb dX5_readInto_38 rfl (lv_at hl 2 rfl) ?_
        refine lv_if_eq (tgt := 49) hx hb dX5_readInto_39 (by decide) (fun c39 => ?_) (fun c39 => ?_)
        · have hE := (if_pos c39).symm.trans hE
          exact w_X5_readInto_49 hB k_z ih _ _ _ _ _ _ k_r1 hE hz (lv_sub hl [0, 1, 2] rfl)
        · have hE := (if_neg c39).symm.trans hE
          refine lv_aload_n hx hb dX5_readInto_42 rfl (lv_at hl 0 rfl) ?_
          refine g_X5_25 hB hz k_z dX5_readInto_43 ?_
          refine lv_if_eq (tgt := 60) hx hb dX5_readInto_46 (by decide) (fun c46 => ?_) (fun c46 => ?_)
          · have hE := (if_pos c46).symm.trans hE
            exact w_X5_readInto_60 hB k_z   _ _ _ _  hE hz (lv_sub hl [0] rfl)
          · have hE := (if_neg c46).symm.trans hE
            exact w_X5_readInto_49 hB k_z ih _ _ _ _ _ _ k_r1 hE hz (lv_sub hl [0, 1, 2] rfl)

set_option maxHeartbeats 4000000 in
set_option maxRecDepth 100000 in
theorem w_X5_readInto {p : Program} {l : Launch} {e : Env} {s : State} {m : MethodId} {args : Array Value} {below : List Frame} {meth : Method} {c : Code} {g : GP} (hB : BX p s m args meth c g LX cX5_readInto 3 RX5 (some .int)) {z : Nat} (k_z : KD LX z 4) {o : Int32 × Mem} : ∀ (r1 : Nat) (V : Mem) (H : Heap) (locs : List Loc) (ls : Array Slot), KD LX r1 2 → f_X5_readInto z r1 V = some o → OK g LX V s H locs → lv_has ls 3 [(0, .ref (ad g z)), (1, .ref (ad g r1))] → W p l e rm_X5_readInto s m args below meth c H locs 0 0 (MQ below (QQ g LX (some (.int o.1)) o.2) args s 0 0 (Ar g LX)) (F0 m 0 ls []) := by
  obtain ⟨hx, hb, hml, hown, hT, hr, hlk, hK, hJ, hZ, hN⟩ := id hB
  intro r1 V H locs ls k_r1 hE hz hl
  unfold f_X5_readInto at hE
  refine lv_aload_n hx hb dX5_readInto_0 rfl (lv_at hl 1 rfl) ?_
  obtain ⟨q1, hq1, hE⟩ := x_bind hE
  refine i_X5_34 hB hz k_r1 (c_X3_clear l g k_r1 hq1) ⟨(Nat.le_of_ble_eq_true rfl), (Nat.le_of_ble_eq_true rfl)⟩ hl.1 (Nat.le_of_ble_eq_true rfl) dX5_readInto_1 (fun H locs hz => ?_)
  refine lv_aload_n hx hb dX5_readInto_4 rfl (lv_at hl 0 rfl) ?_
  refine lv_iconst (v := (0 : Int32)) hx hb dX5_readInto_5 (by decide) ?_
  refine p_X5_31 hB hz k_z dX5_readInto_6 (fun H locs hz => ?_)
  refine lv_aload_n hx hb dX5_readInto_9 rfl (lv_at hl 0 rfl) ?_
  refine lv_iconst (v := (0 : Int32)) hx hb dX5_readInto_10 (by decide) ?_
  refine p_X5_22 hB hz k_z dX5_readInto_11 (fun H locs hz => ?_)
  refine lv_aload_n hx hb dX5_readInto_14 rfl (lv_at hl 0 rfl) ?_
  obtain ⟨q15, hq15, hE⟩ := x_bind hE
  refine i_X5_39 hB hz k_z (c_X5_stepOn l g k_z hq15) ⟨(Nat.le_of_ble_eq_true rfl), (Nat.le_of_ble_eq_true rfl)⟩ hl.1 (Nat.le_of_ble_eq_true rfl) dX5_readInto_15 (fun H locs hz => ?_)
  refine lv_aload_n hx hb dX5_readInto_18 rfl (lv_at hl 0 rfl) ?_
  refine lv_aload_n hx hb dX5_readInto_19 rfl (lv_at hl 1 rfl) ?_
  obtain ⟨q20, hq20, hE⟩ := x_bind hE
  refine i_X5_42 hB hz k_z (c_X5_readLaw l g k_z k_r1 hq20) ⟨(Nat.le_of_ble_eq_true rfl), (Nat.le_of_ble_eq_true rfl)⟩ hl.1 (Nat.le_of_ble_eq_true rfl) dX5_readInto_20 (fun H locs hz => ?_)
  refine lv_iconst (v := (0 : Int32)) hx hb dX5_readInto_23 (by decide) ?_
  refine lv_istore_n (lv' := [(2, .int (0 : Int32)), (0, .ref (ad g z)), (1, .ref (ad g r1))]) hx hb dX5_readInto_24 rfl hl (by decide) rfl (fun ls hl => ?_)
  exact w_X5_readInto_25 hB k_z  _ _ _ _ _ _ _ k_r1 hE hz (lv_sub hl [1, 2, 0] rfl)
theorem c_X5_readInto (l : Launch) (g : GP) {z : Nat} (k_z : KD LX z 4) {r1 : Nat} (k_r1 : KD LX r1 2) {V : Mem} {o : Int32 × Mem} (hE : f_X5_readInto z r1 V = some o) : CT l g LX yX5_readInto cX5_readInto 3 (some .int) rm_X5_readInto [.ref (ad g z), .ref (ad g r1)] V (some (.int o.1)) o.2 := by
  refine ct_of (by decide) (Nat.le_of_ble_eq_true rfl) ?_
  intro p e s m args below meth c ls hB hz hl
  exact w_X5_readInto hB k_z _ _ _ _ _ k_r1 hE hz hl

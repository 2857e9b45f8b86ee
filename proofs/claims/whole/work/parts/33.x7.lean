def rm_X7_take : Room := { frames := 2, cells := 0, slots := 0, locals := 46 }
theorem i_X7_222 {p : Program} {l : Launch} {e : Env} {R : Room} {s : State} {m : MethodId} {args : Array Value} {below : List Frame} {meth : Method} {c : Code} {H : Heap} {locs : List Loc} {Q : State → Prop} {cc : ByteArray} {pc : Nat} {ls : Array Slot} {rest : List Value} {g : GP} {V : Mem} {nL : Nat} {ret : Option FieldType} (hB : BX p s m args meth c g LM cc nL RX7 ret) (hz : OK g LM V s H locs) {i : Nat} (hk : KD LM i 6) {a0 : Int32} {r : Int32} {V1 : Mem} (hM : CT l g LM yX7_isParagraph cX7_isParagraph 2 (some .boolean) rm_X7_isParagraph [.ref (ad g i), .int a0] V (some (.int r)) V1) (hR : rm_X7_isParagraph.frames + 1 ≤ R.frames ∧ 8 + (2 + 11) + rm_X7_isParagraph.locals ≤ R.locals) (hsz : ls.size = nL) (hrest : (rest.map fun v => v.category).sum ≤ 8) (hdg : decode cc pc = .ok (.invokevirtual 222, 3)) (kk : ∀ (H1 : Heap) (locs1 : List Loc), OK g LM V1 s H1 locs1 → W p l e R s m args below meth c H1 locs1 0 0 Q (F0 m (pc + 3) ls (.int r :: rest))) : W p l e R s m args below meth c H locs 0 0 Q (F0 m pc ls (.int a0 :: .ref (ad g i) :: rest)) :=
  x_cv (As := [.int a0]) (n := 1) (T := TX7) (N := 30) hB hz hM hk rfl rfl rfl rfl kw_941 kw_68 kw_938 kw_940 kw_36 (by decide +kernel) rfl hR hsz hrest hdg kk
set_option maxHeartbeats 4000000 in
set_option maxRecDepth 100000 in
theorem w_X7_take {p : Program} {l : Launch} {e : Env} {s : State} {m : MethodId} {args : Array Value} {below : List Frame} {meth : Method} {c : Code} {g : GP} (hB : BX p s m args meth c g LM cX7_take 2 RX7 (some .int)) {o : Int32 × Mem} : ∀ (x1 : Int32) (V : Mem) (H : Heap) (locs : List Loc) (ls : Array Slot), f_X7_take x1 V = some o → OK g LM V s H locs → lv_has ls 2 [(0, .ref (ad g 0)), (1, .int x1)] → W p l e rm_X7_take s m args below meth c H locs 0 0 (MQ below (QQ g LM (some (.int o.1)) o.2) args s 0 0 (Ar g LM)) (F0 m 0 ls []) := by
  obtain ⟨hx, hb, hml, hown, hT, hr, hlk, hK, hJ, hZ, hN⟩ := id hB
  intro x1 V H locs ls hE hz hl
  unfold f_X7_take at hE
  refine lv_aload_n hx hb dX7_take_0 rfl (lv_at hl 0 rfl) ?_
  refine lv_iconst (v := (0 : Int32)) hx hb dX7_take_1 (by decide) ?_
  refine p_X7_59 hB hz kdM_0 dX7_take_2 (fun H locs hz => ?_)
  refine lv_aload_n hx hb dX7_take_5 rfl (lv_at hl 0 rfl) ?_
  refine lv_iload_n hx hb dX7_take_6 rfl (lv_at hl 1 rfl) ?_
  obtain ⟨q7, hq7, hE⟩ := x_bind hE
  refine i_X7_222 hB hz kdM_0 (c_X7_isParagraph l g  hq7) ⟨(Nat.le_of_ble_eq_true rfl), (Nat.le_of_ble_eq_true rfl)⟩ hl.1 (Nat.le_of_ble_eq_true rfl) dX7_take_7 (fun H locs hz => ?_)
  refine lv_if_ne (tgt := 16) hx hb dX7_take_10 (by decide) (fun c10 => ?_) (fun c10 => ?_)
  · have hE := (if_neg c10).symm.trans hE
    refine lv_aload_n hx hb dX7_take_16 rfl (lv_at hl 0 rfl) ?_
    refine g_X7_19 hB hz kdM_0 dX7_take_17 ?_
    refine lv_iconst (v := (0 : Int32)) hx hb dX7_take_20 (by decide) ?_
    obtain ⟨hi21, hE⟩ := x_chk hE
    refine x_iald (n := 76) hB hz kdM_4 hi21 dX7_take_21 ?_
    refine lv_iconst (v := (1 : Int32)) hx hb dX7_take_22 (by decide) ?_
    refine lv_icmp_ne (tgt := 29) hx hb dX7_take_23 (by decide) (fun c23 => ?_) (fun c23 => ?_)
    · have hE := (if_neg c23).symm.trans hE
      refine lv_aload_n hx hb dX7_take_29 rfl (lv_at hl 0 rfl) ?_
      obtain ⟨q30, hq30, hE⟩ := x_bind hE
      refine i_X7_219 hB hz kdM_0 (c_X7_keep l g  hq30) ⟨(Nat.le_of_ble_eq_true rfl), (Nat.le_of_ble_eq_true rfl)⟩ hl.1 (Nat.le_of_ble_eq_true rfl) dX7_take_30 (fun H locs hz => ?_)
      refine lv_aload_n hx hb dX7_take_33 rfl (lv_at hl 0 rfl) ?_
      refine g_X7_19 hB hz kdM_0 dX7_take_34 ?_
      refine lv_iload_n hx hb dX7_take_37 rfl (lv_at hl 1 rfl) ?_
      obtain ⟨q38, hq38, hE⟩ := x_bind hE
      refine i_X7_201 hB hz (c_X7_takeOut l g kdM_4 hq38) ⟨(Nat.le_of_ble_eq_true rfl), (Nat.le_of_ble_eq_true rfl)⟩ hl.1 (Nat.le_of_ble_eq_true rfl) dX7_take_38 (fun H locs hz => ?_)
      refine lv_aload_n hx hb dX7_take_41 rfl (lv_at hl 0 rfl) ?_
      refine g_X7_19 hB hz kdM_0 dX7_take_42 ?_
      refine lv_iconst (v := (0 : Int32)) hx hb dX7_take_45 (by decide) ?_
      obtain ⟨hi46, hE⟩ := x_chk hE
      refine x_iald (n := 76) hB hz kdM_4 hi46 dX7_take_46 ?_
      exact x_iret hB hz hE dX7_take_47
    · have hE := (if_pos c23).symm.trans hE
      refine lv_ldc (v := (-1000002 : Int32)) hx hb hown (hT _ kw_918) dX7_take_26 ?_
      exact x_iret hB hz hE dX7_take_28
  · have hE := (if_pos c10).symm.trans hE
    refine lv_ldc (v := (-1000001 : Int32)) hx hb hown (hT _ kw_826) dX7_take_13 ?_
    exact x_iret hB hz hE dX7_take_15
theorem c_X7_take (l : Launch) (g : GP) {x1 : Int32} {V : Mem} {o : Int32 × Mem} (hE : f_X7_take x1 V = some o) : CT l g LM yX7_take cX7_take 2 (some .int) rm_X7_take [.ref (ad g 0), .int x1] V (some (.int o.1)) o.2 := by
  refine ct_of (by decide) (Nat.le_of_ble_eq_true rfl) ?_
  intro p e s m args below meth c ls hB hz hl
  exact w_X7_take hB _ _ _ _ _  hE hz hl
def rm_X7_move : Room := { frames := 3, cells := 0, slots := 0, locals := 74 }
theorem i_X7_225 {p : Program} {l : Launch} {e : Env} {R : Room} {s : State} {m : MethodId} {args : Array Value} {below : List Frame} {meth : Method} {c : Code} {H : Heap} {locs : List Loc} {Q : State → Prop} {cc : ByteArray} {pc : Nat} {ls : Array Slot} {rest : List Value} {g : GP} {V : Mem} {nL : Nat} {ret : Option FieldType} (hB : BX p s m args meth c g LM cc nL RX7 ret) (hz : OK g LM V s H locs) {a0 : Nat} {a1 : Int32} {a2 : Int32} {V1 : Mem} (hM : CT l g LM yX7_moveTo cX7_moveTo 6 none rm_X7_moveTo [.ref (ad g a0), .int a1, .int a2] V none V1) (hR : rm_X7_moveTo.frames + 1 ≤ R.frames ∧ 8 + (6 + 11) + rm_X7_moveTo.locals ≤ R.locals) (hsz : ls.size = nL) (hrest : (rest.map fun v => v.category).sum ≤ 8) (hdg : decode cc pc = .ok (.invokestatic 225, 3)) (kk : ∀ (H1 : Heap) (locs1 : List Loc), OK g LM V1 s H1 locs1 → W p l e R s m args below meth c H1 locs1 0 0 Q (F0 m (pc + 3) ls (rest))) : W p l e R s m args below meth c H locs 0 0 Q (F0 m pc ls (.int a2 :: .int a1 :: .ref (ad g a0) :: rest)) :=
  x_cs (As := [.ref (ad g a0), .int a1, .int a2]) (n := 3) hB hz hM rfl rfl kw_951 kw_68 kw_949 kw_950 (by decide +kernel) rfl hR hsz hrest hdg kk
set_option maxHeartbeats 4000000 in
set_option maxRecDepth 100000 in
theorem w_X7_move {p : Program} {l : Launch} {e : Env} {s : State} {m : MethodId} {args : Array Value} {below : List Frame} {meth : Method} {c : Code} {g : GP} (hB : BX p s m args meth c g LM cX7_move 4 RX7 (some .int)) {o : Int32 × Mem} : ∀ (x1 : Int32) (x2 : Int32) (V : Mem) (H : Heap) (locs : List Loc) (ls : Array Slot), f_X7_move x1 x2 V = some o → OK g LM V s H locs → lv_has ls 4 [(0, .ref (ad g 0)), (1, .int x1), (2, .int x2)] → W p l e rm_X7_move s m args below meth c H locs 0 0 (MQ below (QQ g LM (some (.int o.1)) o.2) args s 0 0 (Ar g LM)) (F0 m 0 ls []) := by
  obtain ⟨hx, hb, hml, hown, hT, hr, hlk, hK, hJ, hZ, hN⟩ := id hB
  intro x1 x2 V H locs ls hE hz hl
  unfold f_X7_move at hE
  refine lv_aload_n hx hb dX7_move_0 rfl (lv_at hl 0 rfl) ?_
  refine lv_iconst (v := (0 : Int32)) hx hb dX7_move_1 (by decide) ?_
  refine p_X7_59 hB hz kdM_0 dX7_move_2 (fun H locs hz => ?_)
  refine lv_aload_n hx hb dX7_move_5 rfl (lv_at hl 0 rfl) ?_
  refine lv_iload_n hx hb dX7_move_6 rfl (lv_at hl 1 rfl) ?_
  obtain ⟨q7, hq7, hE⟩ := x_bind hE
  refine i_X7_222 hB hz kdM_0 (c_X7_isParagraph l g  hq7) ⟨(Nat.le_of_ble_eq_true rfl), (Nat.le_of_ble_eq_true rfl)⟩ hl.1 (Nat.le_of_ble_eq_true rfl) dX7_move_7 (fun H locs hz => ?_)
  refine lv_if_eq (tgt := 21) hx hb dX7_move_10 (by decide) (fun c10 => ?_) (fun c10 => ?_)
  · have hE := (if_pos c10).symm.trans hE
    refine lv_ldc (v := (-1000001 : Int32)) hx hb hown (hT _ kw_826) dX7_move_21 ?_
    exact x_iret hB hz hE dX7_move_23
  · have hE := (if_neg c10).symm.trans hE
    refine lv_aload_n hx hb dX7_move_13 rfl (lv_at hl 0 rfl) ?_
    refine lv_iload_n hx hb dX7_move_14 rfl (lv_at hl 2 rfl) ?_
    obtain ⟨q15, hq15, hE⟩ := x_bind hE
    refine i_X7_222 hB hz kdM_0 (c_X7_isParagraph l g  hq15) ⟨(Nat.le_of_ble_eq_true rfl), (Nat.le_of_ble_eq_true rfl)⟩ hl.1 (Nat.le_of_ble_eq_true rfl) dX7_move_15 (fun H locs hz => ?_)
    refine lv_if_ne (tgt := 24) hx hb dX7_move_18 (by decide) (fun c18 => ?_) (fun c18 => ?_)
    · have hE := (if_neg c18).symm.trans hE
      refine lv_iload_n hx hb dX7_move_24 rfl (lv_at hl 1 rfl) ?_
      refine lv_iload_n hx hb dX7_move_25 rfl (lv_at hl 2 rfl) ?_
      refine lv_icmp_ne (tgt := 32) hx hb dX7_move_26 (by decide) (fun c26 => ?_) (fun c26 => ?_)
      · have hE := (if_neg c26).symm.trans hE
        refine lv_aload_n hx hb dX7_move_32 rfl (lv_at hl 0 rfl) ?_
        obtain ⟨q33, hq33, hE⟩ := x_bind hE
        refine i_X7_219 hB hz kdM_0 (c_X7_keep l g  hq33) ⟨(Nat.le_of_ble_eq_true rfl), (Nat.le_of_ble_eq_true rfl)⟩ hl.1 (Nat.le_of_ble_eq_true rfl) dX7_move_33 (fun H locs hz => ?_)
        refine lv_aload_n hx hb dX7_move_36 rfl (lv_at hl 0 rfl) ?_
        refine g_X7_19 hB hz kdM_0 dX7_move_37 ?_
        refine lv_iload_n hx hb dX7_move_40 rfl (lv_at hl 1 rfl) ?_
        refine lv_iconst (v := (1 : Int32)) hx hb dX7_move_41 (by decide) ?_
        obtain ⟨q42, hq42, hE⟩ := x_bind hE
        refine i_X7_165 hB hz (c_X7_of l g kdM_4 hq42) ⟨(Nat.le_of_ble_eq_true rfl), (Nat.le_of_ble_eq_true rfl)⟩ hl.1 (Nat.le_of_ble_eq_true rfl) dX7_move_42 (fun H locs hz => ?_)
        refine lv_istore_n (lv' := [(3, .int q42.1), (0, .ref (ad g 0)), (1, .int x1), (2, .int x2)]) hx hb dX7_move_45 rfl hl (by decide) rfl (fun ls hl => ?_)
        refine lv_aload_n hx hb dX7_move_46 rfl (lv_at hl 1 rfl) ?_
        refine g_X7_19 hB hz kdM_0 dX7_move_47 ?_
        refine lv_iload_n hx hb dX7_move_50 rfl (lv_at hl 2 rfl) ?_
        refine lv_iload_n hx hb dX7_move_51 rfl (lv_at hl 3 rfl) ?_
        obtain ⟨q52, hq52, hE⟩ := x_bind hE
        refine i_X7_225 hB hz (c_X7_moveTo l g kdM_4 hq52) ⟨(Nat.le_of_ble_eq_true rfl), (Nat.le_of_ble_eq_true rfl)⟩ hl.1 (Nat.le_of_ble_eq_true rfl) dX7_move_52 (fun H locs hz => ?_)
        refine lv_iload_n hx hb dX7_move_55 rfl (lv_at hl 0 rfl) ?_
        exact x_iret hB hz hE dX7_move_56
      · have hE := (if_pos c26).symm.trans hE
        refine lv_ldc (v := (-1000002 : Int32)) hx hb hown (hT _ kw_918) dX7_move_29 ?_
        exact x_iret hB hz hE dX7_move_31
    · have hE := (if_pos c18).symm.trans hE
      refine lv_ldc (v := (-1000001 : Int32)) hx hb hown (hT _ kw_826) dX7_move_21 ?_
      exact x_iret hB hz hE dX7_move_23
theorem c_X7_move (l : Launch) (g : GP) {x1 : Int32} {x2 : Int32} {V : Mem} {o : Int32 × Mem} (hE : f_X7_move x1 x2 V = some o) : CT l g LM yX7_move cX7_move 4 (some .int) rm_X7_move [.ref (ad g 0), .int x1, .int x2] V (some (.int o.1)) o.2 := by
  refine ct_of (by decide) (Nat.le_of_ble_eq_true rfl) ?_
  intro p e s m args below meth c ls hB hz hl
  exact w_X7_move hB _ _ _ _ _ _  hE hz hl
def rm_X7_change : Room := { frames := 2, cells := 0, slots := 0, locals := 47 }
set_option maxHeartbeats 4000000 in
set_option maxRecDepth 100000 in
theorem w_X7_change {p : Program} {l : Launch} {e : Env} {s : State} {m : MethodId} {args : Array Value} {below : List Frame} {meth : Method} {c : Code} {g : GP} (hB : BX p s m args meth c g LM cX7_change 6 RX7 (some .int)) {o : Int32 × Mem} : ∀ (x1 : Int32) (x2 : Int32) (x3 : Int32) (x4 : Int32) (V : Mem) (H : Heap) (locs : List Loc) (ls : Array Slot), f_X7_change x1 x2 x3 x4 V = some o → OK g LM V s H locs → lv_has ls 6 [(0, .ref (ad g 0)), (1, .int x1), (2, .int x2), (3, .int x3), (4, .int x4)] → W p l e rm_X7_change s m args below meth c H locs 0 0 (MQ below (QQ g LM (some (.int o.1)) o.2) args s 0 0 (Ar g LM)) (F0 m 0 ls []) := by
  obtain ⟨hx, hb, hml, hown, hT, hr, hlk, hK, hJ, hZ, hN⟩ := id hB
  intro x1 x2 x3 x4 V H locs ls hE hz hl
  unfold f_X7_change at hE
  refine lv_aload_n hx hb dX7_change_0 rfl (lv_at hl 0 rfl) ?_
  refine lv_iconst (v := (0 : Int32)) hx hb dX7_change_1 (by decide) ?_
  refine p_X7_59 hB hz kdM_0 dX7_change_2 (fun H locs hz => ?_)
  refine lv_aload_n hx hb dX7_change_5 rfl (lv_at hl 0 rfl) ?_
  refine lv_iload_n hx hb dX7_change_6 rfl (lv_at hl 1 rfl) ?_
  obtain ⟨q7, hq7, hE⟩ := x_bind hE
  refine i_X7_222 hB hz kdM_0 (c_X7_isParagraph l g  hq7) ⟨(Nat.le_of_ble_eq_true rfl), (Nat.le_of_ble_eq_true rfl)⟩ hl.1 (Nat.le_of_ble_eq_true rfl) dX7_change_7 (fun H locs hz => ?_)
  refine lv_if_eq (tgt := 23) hx hb dX7_change_10 (by decide) (fun c10 => ?_) (fun c10 => ?_)
  · have hE := (if_pos c10).symm.trans hE
    refine lv_ldc (v := (-1000001 : Int32)) hx hb hown (hT _ kw_826) dX7_change_23 ?_
    exact x_iret hB hz hE dX7_change_25
  · have hE := (if_neg c10).symm.trans hE
    refine lv_iload_n hx hb dX7_change_13 rfl (lv_at hl 2 rfl) ?_
    refine lv_iload_n hx hb dX7_change_14 rfl (lv_at hl 3 rfl) ?_
    refine lv_iload hx hb dX7_change_15 (lv_at hl 4 rfl) ?_
    obtain ⟨q17, hq17, hE⟩ := x_bind hE
    refine i_X7_215 hB hz (c_X7_isSuch l g  hq17) ⟨(Nat.le_of_ble_eq_true rfl), (Nat.le_of_ble_eq_true rfl)⟩ hl.1 (Nat.le_of_ble_eq_true rfl) dX7_change_17 (fun H locs hz => ?_)
    refine lv_if_ne (tgt := 26) hx hb dX7_change_20 (by decide) (fun c20 => ?_) (fun c20 => ?_)
    · have hE := (if_neg c20).symm.trans hE
      refine lv_aload_n hx hb dX7_change_26 rfl (lv_at hl 0 rfl) ?_
      obtain ⟨q27, hq27, hE⟩ := x_bind hE
      refine i_X7_219 hB hz kdM_0 (c_X7_keep l g  hq27) ⟨(Nat.le_of_ble_eq_true rfl), (Nat.le_of_ble_eq_true rfl)⟩ hl.1 (Nat.le_of_ble_eq_true rfl) dX7_change_27 (fun H locs hz => ?_)
      refine lv_aload_n hx hb dX7_change_30 rfl (lv_at hl 0 rfl) ?_
      refine g_X7_19 hB hz kdM_0 dX7_change_31 ?_
      refine lv_iload_n hx hb dX7_change_34 rfl (lv_at hl 1 rfl) ?_
      refine lv_iconst (v := (0 : Int32)) hx hb dX7_change_35 (by decide) ?_
      obtain ⟨q36, hq36, hE⟩ := x_bind hE
      refine i_X7_165 hB hz (c_X7_of l g kdM_4 hq36) ⟨(Nat.le_of_ble_eq_true rfl), (Nat.le_of_ble_eq_true rfl)⟩ hl.1 (Nat.le_of_ble_eq_true rfl) dX7_change_36 (fun H locs hz => ?_)
      refine lv_istore (lv' := [(5, .int q36.1), (0, .ref (ad g 0)), (1, .int x1), (2, .int x2), (3, .int x3), (4, .int x4)]) hx hb dX7_change_39 hl (by decide) rfl (fun ls hl => ?_)
      refine lv_aload_n hx hb dX7_change_41 rfl (lv_at hl 1 rfl) ?_
      refine g_X7_19 hB hz kdM_0 dX7_change_42 ?_
      refine lv_iload_n hx hb dX7_change_45 rfl (lv_at hl 2 rfl) ?_
      refine lv_iload_n hx hb dX7_change_46 rfl (lv_at hl 3 rfl) ?_
      refine lv_iload_n hx hb dX7_change_47 rfl (lv_at hl 4 rfl) ?_
      refine lv_iload hx hb dX7_change_48 (lv_at hl 5 rfl) ?_
      obtain ⟨q50, hq50, hE⟩ := x_bind hE
      refine i_X7_141 hB hz (c_X7_layAt l g kdM_4 hq50) ⟨(Nat.le_of_ble_eq_true rfl), (Nat.le_of_ble_eq_true rfl)⟩ hl.1 (Nat.le_of_ble_eq_true rfl) dX7_change_50 (fun H locs hz => ?_)
      refine lv_iload hx hb dX7_change_53 (lv_at hl 0 rfl) ?_
      exact x_iret hB hz hE dX7_change_55
    · have hE := (if_pos c20).symm.trans hE
      refine lv_ldc (v := (-1000001 : Int32)) hx hb hown (hT _ kw_826) dX7_change_23 ?_
      exact x_iret hB hz hE dX7_change_25
theorem c_X7_change (l : Launch) (g : GP) {x1 : Int32} {x2 : Int32} {x3 : Int32} {x4 : Int32} {V : Mem} {o : Int32 × Mem} (hE : f_X7_change x1 x2 x3 x4 V = some o) : CT l g LM yX7_change cX7_change 6 (some .int) rm_X7_change [.ref (ad g 0), .int x1, .int x2, .int x3, .int x4] V (some (.int o.1)) o.2 := by
  refine ct_of (by decide) (Nat.le_of_ble_eq_true rfl) ?_
  intro p e s m args below meth c ls hB hz hl
  exact w_X7_change hB _ _ _ _ _ _ _ _  hE hz hl
def rm_X7_style : Room := { frames := 1, cells := 0, slots := 0, locals := 25 }
set_option maxHeartbeats 4000000 in
set_option maxRecDepth 100000 in
theorem w_X7_style {p : Program} {l : Launch} {e : Env} {s : State} {m : MethodId} {args : Array Value} {below : List Frame} {meth : Method} {c : Code} {g : GP} (hB : BX p s m args meth c g LM cX7_style 4 RX7 (some .int)) {o : Int32 × Mem} : ∀ (x1 : Int32) (x2 : Int32) (V : Mem) (H : Heap) (locs : List Loc) (ls : Array Slot), f_X7_style x1 x2 V = some o → OK g LM V s H locs → lv_has ls 4 [(0, .ref (ad g 0)), (1, .int x1), (2, .int x2)] → W p l e rm_X7_style s m args below meth c H locs 0 0 (MQ below (QQ g LM (some (.int o.1)) o.2) args s 0 0 (Ar g LM)) (F0 m 0 ls []) := by
  obtain ⟨hx, hb, hml, hown, hT, hr, hlk, hK, hJ, hZ, hN⟩ := id hB
  intro x1 x2 V H locs ls hE hz hl
  unfold f_X7_style at hE
  refine lv_aload_n hx hb dX7_style_0 rfl (lv_at hl 0 rfl) ?_
  refine lv_iconst (v := (0 : Int32)) hx hb dX7_style_1 (by decide) ?_
  refine p_X7_59 hB hz kdM_0 dX7_style_2 (fun H locs hz => ?_)
  refine lv_aload_n hx hb dX7_style_5 rfl (lv_at hl 0 rfl) ?_
  obtain ⟨q6, hq6, hE⟩ := x_bind hE
  refine i_X7_211 hB hz kdM_0 (c_X7_isThere l g  hq6) ⟨(Nat.le_of_ble_eq_true rfl), (Nat.le_of_ble_eq_true rfl)⟩ hl.1 (Nat.le_of_ble_eq_true rfl) dX7_style_6 (fun H locs hz => ?_)
  refine lv_if_ne (tgt := 15) hx hb dX7_style_9 (by decide) (fun c9 => ?_) (fun c9 => ?_)
  · have hE := (if_neg c9).symm.trans hE
    refine lv_iload_n hx hb dX7_style_15 rfl (lv_at hl 1 rfl) ?_
    refine lv_i2l hx hb dX7_style_16 rfl ?_
    refine lv_lconst (v := (0 : Int64)) hx hb dX7_style_17 (by decide) ?_
    refine lv_ldc2 (v := (2 : Int64)) hx hb hown (hT _ kw_825) dX7_style_18 ?_
    obtain ⟨q21, hq21, hE⟩ := x_bind hE
    refine i_X7_69 hB hz (c_X7_in l g  hq21) ⟨(Nat.le_of_ble_eq_true rfl), (Nat.le_of_ble_eq_true rfl)⟩ hl.1 (Nat.le_of_ble_eq_true rfl) dX7_style_21 (fun H locs hz => ?_)
    refine lv_if_eq (tgt := 39) hx hb dX7_style_24 (by decide) (fun c24 => ?_) (fun c24 => ?_)
    · have hE := (if_pos c24).symm.trans hE
      refine lv_ldc (v := (-1000001 : Int32)) hx hb hown (hT _ kw_826) dX7_style_39 ?_
      exact x_iret hB hz hE dX7_style_41
    · have hE := (if_neg c24).symm.trans hE
      refine lv_iload_n hx hb dX7_style_27 rfl (lv_at hl 2 rfl) ?_
      refine lv_i2l hx hb dX7_style_28 rfl ?_
      refine lv_lconst (v := (0 : Int64)) hx hb dX7_style_29 (by decide) ?_
      refine lv_ldc2 (v := (3 : Int64)) hx hb hown (hT _ kw_960) dX7_style_30 ?_
      obtain ⟨q33, hq33, hE⟩ := x_bind hE
      refine i_X7_69 hB hz (c_X7_in l g  hq33) ⟨(Nat.le_of_ble_eq_true rfl), (Nat.le_of_ble_eq_true rfl)⟩ hl.1 (Nat.le_of_ble_eq_true rfl) dX7_style_33 (fun H locs hz => ?_)
      refine lv_if_ne (tgt := 42) hx hb dX7_style_36 (by decide) (fun c36 => ?_) (fun c36 => ?_)
      · have hE := (if_neg c36).symm.trans hE
        refine lv_aload_n hx hb dX7_style_42 rfl (lv_at hl 0 rfl) ?_
        obtain ⟨q43, hq43, hE⟩ := x_bind hE
        refine i_X7_219 hB hz kdM_0 (c_X7_keep l g  hq43) ⟨(Nat.le_of_ble_eq_true rfl), (Nat.le_of_ble_eq_true rfl)⟩ hl.1 (Nat.le_of_ble_eq_true rfl) dX7_style_43 (fun H locs hz => ?_)
        refine lv_aload_n hx hb dX7_style_46 rfl (lv_at hl 0 rfl) ?_
        refine g_X7_19 hB hz kdM_0 dX7_style_47 ?_
        refine lv_iconst (v := (1 : Int32)) hx hb dX7_style_50 (by decide) ?_
        refine lv_iload_n hx hb dX7_style_51 rfl (lv_at hl 1 rfl) ?_
        refine lv_iadd hx hb dX7_style_52 ?_
        obtain ⟨hi53, hE⟩ := x_chk hE
        refine x_iald (n := 76) hB hz kdM_4 hi53 dX7_style_53 ?_
        refine lv_istore_n (lv' := [(3, .int (q43 4 (((1 : Int32) + x1)).toNatClampNeg)), (0, .ref (ad g 0)), (1, .int x1), (2, .int x2)]) hx hb dX7_style_54 rfl hl (by decide) rfl (fun ls hl => ?_)
        refine lv_aload_n hx hb dX7_style_55 rfl (lv_at hl 1 rfl) ?_
        refine g_X7_19 hB hz kdM_0 dX7_style_56 ?_
        refine lv_iconst (v := (1 : Int32)) hx hb dX7_style_59 (by decide) ?_
        refine lv_iload_n hx hb dX7_style_60 rfl (lv_at hl 2 rfl) ?_
        refine lv_iadd hx hb dX7_style_61 ?_
        refine lv_iload_n hx hb dX7_style_62 rfl (lv_at hl 3 rfl) ?_
        obtain ⟨hi63, hE⟩ := x_chk hE
        refine x_iast (n := 76) hB hz kdM_4 hi63 dX7_style_63 (fun H locs hz => ?_)
        refine lv_iload_n hx hb dX7_style_64 rfl (lv_at hl 0 rfl) ?_
        exact x_iret hB hz hE dX7_style_65
      · have hE := (if_pos c36).symm.trans hE
        refine lv_ldc (v := (-1000001 : Int32)) hx hb hown (hT _ kw_826) dX7_style_39 ?_
        exact x_iret hB hz hE dX7_style_41
  · have hE := (if_pos c9).symm.trans hE
    refine lv_ldc (v := (-1000002 : Int32)) hx hb hown (hT _ kw_918) dX7_style_12 ?_
    exact x_iret hB hz hE dX7_style_14
theorem c_X7_style (l : Launch) (g : GP) {x1 : Int32} {x2 : Int32} {V : Mem} {o : Int32 × Mem} (hE : f_X7_style x1 x2 V = some o) : CT l g LM yX7_style cX7_style 4 (some .int) rm_X7_style [.ref (ad g 0), .int x1, .int x2] V (some (.int o.1)) o.2 := by
  refine ct_of (by decide) (Nat.le_of_ble_eq_true rfl) ?_
  intro p e s m args below meth c ls hB hz hl
  exact w_X7_style hB _ _ _ _ _ _  hE hz hl
def rm_X7_undo : Room := { frames := 0, cells := 0, slots := 0, locals := 0 }
set_option maxHeartbeats 4000000 in
set_option maxRecDepth 100000 in
theorem w_X7_undo_27 {p : Program} {l : Launch} {e : Env} {s : State} {m : MethodId} {args : Array Value} {below : List Frame} {meth : Method} {c : Code} {g : GP} (hB : BX p s m args meth c g LM cX7_undo 2 RX7 (some .int)) {o : Int32 × Mem} : ∀ (n : Nat), ∀ (x1 : Int32) (V : Mem) (H : Heap) (locs : List Loc) (ls : Array Slot), f_X7_undo_27 n x1 V = some o → OK g LM V s H locs → lv_has ls 2 [(0, .ref (ad g 0)), (1, .int x1)] → W p l e rm_X7_undo s m args below meth c H locs 0 0 (MQ below (QQ g LM (some (.int o.1)) o.2) args s 0 0 (Ar g LM)) (F0 m 27 ls []) := by
  obtain ⟨hx, hb, hml, hown, hT, hr, hlk, hK, hJ, hZ, hN⟩ := id hB
  intro n
  induction n with
  | zero =>
    intro x1 V H locs ls hE hz hl
    exact absurd (show (none : Option (Int32 × Mem)) = some o from hE) (by simp)
  | succ n ih =>
    intro x1 V H locs ls hE hz hl
    unfold f_X7_undo_27 at hE
    refine lv_iload_n hx hb dX7_undo_27 rfl (lv_at hl 1 rfl) ?_
    refine lv_bipush (v := (76 : Int32)) hx hb dX7_undo_28 (by decide) ?_
    refine lv_icmp_ge (tgt := 59) hx hb dX7_undo_30 (by decide) (fun c30 => ?_) (fun c30 => ?_)
    · have hE := (if_pos c30).symm.trans hE
      refine lv_aload_n hx hb dX7_undo_59 rfl (lv_at hl 0 rfl) ?_
      refine g_X7_162 hB hz kdM_0 dX7_undo_60 ?_
      exact x_iret hB hz hE dX7_undo_63
    · have hE := (if_neg c30).symm.trans hE
      refine lv_aload_n hx hb dX7_undo_33 rfl (lv_at hl 0 rfl) ?_
      refine g_X7_19 hB hz kdM_0 dX7_undo_34 ?_
      refine lv_iload_n hx hb dX7_undo_37 rfl (lv_at hl 1 rfl) ?_
      refine lv_aload_n hx hb dX7_undo_38 rfl (lv_at hl 0 rfl) ?_
      refine g_X7_28 hB hz kdM_0 dX7_undo_39 ?_
      refine lv_bipush (v := (76 : Int32)) hx hb dX7_undo_42 (by decide) ?_
      refine lv_aload_n hx hb dX7_undo_44 rfl (lv_at hl 0 rfl) ?_
      refine g_X7_162 hB hz kdM_0 dX7_undo_45 ?_
      refine lv_imul hx hb dX7_undo_48 ?_
      refine lv_iload_n hx hb dX7_undo_49 rfl (lv_at hl 1 rfl) ?_
      refine lv_iadd hx hb dX7_undo_50 ?_
      obtain ⟨hi51, hE⟩ := x_chk hE
      refine x_iald (n := 1824) hB hz kdM_7 hi51 dX7_undo_51 ?_
      obtain ⟨hi52, hE⟩ := x_chk hE
      refine x_iast (n := 76) hB hz kdM_4 hi52 dX7_undo_52 (fun H locs hz => ?_)
      refine lv_iinc (v := (x1 + 1)) (lv' := [(1, .int (x1 + 1)), (0, .ref (ad g 0))]) hx hb dX7_undo_53 hl (k := 1) rfl rfl (by decide) rfl (fun ls hl => ?_)
      refine lv_goto (tgt := 27) hx hb dX7_undo_56 (by decide) ?_
      exact ih _ _ _ _ _  hE hz (lv_sub hl [1, 0] rfl)

set_option maxHeartbeats 4000000 in
set_option maxRecDepth 100000 in
theorem w_X7_undo {p : Program} {l : Launch} {e : Env} {s : State} {m : MethodId} {args : Array Value} {below : List Frame} {meth : Method} {c : Code} {g : GP} (hB : BX p s m args meth c g LM cX7_undo 2 RX7 (some .int)) {o : Int32 × Mem} : ∀ (V : Mem) (H : Heap) (locs : List Loc) (ls : Array Slot), f_X7_undo V = some o → OK g LM V s H locs → lv_has ls 2 [(0, .ref (ad g 0))] → W p l e rm_X7_undo s m args below meth c H locs 0 0 (MQ below (QQ g LM (some (.int o.1)) o.2) args s 0 0 (Ar g LM)) (F0 m 0 ls []) := by
  obtain ⟨hx, hb, hml, hown, hT, hr, hlk, hK, hJ, hZ, hN⟩ := id hB
  intro V H locs ls hE hz hl
  unfold f_X7_undo at hE
  refine lv_aload_n hx hb dX7_undo_0 rfl (lv_at hl 0 rfl) ?_
  refine lv_iconst (v := (0 : Int32)) hx hb dX7_undo_1 (by decide) ?_
  refine p_X7_59 hB hz kdM_0 dX7_undo_2 (fun H locs hz => ?_)
  refine lv_aload_n hx hb dX7_undo_5 rfl (lv_at hl 0 rfl) ?_
  refine g_X7_162 hB hz kdM_0 dX7_undo_6 ?_
  refine lv_if_ne (tgt := 15) hx hb dX7_undo_9 (by decide) (fun c9 => ?_) (fun c9 => ?_)
  · have hE := (if_neg c9).symm.trans hE
    refine lv_aload_n hx hb dX7_undo_15 rfl (lv_at hl 0 rfl) ?_
    refine lv_dup hx hb dX7_undo_16 rfl ?_
    refine g_X7_162 hB hz kdM_0 dX7_undo_17 ?_
    refine lv_iconst (v := (1 : Int32)) hx hb dX7_undo_20 (by decide) ?_
    refine lv_isub hx hb dX7_undo_21 ?_
    refine p_X7_162 hB hz kdM_0 dX7_undo_22 (fun H locs hz => ?_)
    refine lv_iconst (v := (0 : Int32)) hx hb dX7_undo_25 (by decide) ?_
    refine lv_istore_n (lv' := [(1, .int (0 : Int32)), (0, .ref (ad g 0))]) hx hb dX7_undo_26 rfl hl (by decide) rfl (fun ls hl => ?_)
    exact w_X7_undo_27 hB  _ _ _ _ _ _  hE hz (lv_sub hl [1, 0] rfl)
  · have hE := (if_pos c9).symm.trans hE
    refine lv_ldc (v := (-1000002 : Int32)) hx hb hown (hT _ kw_918) dX7_undo_12 ?_
    exact x_iret hB hz hE dX7_undo_14
theorem c_X7_undo (l : Launch) (g : GP) {V : Mem} {o : Int32 × Mem} (hE : f_X7_undo V = some o) : CT l g LM yX7_undo cX7_undo 2 (some .int) rm_X7_undo [.ref (ad g 0)] V (some (.int o.1)) o.2 := by
  refine ct_of (by decide) (Nat.le_of_ble_eq_true rfl) ?_
  intro p e s m args below meth c ls hB hz hl
  exact w_X7_undo hB  _ _ _ _  hE hz hl
def rm_X7_paragraph : Room := { frames := 4, cells := 0, slots := 0, locals := 94 }
theorem i_X7_231 {p : Program} {l : Launch} {e : Env} {R : Room} {s : State} {m : MethodId} {args : Array Value} {below : List Frame} {meth : Method} {c : Code} {H : Heap} {locs : List Loc} {Q : State → Prop} {cc : ByteArray} {pc : Nat} {ls : Array Slot} {rest : List Value} {g : GP} {V : Mem} {nL : Nat} {ret : Option FieldType} (hB : BX p s m args meth c g LM cc nL RX7 ret) (hz : OK g LM V s H locs) {i : Nat} (hk : KD LM i 6) {a0 : Nat} {V1 : Mem} (hM : CT l g LM yX7_countAll cX7_countAll 4 none rm_X7_countAll [.ref (ad g i), .ref (ad g a0)] V none V1) (hR : rm_X7_countAll.frames + 1 ≤ R.frames ∧ 8 + (4 + 11) + rm_X7_countAll.locals ≤ R.locals) (hsz : ls.size = nL) (hrest : (rest.map fun v => v.category).sum ≤ 8) (hdg : decode cc pc = .ok (.invokevirtual 231, 3)) (kk : ∀ (H1 : Heap) (locs1 : List Loc), OK g LM V1 s H1 locs1 → W p l e R s m args below meth c H1 locs1 0 0 Q (F0 m (pc + 3) ls (rest))) : W p l e R s m args below meth c H locs 0 0 Q (F0 m pc ls (.ref (ad g a0) :: .ref (ad g i) :: rest)) :=
  x_cv (As := [.ref (ad g a0)]) (n := 1) (T := TX7) (N := 30) hB hz hM hk rfl rfl rfl rfl kw_972 kw_68 kw_969 kw_971 kw_37 (by decide +kernel) rfl hR hsz hrest hdg kk
theorem i_X7_235 {p : Program} {l : Launch} {e : Env} {R : Room} {s : State} {m : MethodId} {args : Array Value} {below : List Frame} {meth : Method} {c : Code} {H : Heap} {locs : List Loc} {Q : State → Prop} {cc : ByteArray} {pc : Nat} {ls : Array Slot} {rest : List Value} {g : GP} {V : Mem} {nL : Nat} {ret : Option FieldType} (hB : BX p s m args meth c g LM cc nL RX7 ret) (hz : OK g LM V s H locs) {i : Nat} (hk : KD LM i 6) {a0 : Nat} {a1 : Int32} {a2 : Int32} {V1 : Mem} (hM : CT l g LM yX7_writeLabel cX7_writeLabel 7 none rm_X7_writeLabel [.ref (ad g i), .ref (ad g a0), .int a1, .int a2] V none V1) (hR : rm_X7_writeLabel.frames + 1 ≤ R.frames ∧ 8 + (7 + 11) + rm_X7_writeLabel.locals ≤ R.locals) (hsz : ls.size = nL) (hrest : (rest.map fun v => v.category).sum ≤ 8) (hdg : decode cc pc = .ok (.invokevirtual 235, 3)) (kk : ∀ (H1 : Heap) (locs1 : List Loc), OK g LM V1 s H1 locs1 → W p l e R s m args below meth c H1 locs1 0 0 Q (F0 m (pc + 3) ls (rest))) : W p l e R s m args below meth c H locs 0 0 Q (F0 m pc ls (.int a2 :: .int a1 :: .ref (ad g a0) :: .ref (ad g i) :: rest)) :=
  x_cv (As := [.ref (ad g a0), .int a1, .int a2]) (n := 3) (T := TX7) (N := 30) hB hz hM hk rfl rfl rfl rfl kw_984 kw_68 kw_981 kw_983 kw_40 (by decide +kernel) rfl hR hsz hrest hdg kk
set_option maxHeartbeats 4000000 in
set_option maxRecDepth 100000 in
theorem w_X7_paragraph {p : Program} {l : Launch} {e : Env} {s : State} {m : MethodId} {args : Array Value} {below : List Frame} {meth : Method} {c : Code} {g : GP} (hB : BX p s m args meth c g LM cX7_paragraph 3 RX7 (some .int)) {o : Int32 × Mem} : ∀ (x1 : Int32) (x2 : Int32) (V : Mem) (H : Heap) (locs : List Loc) (ls : Array Slot), f_X7_paragraph x1 x2 V = some o → OK g LM V s H locs → lv_has ls 3 [(0, .ref (ad g 0)), (1, .int x1), (2, .int x2)] → W p l e rm_X7_paragraph s m args below meth c H locs 0 0 (MQ below (QQ g LM (some (.int o.1)) o.2) args s 0 0 (Ar g LM)) (F0 m 0 ls []) := by
  obtain ⟨hx, hb, hml, hown, hT, hr, hlk, hK, hJ, hZ, hN⟩ := id hB
  intro x1 x2 V H locs ls hE hz hl
  unfold f_X7_paragraph at hE
  refine lv_aload_n hx hb dX7_paragraph_0 rfl (lv_at hl 0 rfl) ?_
  refine lv_iconst (v := (0 : Int32)) hx hb dX7_paragraph_1 (by decide) ?_
  refine p_X7_59 hB hz kdM_0 dX7_paragraph_2 (fun H locs hz => ?_)
  refine lv_aload_n hx hb dX7_paragraph_5 rfl (lv_at hl 0 rfl) ?_
  refine lv_iload_n hx hb dX7_paragraph_6 rfl (lv_at hl 1 rfl) ?_
  obtain ⟨q7, hq7, hE⟩ := x_bind hE
  refine i_X7_222 hB hz kdM_0 (c_X7_isParagraph l g  hq7) ⟨(Nat.le_of_ble_eq_true rfl), (Nat.le_of_ble_eq_true rfl)⟩ hl.1 (Nat.le_of_ble_eq_true rfl) dX7_paragraph_7 (fun H locs hz => ?_)
  refine lv_if_eq (tgt := 25) hx hb dX7_paragraph_10 (by decide) (fun c10 => ?_) (fun c10 => ?_)
  · have hE := (if_pos c10).symm.trans hE
    refine lv_ldc (v := (-1000001 : Int32)) hx hb hown (hT _ kw_826) dX7_paragraph_25 ?_
    exact x_iret hB hz hE dX7_paragraph_27
  · have hE := (if_neg c10).symm.trans hE
    refine lv_iload_n hx hb dX7_paragraph_13 rfl (lv_at hl 2 rfl) ?_
    refine lv_i2l hx hb dX7_paragraph_14 rfl ?_
    refine lv_lconst (v := (0 : Int64)) hx hb dX7_paragraph_15 (by decide) ?_
    refine lv_ldc2 (v := (5 : Int64)) hx hb hown (hT _ kw_922) dX7_paragraph_16 ?_
    obtain ⟨q19, hq19, hE⟩ := x_bind hE
    refine i_X7_69 hB hz (c_X7_in l g  hq19) ⟨(Nat.le_of_ble_eq_true rfl), (Nat.le_of_ble_eq_true rfl)⟩ hl.1 (Nat.le_of_ble_eq_true rfl) dX7_paragraph_19 (fun H locs hz => ?_)
    refine lv_if_ne (tgt := 28) hx hb dX7_paragraph_22 (by decide) (fun c22 => ?_) (fun c22 => ?_)
    · have hE := (if_neg c22).symm.trans hE
      refine lv_aload_n hx hb dX7_paragraph_28 rfl (lv_at hl 0 rfl) ?_
      refine lv_aload_n hx hb dX7_paragraph_29 rfl (lv_at hl 0 rfl) ?_
      refine g_X7_19 hB hz kdM_0 dX7_paragraph_30 ?_
      obtain ⟨q33, hq33, hE⟩ := x_bind hE
      refine i_X7_231 hB hz kdM_0 (c_X7_countAll l g kdM_4 hq33) ⟨(Nat.le_of_ble_eq_true rfl), (Nat.le_of_ble_eq_true rfl)⟩ hl.1 (Nat.le_of_ble_eq_true rfl) dX7_paragraph_33 (fun H locs hz => ?_)
      refine lv_iload_n hx hb dX7_paragraph_36 rfl (lv_at hl 2 rfl) ?_
      refine lv_iconst (v := (2 : Int32)) hx hb dX7_paragraph_37 (by decide) ?_
      refine lv_icmp_ge (tgt := 53) hx hb dX7_paragraph_38 (by decide) (fun c38 => ?_) (fun c38 => ?_)
      · have hE := (if_pos c38).symm.trans hE
        refine lv_iload_n hx hb dX7_paragraph_53 rfl (lv_at hl 2 rfl) ?_
        refine lv_iconst (v := (5 : Int32)) hx hb dX7_paragraph_54 (by decide) ?_
        refine lv_icmp_ge (tgt := 71) hx hb dX7_paragraph_55 (by decide) (fun c55 => ?_) (fun c55 => ?_)
        · have hE := (if_pos c55).symm.trans hE
          refine lv_aload_n hx hb dX7_paragraph_71 rfl (lv_at hl 0 rfl) ?_
          refine lv_aload_n hx hb dX7_paragraph_72 rfl (lv_at hl 0 rfl) ?_
          refine g_X7_19 hB hz kdM_0 dX7_paragraph_73 ?_
          refine lv_iload_n hx hb dX7_paragraph_76 rfl (lv_at hl 1 rfl) ?_
          refine lv_iconst (v := (0 : Int32)) hx hb dX7_paragraph_77 (by decide) ?_
          obtain ⟨q78, hq78, hE⟩ := x_bind hE
          refine i_X7_235 hB hz kdM_0 (c_X7_writeLabel l g kdM_4 hq78) ⟨(Nat.le_of_ble_eq_true rfl), (Nat.le_of_ble_eq_true rfl)⟩ hl.1 (Nat.le_of_ble_eq_true rfl) dX7_paragraph_78 (fun H locs hz => ?_)
          refine lv_aload_n hx hb dX7_paragraph_81 rfl (lv_at hl 0 rfl) ?_
          refine g_X7_177 hB hz kdM_0 dX7_paragraph_82 ?_
          exact x_iret hB hz hE dX7_paragraph_85
        · have hE := (if_neg c55).symm.trans hE
          refine lv_aload_n hx hb dX7_paragraph_58 rfl (lv_at hl 0 rfl) ?_
          refine g_X7_40 hB hz kdM_0 dX7_paragraph_59 ?_
          refine lv_iconst (v := (3 : Int32)) hx hb dX7_paragraph_62 (by decide) ?_
          refine lv_iload_n hx hb dX7_paragraph_63 rfl (lv_at hl 1 rfl) ?_
          refine lv_imul hx hb dX7_paragraph_64 ?_
          refine lv_iload_n hx hb dX7_paragraph_65 rfl (lv_at hl 2 rfl) ?_
          refine lv_iadd hx hb dX7_paragraph_66 ?_
          refine lv_iconst (v := (2 : Int32)) hx hb dX7_paragraph_67 (by decide) ?_
          refine lv_isub hx hb dX7_paragraph_68 ?_
          obtain ⟨hi69, hE⟩ := x_chk hE
          refine x_iald (n := 72) hB hz kdM_11 hi69 dX7_paragraph_69 ?_
          exact x_iret hB hz hE dX7_paragraph_70
      · have hE := (if_neg c38).symm.trans hE
        refine lv_aload_n hx hb dX7_paragraph_41 rfl (lv_at hl 0 rfl) ?_
        refine g_X7_19 hB hz kdM_0 dX7_paragraph_42 ?_
        refine lv_iload_n hx hb dX7_paragraph_45 rfl (lv_at hl 1 rfl) ?_
        refine lv_iconst (v := (1 : Int32)) hx hb dX7_paragraph_46 (by decide) ?_
        refine lv_iload_n hx hb dX7_paragraph_47 rfl (lv_at hl 2 rfl) ?_
        refine lv_iadd hx hb dX7_paragraph_48 ?_
        obtain ⟨q49, hq49, hE⟩ := x_bind hE
        refine i_X7_165 hB hz (c_X7_of l g kdM_4 hq49) ⟨(Nat.le_of_ble_eq_true rfl), (Nat.le_of_ble_eq_true rfl)⟩ hl.1 (Nat.le_of_ble_eq_true rfl) dX7_paragraph_49 (fun H locs hz => ?_)
        exact x_iret hB hz hE dX7_paragraph_52
    · have hE := (if_pos c22).symm.trans hE
      refine lv_ldc (v := (-1000001 : Int32)) hx hb hown (hT _ kw_826) dX7_paragraph_25 ?_
      exact x_iret hB hz hE dX7_paragraph_27
theorem c_X7_paragraph (l : Launch) (g : GP) {x1 : Int32} {x2 : Int32} {V : Mem} {o : Int32 × Mem} (hE : f_X7_paragraph x1 x2 V = some o) : CT l g LM yX7_paragraph cX7_paragraph 3 (some .int) rm_X7_paragraph [.ref (ad g 0), .int x1, .int x2] V (some (.int o.1)) o.2 := by
  refine ct_of (by decide) (Nat.le_of_ble_eq_true rfl) ?_
  intro p e s m args below meth c ls hB hz hl
  exact w_X7_paragraph hB _ _ _ _ _ _  hE hz hl
def rm_X7_signAt : Room := { frames := 0, cells := 0, slots := 0, locals := 0 }
set_option maxHeartbeats 4000000 in
set_option maxRecDepth 100000 in
theorem w_X7_signAt {p : Program} {l : Launch} {e : Env} {s : State} {m : MethodId} {args : Array Value} {below : List Frame} {meth : Method} {c : Code} {g : GP} (hB : BX p s m args meth c g LM cX7_signAt 2 RX7 (some .int)) {o : Int32 × Mem} : ∀ (x1 : Int32) (V : Mem) (H : Heap) (locs : List Loc) (ls : Array Slot), f_X7_signAt x1 V = some o → OK g LM V s H locs → lv_has ls 2 [(0, .ref (ad g 0)), (1, .int x1)] → W p l e rm_X7_signAt s m args below meth c H locs 0 0 (MQ below (QQ g LM (some (.int o.1)) o.2) args s 0 0 (Ar g LM)) (F0 m 0 ls []) := by
  obtain ⟨hx, hb, hml, hown, hT, hr, hlk, hK, hJ, hZ, hN⟩ := id hB
  intro x1 V H locs ls hE hz hl
  unfold f_X7_signAt at hE
  refine lv_iload_n hx hb dX7_signAt_0 rfl (lv_at hl 1 rfl) ?_
  refine lv_aload_n hx hb dX7_signAt_1 rfl (lv_at hl 0 rfl) ?_
  refine g_X7_177 hB hz kdM_0 dX7_signAt_2 ?_
  refine lv_icmp_ge (tgt := 17) hx hb dX7_signAt_5 (by decide) (fun c5 => ?_) (fun c5 => ?_)
  · have hE := (if_pos c5).symm.trans hE
    refine lv_ldc (v := (-1000000 : Int32)) hx hb hown (hT _ kw_866) dX7_signAt_17 ?_
    exact x_iret hB hz hE dX7_signAt_19
  · have hE := (if_neg c5).symm.trans hE
    refine lv_aload_n hx hb dX7_signAt_8 rfl (lv_at hl 0 rfl) ?_
    refine g_X7_43 hB hz kdM_0 dX7_signAt_9 ?_
    refine lv_iload_n hx hb dX7_signAt_12 rfl (lv_at hl 1 rfl) ?_
    obtain ⟨hi13, hE⟩ := x_chk hE
    refine x_iald (n := 40) hB hz kdM_12 hi13 dX7_signAt_13 ?_
    refine lv_goto (tgt := 19) hx hb dX7_signAt_14 (by decide) ?_
    exact x_iret hB hz hE dX7_signAt_19
theorem c_X7_signAt (l : Launch) (g : GP) {x1 : Int32} {V : Mem} {o : Int32 × Mem} (hE : f_X7_signAt x1 V = some o) : CT l g LM yX7_signAt cX7_signAt 2 (some .int) rm_X7_signAt [.ref (ad g 0), .int x1] V (some (.int o.1)) o.2 := by
  refine ct_of (by decide) (Nat.le_of_ble_eq_true rfl) ?_
  intro p e s m args below meth c ls hB hz hl
  exact w_X7_signAt hB _ _ _ _ _  hE hz hl
def rm_X7_label : Room := { frames := 4, cells := 0, slots := 0, locals := 94 }
theorem i_X7_238 {p : Program} {l : Launch} {e : Env} {R : Room} {s : State} {m : MethodId} {args : Array Value} {below : List Frame} {meth : Method} {c : Code} {H : Heap} {locs : List Loc} {Q : State → Prop} {cc : ByteArray} {pc : Nat} {ls : Array Slot} {rest : List Value} {g : GP} {V : Mem} {nL : Nat} {ret : Option FieldType} (hB : BX p s m args meth c g LM cc nL RX7 ret) (hz : OK g LM V s H locs) {i : Nat} (hk : KD LM i 6) {a0 : Int32} {r : Int32} {V1 : Mem} (hM : CT l g LM yX7_signAt cX7_signAt 2 (some .int) rm_X7_signAt [.ref (ad g i), .int a0] V (some (.int r)) V1) (hR : rm_X7_signAt.frames + 1 ≤ R.frames ∧ 8 + (2 + 11) + rm_X7_signAt.locals ≤ R.locals) (hsz : ls.size = nL) (hrest : (rest.map fun v => v.category).sum ≤ 8) (hdg : decode cc pc = .ok (.invokevirtual 238, 3)) (kk : ∀ (H1 : Heap) (locs1 : List Loc), OK g LM V1 s H1 locs1 → W p l e R s m args below meth c H1 locs1 0 0 Q (F0 m (pc + 3) ls (.int r :: rest))) : W p l e R s m args below meth c H locs 0 0 Q (F0 m pc ls (.int a0 :: .ref (ad g i) :: rest)) :=
  x_cv (As := [.int a0]) (n := 1) (T := TX7) (N := 30) hB hz hM hk rfl rfl rfl rfl kw_1015 kw_68 kw_1012 kw_1014 kw_46 (by decide +kernel) rfl hR hsz hrest hdg kk
set_option maxHeartbeats 4000000 in
set_option maxRecDepth 100000 in
theorem w_X7_label {p : Program} {l : Launch} {e : Env} {s : State} {m : MethodId} {args : Array Value} {below : List Frame} {meth : Method} {c : Code} {g : GP} (hB : BX p s m args meth c g LM cX7_label 4 RX7 (some .int)) {o : Int32 × Mem} : ∀ (x1 : Int32) (x2 : Int32) (x3 : Int32) (V : Mem) (H : Heap) (locs : List Loc) (ls : Array Slot), f_X7_label x1 x2 x3 V = some o → OK g LM V s H locs → lv_has ls 4 [(0, .ref (ad g 0)), (1, .int x1), (2, .int x2), (3, .int x3)] → W p l e rm_X7_label s m args below meth c H locs 0 0 (MQ below (QQ g LM (some (.int o.1)) o.2) args s 0 0 (Ar g LM)) (F0 m 0 ls []) := by
  obtain ⟨hx, hb, hml, hown, hT, hr, hlk, hK, hJ, hZ, hN⟩ := id hB
  intro x1 x2 x3 V H locs ls hE hz hl
  unfold f_X7_label at hE
  refine lv_aload_n hx hb dX7_label_0 rfl (lv_at hl 0 rfl) ?_
  refine lv_iconst (v := (0 : Int32)) hx hb dX7_label_1 (by decide) ?_
  refine p_X7_59 hB hz kdM_0 dX7_label_2 (fun H locs hz => ?_)
  refine lv_aload_n hx hb dX7_label_5 rfl (lv_at hl 0 rfl) ?_
  refine lv_iload_n hx hb dX7_label_6 rfl (lv_at hl 1 rfl) ?_
  obtain ⟨q7, hq7, hE⟩ := x_bind hE
  refine i_X7_222 hB hz kdM_0 (c_X7_isParagraph l g  hq7) ⟨(Nat.le_of_ble_eq_true rfl), (Nat.le_of_ble_eq_true rfl)⟩ hl.1 (Nat.le_of_ble_eq_true rfl) dX7_label_7 (fun H locs hz => ?_)
  refine lv_if_eq (tgt := 29) hx hb dX7_label_10 (by decide) (fun c10 => ?_) (fun c10 => ?_)
  · have hE := (if_pos c10).symm.trans hE
    refine lv_ldc (v := (-1000001 : Int32)) hx hb hown (hT _ kw_826) dX7_label_29 ?_
    exact x_iret hB hz hE dX7_label_31
  · have hE := (if_neg c10).symm.trans hE
    refine lv_iload_n hx hb dX7_label_13 rfl (lv_at hl 2 rfl) ?_
    refine lv_i2l hx hb dX7_label_14 rfl ?_
    refine lv_lconst (v := (0 : Int64)) hx hb dX7_label_15 (by decide) ?_
    refine lv_ldc2 (v := (2 : Int64)) hx hb hown (hT _ kw_825) dX7_label_16 ?_
    obtain ⟨q19, hq19, hE⟩ := x_bind hE
    refine i_X7_69 hB hz (c_X7_in l g  hq19) ⟨(Nat.le_of_ble_eq_true rfl), (Nat.le_of_ble_eq_true rfl)⟩ hl.1 (Nat.le_of_ble_eq_true rfl) dX7_label_19 (fun H locs hz => ?_)
    refine lv_if_eq (tgt := 29) hx hb dX7_label_22 (by decide) (fun c22 => ?_) (fun c22 => ?_)
    · have hE := (if_pos c22).symm.trans hE
      refine lv_ldc (v := (-1000001 : Int32)) hx hb hown (hT _ kw_826) dX7_label_29 ?_
      exact x_iret hB hz hE dX7_label_31
    · have hE := (if_neg c22).symm.trans hE
      refine lv_iload_n hx hb dX7_label_25 rfl (lv_at hl 3 rfl) ?_
      refine lv_if_ge (tgt := 32) hx hb dX7_label_26 (by decide) (fun c26 => ?_) (fun c26 => ?_)
      · have hE := (if_pos c26).symm.trans hE
        refine lv_aload_n hx hb dX7_label_32 rfl (lv_at hl 0 rfl) ?_
        refine lv_aload_n hx hb dX7_label_33 rfl (lv_at hl 0 rfl) ?_
        refine g_X7_19 hB hz kdM_0 dX7_label_34 ?_
        obtain ⟨q37, hq37, hE⟩ := x_bind hE
        refine i_X7_231 hB hz kdM_0 (c_X7_countAll l g kdM_4 hq37) ⟨(Nat.le_of_ble_eq_true rfl), (Nat.le_of_ble_eq_true rfl)⟩ hl.1 (Nat.le_of_ble_eq_true rfl) dX7_label_37 (fun H locs hz => ?_)
        refine lv_aload_n hx hb dX7_label_40 rfl (lv_at hl 0 rfl) ?_
        refine lv_aload_n hx hb dX7_label_41 rfl (lv_at hl 0 rfl) ?_
        refine g_X7_19 hB hz kdM_0 dX7_label_42 ?_
        refine lv_iload_n hx hb dX7_label_45 rfl (lv_at hl 1 rfl) ?_
        refine lv_iload_n hx hb dX7_label_46 rfl (lv_at hl 2 rfl) ?_
        obtain ⟨q47, hq47, hE⟩ := x_bind hE
        refine i_X7_235 hB hz kdM_0 (c_X7_writeLabel l g kdM_4 hq47) ⟨(Nat.le_of_ble_eq_true rfl), (Nat.le_of_ble_eq_true rfl)⟩ hl.1 (Nat.le_of_ble_eq_true rfl) dX7_label_47 (fun H locs hz => ?_)
        refine lv_aload_n hx hb dX7_label_50 rfl (lv_at hl 0 rfl) ?_
        refine lv_iload_n hx hb dX7_label_51 rfl (lv_at hl 3 rfl) ?_
        obtain ⟨q52, hq52, hE⟩ := x_bind hE
        refine i_X7_238 hB hz kdM_0 (c_X7_signAt l g  hq52) ⟨(Nat.le_of_ble_eq_true rfl), (Nat.le_of_ble_eq_true rfl)⟩ hl.1 (Nat.le_of_ble_eq_true rfl) dX7_label_52 (fun H locs hz => ?_)
        exact x_iret hB hz hE dX7_label_55
      · have hE := (if_neg c26).symm.trans hE
        refine lv_ldc (v := (-1000001 : Int32)) hx hb hown (hT _ kw_826) dX7_label_29 ?_
        exact x_iret hB hz hE dX7_label_31
theorem c_X7_label (l : Launch) (g : GP) {x1 : Int32} {x2 : Int32} {x3 : Int32} {V : Mem} {o : Int32 × Mem} (hE : f_X7_label x1 x2 x3 V = some o) : CT l g LM yX7_label cX7_label 4 (some .int) rm_X7_label [.ref (ad g 0), .int x1, .int x2, .int x3] V (some (.int o.1)) o.2 := by
  refine ct_of (by decide) (Nat.le_of_ble_eq_true rfl) ?_
  intro p e s m args below meth c ls hB hz hl
  exact w_X7_label hB _ _ _ _ _ _ _  hE hz hl
def rm_X7_called : Room := { frames := 4, cells := 0, slots := 0, locals := 94 }
set_option maxHeartbeats 4000000 in
set_option maxRecDepth 100000 in
theorem w_X7_called_84 {p : Program} {l : Launch} {e : Env} {s : State} {m : MethodId} {args : Array Value} {below : List Frame} {meth : Method} {c : Code} {g : GP} (hB : BX p s m args meth c g LM cX7_called 5 RX7 (some .int)) {o : Int32 × Mem} : ∀ (x1 : Int32) (x3 : Int32) (x4 : Int32) (V : Mem) (H : Heap) (locs : List Loc) (ls : Array Slot), f_X7_called_84 x1 x3 x4 V = some o → OK g LM V s H locs → lv_has ls 5 [(0, .ref (ad g 0)), (1, .int x1), (3, .int x3), (4, .int x4)] → W p l e rm_X7_called s m args below meth c H locs 0 0 (MQ below (QQ g LM (some (.int o.1)) o.2) args s 0 0 (Ar g LM)) (F0 m 84 ls []) := by
  obtain ⟨hx, hb, hml, hown, hT, hr, hlk, hK, hJ, hZ, hN⟩ := id hB
  intro x1 x3 x4 V H locs ls hE hz hl
  unfold f_X7_called_84 at hE
  refine lv_aload_n hx hb dX7_called_84 rfl (lv_at hl 0 rfl) ?_
  refine lv_aload_n hx hb dX7_called_85 rfl (lv_at hl 0 rfl) ?_
  refine g_X7_19 hB hz kdM_0 dX7_called_86 ?_
  refine lv_iload_n hx hb dX7_called_89 rfl (lv_at hl 1 rfl) ?_
  refine lv_iload hx hb dX7_called_90 (lv_at hl 3 rfl) ?_
  obtain ⟨q92, hq92, hE⟩ := x_bind hE
  refine i_X7_235 hB hz kdM_0 (c_X7_writeLabel l g kdM_4 hq92) ⟨(Nat.le_of_ble_eq_true rfl), (Nat.le_of_ble_eq_true rfl)⟩ hl.1 (Nat.le_of_ble_eq_true rfl) dX7_called_92 (fun H locs hz => ?_)
  refine lv_aload_n hx hb dX7_called_95 rfl (lv_at hl 0 rfl) ?_
  refine lv_iload_n hx hb dX7_called_96 rfl (lv_at hl 2 rfl) ?_
  obtain ⟨q97, hq97, hE⟩ := x_bind hE
  refine i_X7_238 hB hz kdM_0 (c_X7_signAt l g  hq97) ⟨(Nat.le_of_ble_eq_true rfl), (Nat.le_of_ble_eq_true rfl)⟩ hl.1 (Nat.le_of_ble_eq_true rfl) dX7_called_97 (fun H locs hz => ?_)
  exact x_iret hB hz hE dX7_called_100

set_option maxHeartbeats 4000000 in
set_option maxRecDepth 100000 in
theorem w_X7_called_39 {p : Program} {l : Launch} {e : Env} {s : State} {m : MethodId} {args : Array Value} {below : List Frame} {meth : Method} {c : Code} {g : GP} (hB : BX p s m args meth c g LM cX7_called 5 RX7 (some .int)) {o : Int32 × Mem} : ∀ (n : Nat), ∀ (x1 : Int32) (x2 : Int32) (x3 : Int32) (x4 : Int32) (V : Mem) (H : Heap) (locs : List Loc) (ls : Array Slot), f_X7_called_39 n x1 x2 x3 x4 V = some o → OK g LM V s H locs → lv_has ls 5 [(0, .ref (ad g 0)), (1, .int x1), (2, .int x2), (3, .int x3), (4, .int x4)] → W p l e rm_X7_called s m args below meth c H locs 0 0 (MQ below (QQ g LM (some (.int o.1)) o.2) args s 0 0 (Ar g LM)) (F0 m 39 ls []) := by
  obtain ⟨hx, hb, hml, hown, hT, hr, hlk, hK, hJ, hZ, hN⟩ := id hB
  intro n
  induction n with
  | zero =>
    intro x1 x2 x3 x4 V H locs ls hE hz hl
    exact absurd (show (none : Option (Int32 × Mem)) = some o from hE) (by simp)
  | succ n ih =>
    intro x1 x2 x3 x4 V H locs ls hE hz hl
    unfold f_X7_called_39 at hE
    refine lv_iload hx hb dX7_called_39 (lv_at hl 4 rfl) ?_
    refine lv_aload_n hx hb dX7_called_41 rfl (lv_at hl 0 rfl) ?_
    refine g_X7_19 hB hz kdM_0 dX7_called_42 ?_
    refine lv_iload_n hx hb dX7_called_45 rfl (lv_at hl 1 rfl) ?_
    refine lv_iconst (v := (1 : Int32)) hx hb dX7_called_46 (by decide) ?_
    obtain ⟨q47, hq47, hE⟩ := x_bind hE
    refine i_X7_165 hB hz (c_X7_of l g kdM_4 hq47) ⟨(Nat.le_of_ble_eq_true rfl), (Nat.le_of_ble_eq_true rfl)⟩ hl.1 (Nat.le_of_ble_eq_true rfl) dX7_called_47 (fun H locs hz => ?_)
    refine lv_icmp_ge (tgt := 84) hx hb dX7_called_50 (by decide) (fun c50 => ?_) (fun c50 => ?_)
    · have hE := (if_pos c50).symm.trans hE
      exact w_X7_called_84 hB  _ _ _ _ _ _ _  hE hz (lv_sub hl [0, 1, 3, 4] rfl)
    · have hE := (if_neg c50).symm.trans hE
      refine lv_aload_n hx hb dX7_called_53 rfl (lv_at hl 0 rfl) ?_
      refine g_X7_40 hB hz kdM_0 dX7_called_54 ?_
      refine lv_iconst (v := (3 : Int32)) hx hb dX7_called_57 (by decide) ?_
      refine lv_iload_n hx hb dX7_called_58 rfl (lv_at hl 1 rfl) ?_
      refine lv_imul hx hb dX7_called_59 ?_
      refine lv_iload hx hb dX7_called_60 (lv_at hl 4 rfl) ?_
      refine lv_iadd hx hb dX7_called_62 ?_
      obtain ⟨hi63, hE⟩ := x_chk hE
      refine x_iald (n := 72) hB hz kdM_11 hi63 dX7_called_63 ?_
      refine lv_aload_n hx hb dX7_called_64 rfl (lv_at hl 0 rfl) ?_
      refine g_X7_40 hB hz kdM_0 dX7_called_65 ?_
      refine lv_iconst (v := (3 : Int32)) hx hb dX7_called_68 (by decide) ?_
      refine lv_iload_n hx hb dX7_called_69 rfl (lv_at hl 2 rfl) ?_
      refine lv_imul hx hb dX7_called_70 ?_
      refine lv_iload hx hb dX7_called_71 (lv_at hl 4 rfl) ?_
      refine lv_iadd hx hb dX7_called_73 ?_
      obtain ⟨hi74, hE⟩ := x_chk hE
      refine x_iald (n := 72) hB hz kdM_11 hi74 dX7_called_74 ?_
      refine lv_icmp_ne (tgt := 84) hx hb dX7_called_75 (by decide) (fun c75 => ?_) (fun c75 => ?_)
      · have hE := (if_neg c75).symm.trans hE
        exact w_X7_called_84 hB  _ _ _ _ _ _ _  hE hz (lv_sub hl [0, 1, 3, 4] rfl)
      · have hE := (if_pos c75).symm.trans hE
        refine lv_iinc (v := (x4 + 1)) (lv' := [(4, .int (x4 + 1)), (0, .ref (ad g 0)), (1, .int x1), (2, .int x2), (3, .int x3)]) hx hb dX7_called_78 hl (k := 4) rfl rfl (by decide) rfl (fun ls hl => ?_)
        refine lv_goto (tgt := 39) hx hb dX7_called_81 (by decide) ?_
        exact ih _ _ _ _ _ _ _ _  hE hz (lv_sub hl [1, 2, 3, 4, 0] rfl)

set_option maxHeartbeats 4000000 in
set_option maxRecDepth 100000 in
theorem w_X7_called {p : Program} {l : Launch} {e : Env} {s : State} {m : MethodId} {args : Array Value} {below : List Frame} {meth : Method} {c : Code} {g : GP} (hB : BX p s m args meth c g LM cX7_called 5 RX7 (some .int)) {o : Int32 × Mem} : ∀ (x1 : Int32) (x2 : Int32) (x3 : Int32) (V : Mem) (H : Heap) (locs : List Loc) (ls : Array Slot), f_X7_called x1 x2 x3 V = some o → OK g LM V s H locs → lv_has ls 5 [(0, .ref (ad g 0)), (1, .int x1), (2, .int x2), (3, .int x3)] → W p l e rm_X7_called s m args below meth c H locs 0 0 (MQ below (QQ g LM (some (.int o.1)) o.2) args s 0 0 (Ar g LM)) (F0 m 0 ls []) := by
  obtain ⟨hx, hb, hml, hown, hT, hr, hlk, hK, hJ, hZ, hN⟩ := id hB
  intro x1 x2 x3 V H locs ls hE hz hl
  unfold f_X7_called at hE
  refine lv_aload_n hx hb dX7_called_0 rfl (lv_at hl 0 rfl) ?_
  refine lv_iconst (v := (0 : Int32)) hx hb dX7_called_1 (by decide) ?_
  refine p_X7_59 hB hz kdM_0 dX7_called_2 (fun H locs hz => ?_)
  refine lv_aload_n hx hb dX7_called_5 rfl (lv_at hl 0 rfl) ?_
  refine lv_iload_n hx hb dX7_called_6 rfl (lv_at hl 1 rfl) ?_
  obtain ⟨q7, hq7, hE⟩ := x_bind hE
  refine i_X7_222 hB hz kdM_0 (c_X7_isParagraph l g  hq7) ⟨(Nat.le_of_ble_eq_true rfl), (Nat.le_of_ble_eq_true rfl)⟩ hl.1 (Nat.le_of_ble_eq_true rfl) dX7_called_7 (fun H locs hz => ?_)
  refine lv_if_eq (tgt := 25) hx hb dX7_called_10 (by decide) (fun c10 => ?_) (fun c10 => ?_)
  · have hE := (if_pos c10).symm.trans hE
    refine lv_ldc (v := (-1000001 : Int32)) hx hb hown (hT _ kw_826) dX7_called_25 ?_
    exact x_iret hB hz hE dX7_called_27
  · have hE := (if_neg c10).symm.trans hE
    refine lv_aload_n hx hb dX7_called_13 rfl (lv_at hl 0 rfl) ?_
    refine lv_iload_n hx hb dX7_called_14 rfl (lv_at hl 2 rfl) ?_
    obtain ⟨q15, hq15, hE⟩ := x_bind hE
    refine i_X7_222 hB hz kdM_0 (c_X7_isParagraph l g  hq15) ⟨(Nat.le_of_ble_eq_true rfl), (Nat.le_of_ble_eq_true rfl)⟩ hl.1 (Nat.le_of_ble_eq_true rfl) dX7_called_15 (fun H locs hz => ?_)
    refine lv_if_eq (tgt := 25) hx hb dX7_called_18 (by decide) (fun c18 => ?_) (fun c18 => ?_)
    · have hE := (if_pos c18).symm.trans hE
      refine lv_ldc (v := (-1000001 : Int32)) hx hb hown (hT _ kw_826) dX7_called_25 ?_
      exact x_iret hB hz hE dX7_called_27
    · have hE := (if_neg c18).symm.trans hE
      refine lv_iload_n hx hb dX7_called_21 rfl (lv_at hl 3 rfl) ?_
      refine lv_if_ge (tgt := 28) hx hb dX7_called_22 (by decide) (fun c22 => ?_) (fun c22 => ?_)
      · have hE := (if_pos c22).symm.trans hE
        refine lv_aload_n hx hb dX7_called_28 rfl (lv_at hl 0 rfl) ?_
        refine lv_aload_n hx hb dX7_called_29 rfl (lv_at hl 0 rfl) ?_
        refine g_X7_19 hB hz kdM_0 dX7_called_30 ?_
        obtain ⟨q33, hq33, hE⟩ := x_bind hE
        refine i_X7_231 hB hz kdM_0 (c_X7_countAll l g kdM_4 hq33) ⟨(Nat.le_of_ble_eq_true rfl), (Nat.le_of_ble_eq_true rfl)⟩ hl.1 (Nat.le_of_ble_eq_true rfl) dX7_called_33 (fun H locs hz => ?_)
        refine lv_iconst (v := (0 : Int32)) hx hb dX7_called_36 (by decide) ?_
        refine lv_istore (lv' := [(4, .int (0 : Int32)), (0, .ref (ad g 0)), (1, .int x1), (2, .int x2), (3, .int x3)]) hx hb dX7_called_37 hl (by decide) rfl (fun ls hl => ?_)
        exact w_X7_called_39 hB  _ _ _ _ _ _ _ _ _  hE hz (lv_sub hl [1, 2, 3, 4, 0] rfl)
      · have hE := (if_neg c22).symm.trans hE
        refine lv_ldc (v := (-1000001 : Int32)) hx hb hown (hT _ kw_826) dX7_called_25 ?_
        exact x_iret hB hz hE dX7_called_27
theorem c_X7_called (l : Launch) (g : GP) {x1 : Int32} {x2 : Int32} {x3 : Int32} {V : Mem} {o : Int32 × Mem} (hE : f_X7_called x1 x2 x3 V = some o) : CT l g LM yX7_called cX7_called 5 (some .int) rm_X7_called [.ref (ad g 0), .int x1, .int x2, .int x3] V (some (.int o.1)) o.2 := by
  refine ct_of (by decide) (Nat.le_of_ble_eq_true rfl) ?_
  intro p e s m args below meth c ls hB hz hl
  exact w_X7_called hB _ _ _ _ _ _ _  hE hz hl
def rm_X7_span : Room := { frames := 2, cells := 0, slots := 0, locals := 48 }
set_option maxHeartbeats 4000000 in
set_option maxRecDepth 100000 in
theorem w_X7_span_80 {p : Program} {l : Launch} {e : Env} {s : State} {m : MethodId} {args : Array Value} {below : List Frame} {meth : Method} {c : Code} {g : GP} (hB : BX p s m args meth c g LM cX7_span 6 RX7 (some .int)) {o : Int32 × Mem} : ∀ (n : Nat), ∀ (x2 : Int32) (x3 : Int32) (x4 : Int32) (x5 : Int32) (V : Mem) (H : Heap) (locs : List Loc) (ls : Array Slot), f_X7_span_80 n x2 x3 x4 x5 V = some o → OK g LM V s H locs → lv_has ls 6 [(0, .ref (ad g 0)), (2, .int x2), (3, .int x3), (4, .int x4), (5, .int x5)] → W p l e rm_X7_span s m args below meth c H locs 0 0 (MQ below (QQ g LM (some (.int o.1)) o.2) args s 0 0 (Ar g LM)) (F0 m 80 ls []) := by
  obtain ⟨hx, hb, hml, hown, hT, hr, hlk, hK, hJ, hZ, hN⟩ := id hB
  intro n
  induction n with
  | zero =>
    intro x2 x3 x4 x5 V H locs ls hE hz hl
    exact absurd (show (none : Option (Int32 × Mem)) = some o from hE) (by simp)
  | succ n ih =>
    intro x2 x3 x4 x5 V H locs ls hE hz hl
    unfold f_X7_span_80 at hE
    refine lv_iload hx hb dX7_span_80 (lv_at hl 4 rfl) ?_
    refine lv_iload_n hx hb dX7_span_82 rfl (lv_at hl 1 rfl) ?_
    refine lv_icmp_gt (tgt := 102) hx hb dX7_span_83 (by decide) (fun c83 => ?_) (fun c83 => ?_)
    · have hE := (if_pos c83).symm.trans hE
      refine lv_iload hx hb dX7_span_102 (lv_at hl 3 rfl) ?_
      refine lv_if_ne (tgt := 116) hx hb dX7_span_104 (by decide) (fun c104 => ?_) (fun c104 => ?_)
      · have hE := (if_neg c104).symm.trans hE
        refine lv_aload_n hx hb dX7_span_116 rfl (lv_at hl 0 rfl) ?_
        refine g_X7_37 hB hz kdM_0 dX7_span_117 ?_
        refine lv_iload_n hx hb dX7_span_120 rfl (lv_at hl 2 rfl) ?_
        obtain ⟨hi121, hE⟩ := x_chk hE
        refine x_iald (n := 6) hB hz kdM_10 hi121 dX7_span_121 ?_
        exact x_iret hB hz hE dX7_span_122
      · have hE := (if_pos c104).symm.trans hE
        refine lv_aload_n hx hb dX7_span_107 rfl (lv_at hl 0 rfl) ?_
        refine g_X7_34 hB hz kdM_0 dX7_span_108 ?_
        refine lv_iload_n hx hb dX7_span_111 rfl (lv_at hl 2 rfl) ?_
        obtain ⟨hi112, hE⟩ := x_chk hE
        refine x_iald (n := 6) hB hz kdM_9 hi112 dX7_span_112 ?_
        refine lv_goto (tgt := 122) hx hb dX7_span_113 (by decide) ?_
        exact x_iret hB hz hE dX7_span_122
    · have hE := (if_neg c83).symm.trans hE
      refine lv_aload_n hx hb dX7_span_86 rfl (lv_at hl 0 rfl) ?_
      refine lv_aload_n hx hb dX7_span_87 rfl (lv_at hl 0 rfl) ?_
      refine g_X7_19 hB hz kdM_0 dX7_span_88 ?_
      refine lv_iload hx hb dX7_span_91 (lv_at hl 4 rfl) ?_
      obtain ⟨q93, hq93, hE⟩ := x_bind hE
      refine i_X7_173 hB hz kdM_0 (c_X7_passes l g kdM_4 hq93) ⟨(Nat.le_of_ble_eq_true rfl), (Nat.le_of_ble_eq_true rfl)⟩ hl.1 (Nat.le_of_ble_eq_true rfl) dX7_span_93 (fun H locs hz => ?_)
      refine lv_iinc (v := (x5 + 1)) (lv' := [(5, .int (x5 + 1)), (0, .ref (ad g 0)), (2, .int x2), (3, .int x3), (4, .int x4)]) hx hb dX7_span_96 hl (k := 4) rfl rfl (by decide) rfl (fun ls hl => ?_)
      refine lv_goto (tgt := 80) hx hb dX7_span_99 (by decide) ?_
      exact ih _ _ _ _ _ _ _ _  hE hz (lv_sub hl [1, 2, 3, 4, 0] rfl)

set_option maxHeartbeats 4000000 in
set_option maxRecDepth 100000 in
theorem w_X7_span_55 {p : Program} {l : Launch} {e : Env} {s : State} {m : MethodId} {args : Array Value} {below : List Frame} {meth : Method} {c : Code} {g : GP} (hB : BX p s m args meth c g LM cX7_span 6 RX7 (some .int)) {o : Int32 × Mem} : ∀ (n : Nat), ∀ (x1 : Int32) (x2 : Int32) (x3 : Int32) (x4 : Int32) (x5 : Int32) (V : Mem) (H : Heap) (locs : List Loc) (ls : Array Slot), f_X7_span_55 n x1 x2 x3 x4 x5 V = some o → OK g LM V s H locs → lv_has ls 6 [(0, .ref (ad g 0)), (1, .int x1), (2, .int x2), (3, .int x3), (4, .int x4), (5, .int x5)] → W p l e rm_X7_span s m args below meth c H locs 0 0 (MQ below (QQ g LM (some (.int o.1)) o.2) args s 0 0 (Ar g LM)) (F0 m 55 ls []) := by
  obtain ⟨hx, hb, hml, hown, hT, hr, hlk, hK, hJ, hZ, hN⟩ := id hB
  intro n
  induction n with
  | zero =>
    intro x1 x2 x3 x4 x5 V H locs ls hE hz hl
    exact absurd (show (none : Option (Int32 × Mem)) = some o from hE) (by simp)
  | succ n ih =>
    intro x1 x2 x3 x4 x5 V H locs ls hE hz hl
    unfold f_X7_span_55 at hE
    refine lv_iload hx hb dX7_span_55 (lv_at hl 5 rfl) ?_
    refine lv_bipush (v := (6 : Int32)) hx hb dX7_span_57 (by decide) ?_
    refine lv_icmp_ge (tgt := 77) hx hb dX7_span_59 (by decide) (fun c59 => ?_) (fun c59 => ?_)
    · have hE := (if_pos c59).symm.trans hE
      refine lv_iload_n hx hb dX7_span_77 rfl (lv_at hl 1 rfl) ?_
      refine lv_istore (lv' := [(5, .int x1), (0, .ref (ad g 0)), (1, .int x1), (2, .int x2), (3, .int x3), (4, .int x4)]) hx hb dX7_span_78 hl (by decide) rfl (fun ls hl => ?_)
      exact w_X7_span_80 hB  _ _ _ _ _ _ _ _ _  hE hz (lv_sub hl [1, 3, 4, 5, 0] rfl)
    · have hE := (if_neg c59).symm.trans hE
      refine lv_aload_n hx hb dX7_span_62 rfl (lv_at hl 0 rfl) ?_
      refine lv_iload hx hb dX7_span_63 (lv_at hl 5 rfl) ?_
      refine lv_iload hx hb dX7_span_65 (lv_at hl 5 rfl) ?_
      refine lv_iconst (v := (0 : Int32)) hx hb dX7_span_67 (by decide) ?_
      obtain ⟨q68, hq68, hE⟩ := x_bind hE
      refine i_X7_169 hB hz kdM_0 (c_X7_become l g  hq68) ⟨(Nat.le_of_ble_eq_true rfl), (Nat.le_of_ble_eq_true rfl)⟩ hl.1 (Nat.le_of_ble_eq_true rfl) dX7_span_68 (fun H locs hz => ?_)
      refine lv_iinc (v := (x5 + 1)) (lv' := [(5, .int (x5 + 1)), (0, .ref (ad g 0)), (1, .int x1), (2, .int x2), (3, .int x3), (4, .int x4)]) hx hb dX7_span_71 hl (k := 5) rfl rfl (by decide) rfl (fun ls hl => ?_)
      refine lv_goto (tgt := 55) hx hb dX7_span_74 (by decide) ?_
      exact ih _ _ _ _ _ _ _ _ _  hE hz (lv_sub hl [1, 2, 3, 4, 5, 0] rfl)

set_option maxHeartbeats 4000000 in
set_option maxRecDepth 100000 in
theorem w_X7_span {p : Program} {l : Launch} {e : Env} {s : State} {m : MethodId} {args : Array Value} {below : List Frame} {meth : Method} {c : Code} {g : GP} (hB : BX p s m args meth c g LM cX7_span 6 RX7 (some .int)) {o : Int32 × Mem} : ∀ (x1 : Int32) (x2 : Int32) (x3 : Int32) (x4 : Int32) (V : Mem) (H : Heap) (locs : List Loc) (ls : Array Slot), f_X7_span x1 x2 x3 x4 V = some o → OK g LM V s H locs → lv_has ls 6 [(0, .ref (ad g 0)), (1, .int x1), (2, .int x2), (3, .int x3), (4, .int x4)] → W p l e rm_X7_span s m args below meth c H locs 0 0 (MQ below (QQ g LM (some (.int o.1)) o.2) args s 0 0 (Ar g LM)) (F0 m 0 ls []) := by
  obtain ⟨hx, hb, hml, hown, hT, hr, hlk, hK, hJ, hZ, hN⟩ := id hB
  intro x1 x2 x3 x4 V H locs ls hE hz hl
  unfold f_X7_span at hE
  refine lv_aload_n hx hb dX7_span_0 rfl (lv_at hl 0 rfl) ?_
  refine lv_iconst (v := (0 : Int32)) hx hb dX7_span_1 (by decide) ?_
  refine p_X7_59 hB hz kdM_0 dX7_span_2 (fun H locs hz => ?_)
  refine lv_aload_n hx hb dX7_span_5 rfl (lv_at hl 0 rfl) ?_
  refine lv_iload_n hx hb dX7_span_6 rfl (lv_at hl 1 rfl) ?_
  obtain ⟨q7, hq7, hE⟩ := x_bind hE
  refine i_X7_222 hB hz kdM_0 (c_X7_isParagraph l g  hq7) ⟨(Nat.le_of_ble_eq_true rfl), (Nat.le_of_ble_eq_true rfl)⟩ hl.1 (Nat.le_of_ble_eq_true rfl) dX7_span_7 (fun H locs hz => ?_)
  refine lv_if_eq (tgt := 49) hx hb dX7_span_10 (by decide) (fun c10 => ?_) (fun c10 => ?_)
  · have hE := (if_pos c10).symm.trans hE
    refine lv_ldc (v := (-1000001 : Int32)) hx hb hown (hT _ kw_826) dX7_span_49 ?_
    exact x_iret hB hz hE dX7_span_51
  · have hE := (if_neg c10).symm.trans hE
    refine lv_aload_n hx hb dX7_span_13 rfl (lv_at hl 0 rfl) ?_
    refine lv_iload_n hx hb dX7_span_14 rfl (lv_at hl 2 rfl) ?_
    obtain ⟨q15, hq15, hE⟩ := x_bind hE
    refine i_X7_222 hB hz kdM_0 (c_X7_isParagraph l g  hq15) ⟨(Nat.le_of_ble_eq_true rfl), (Nat.le_of_ble_eq_true rfl)⟩ hl.1 (Nat.le_of_ble_eq_true rfl) dX7_span_15 (fun H locs hz => ?_)
    refine lv_if_eq (tgt := 49) hx hb dX7_span_18 (by decide) (fun c18 => ?_) (fun c18 => ?_)
    · have hE := (if_pos c18).symm.trans hE
      refine lv_ldc (v := (-1000001 : Int32)) hx hb hown (hT _ kw_826) dX7_span_49 ?_
      exact x_iret hB hz hE dX7_span_51
    · have hE := (if_neg c18).symm.trans hE
      refine lv_iload_n hx hb dX7_span_21 rfl (lv_at hl 1 rfl) ?_
      refine lv_iload_n hx hb dX7_span_22 rfl (lv_at hl 2 rfl) ?_
      refine lv_icmp_gt (tgt := 49) hx hb dX7_span_23 (by decide) (fun c23 => ?_) (fun c23 => ?_)
      · have hE := (if_pos c23).symm.trans hE
        refine lv_ldc (v := (-1000001 : Int32)) hx hb hown (hT _ kw_826) dX7_span_49 ?_
        exact x_iret hB hz hE dX7_span_51
      · have hE := (if_neg c23).symm.trans hE
        refine lv_iload_n hx hb dX7_span_26 rfl (lv_at hl 3 rfl) ?_
        refine lv_i2l hx hb dX7_span_27 rfl ?_
        refine lv_lconst (v := (0 : Int64)) hx hb dX7_span_28 (by decide) ?_
        refine lv_ldc2 (v := (5 : Int64)) hx hb hown (hT _ kw_922) dX7_span_29 ?_
        obtain ⟨q32, hq32, hE⟩ := x_bind hE
        refine i_X7_69 hB hz (c_X7_in l g  hq32) ⟨(Nat.le_of_ble_eq_true rfl), (Nat.le_of_ble_eq_true rfl)⟩ hl.1 (Nat.le_of_ble_eq_true rfl) dX7_span_32 (fun H locs hz => ?_)
        refine lv_if_eq (tgt := 49) hx hb dX7_span_35 (by decide) (fun c35 => ?_) (fun c35 => ?_)
        · have hE := (if_pos c35).symm.trans hE
          refine lv_ldc (v := (-1000001 : Int32)) hx hb hown (hT _ kw_826) dX7_span_49 ?_
          exact x_iret hB hz hE dX7_span_51
        · have hE := (if_neg c35).symm.trans hE
          refine lv_iload hx hb dX7_span_38 (lv_at hl 4 rfl) ?_
          refine lv_i2l hx hb dX7_span_40 rfl ?_
          refine lv_lconst (v := (0 : Int64)) hx hb dX7_span_41 (by decide) ?_
          refine lv_lconst (v := (1 : Int64)) hx hb dX7_span_42 (by decide) ?_
          obtain ⟨q43, hq43, hE⟩ := x_bind hE
          refine i_X7_69 hB hz (c_X7_in l g  hq43) ⟨(Nat.le_of_ble_eq_true rfl), (Nat.le_of_ble_eq_true rfl)⟩ hl.1 (Nat.le_of_ble_eq_true rfl) dX7_span_43 (fun H locs hz => ?_)
          refine lv_if_ne (tgt := 52) hx hb dX7_span_46 (by decide) (fun c46 => ?_) (fun c46 => ?_)
          · have hE := (if_neg c46).symm.trans hE
            refine lv_iconst (v := (0 : Int32)) hx hb dX7_span_52 (by decide) ?_
            refine lv_istore (lv' := [(5, .int (0 : Int32)), (0, .ref (ad g 0)), (1, .int x1), (2, .int x2), (3, .int x3), (4, .int x4)]) hx hb dX7_span_53 hl (by decide) rfl (fun ls hl => ?_)
            exact w_X7_span_55 hB  _ _ _ _ _ _ _ _ _ _  hE hz (lv_sub hl [1, 2, 3, 4, 5, 0] rfl)
          · have hE := (if_pos c46).symm.trans hE
            refine lv_ldc (v := (-1000001 : Int32)) hx hb hown (hT _ kw_826) dX7_span_49 ?_
            exact x_iret hB hz hE dX7_span_51
theorem c_X7_span (l : Launch) (g : GP) {x1 : Int32} {x2 : Int32} {x3 : Int32} {x4 : Int32} {V : Mem} {o : Int32 × Mem} (hE : f_X7_span x1 x2 x3 x4 V = some o) : CT l g LM yX7_span cX7_span 6 (some .int) rm_X7_span [.ref (ad g 0), .int x1, .int x2, .int x3, .int x4] V (some (.int o.1)) o.2 := by
  refine ct_of (by decide) (Nat.le_of_ble_eq_true rfl) ?_
  intro p e s m args below meth c ls hB hz hl
  exact w_X7_span hB _ _ _ _ _ _ _ _  hE hz hl
def rm_X7_holdLabel : Room := { frames := 0, cells := 0, slots := 0, locals := 0 }
set_option maxHeartbeats 4000000 in
set_option maxRecDepth 100000 in
theorem w_X7_holdLabel_10 {p : Program} {l : Launch} {e : Env} {s : State} {m : MethodId} {args : Array Value} {below : List Frame} {meth : Method} {c : Code} {g : GP} (hB : BX p s m args meth c g LM cX7_holdLabel 2 RX7 none) {o : Mem} : ∀ (n : Nat), ∀ (x1 : Int32) (V : Mem) (H : Heap) (locs : List Loc) (ls : Array Slot), f_X7_holdLabel_10 n x1 V = some o → OK g LM V s H locs → lv_has ls 2 [(0, .ref (ad g 0)), (1, .int x1)] → W p l e rm_X7_holdLabel s m args below meth c H locs 0 0 (MQ below (QQ g LM none o) args s 0 0 (Ar g LM)) (F0 m 10 ls []) := by
  obtain ⟨hx, hb, hml, hown, hT, hr, hlk, hK, hJ, hZ, hN⟩ := id hB
  intro n
  induction n with
  | zero =>
    intro x1 V H locs ls hE hz hl
    exact absurd (show (none : Option (Mem)) = some o from hE) (by simp)
  | succ n ih =>
    intro x1 V H locs ls hE hz hl
    unfold f_X7_holdLabel_10 at hE
    refine lv_iload_n hx hb dX7_holdLabel_10 rfl (lv_at hl 1 rfl) ?_
    refine lv_aload_n hx hb dX7_holdLabel_11 rfl (lv_at hl 0 rfl) ?_
    refine g_X7_177 hB hz kdM_0 dX7_holdLabel_12 ?_
    refine lv_icmp_ge (tgt := 36) hx hb dX7_holdLabel_15 (by decide) (fun c15 => ?_) (fun c15 => ?_)
    · have hE := (if_pos c15).symm.trans hE
      exact x_vret hB hz hE dX7_holdLabel_36
    · have hE := (if_neg c15).symm.trans hE
      refine lv_aload_n hx hb dX7_holdLabel_18 rfl (lv_at hl 0 rfl) ?_
      refine g_X7_46 hB hz kdM_0 dX7_holdLabel_19 ?_
      refine lv_iload_n hx hb dX7_holdLabel_22 rfl (lv_at hl 1 rfl) ?_
      refine lv_aload_n hx hb dX7_holdLabel_23 rfl (lv_at hl 0 rfl) ?_
      refine g_X7_43 hB hz kdM_0 dX7_holdLabel_24 ?_
      refine lv_iload_n hx hb dX7_holdLabel_27 rfl (lv_at hl 1 rfl) ?_
      obtain ⟨hi28, hE⟩ := x_chk hE
      refine x_iald (n := 40) hB hz kdM_12 hi28 dX7_holdLabel_28 ?_
      obtain ⟨hi29, hE⟩ := x_chk hE
      refine x_iast (n := 40) hB hz kdM_13 hi29 dX7_holdLabel_29 (fun H locs hz => ?_)
      refine lv_iinc (v := (x1 + 1)) (lv' := [(1, .int (x1 + 1)), (0, .ref (ad g 0))]) hx hb dX7_holdLabel_30 hl (k := 1) rfl rfl (by decide) rfl (fun ls hl => ?_)
      refine lv_goto (tgt := 10) hx hb dX7_holdLabel_33 (by decide) ?_
      exact ih _ _ _ _ _  hE hz (lv_sub hl [1, 0] rfl)

set_option maxHeartbeats 4000000 in
set_option maxRecDepth 100000 in
theorem w_X7_holdLabel {p : Program} {l : Launch} {e : Env} {s : State} {m : MethodId} {args : Array Value} {below : List Frame} {meth : Method} {c : Code} {g : GP} (hB : BX p s m args meth c g LM cX7_holdLabel 2 RX7 none) {o : Mem} : ∀ (V : Mem) (H : Heap) (locs : List Loc) (ls : Array Slot), f_X7_holdLabel V = some o → OK g LM V s H locs → lv_has ls 2 [(0, .ref (ad g 0))] → W p l e rm_X7_holdLabel s m args below meth c H locs 0 0 (MQ below (QQ g LM none o) args s 0 0 (Ar g LM)) (F0 m 0 ls []) := by
  obtain ⟨hx, hb, hml, hown, hT, hr, hlk, hK, hJ, hZ, hN⟩ := id hB
  intro V H locs ls hE hz hl
  unfold f_X7_holdLabel at hE
  refine lv_aload_n hx hb dX7_holdLabel_0 rfl (lv_at hl 0 rfl) ?_
  refine lv_aload_n hx hb dX7_holdLabel_1 rfl (lv_at hl 0 rfl) ?_
  refine g_X7_177 hB hz kdM_0 dX7_holdLabel_2 ?_
  refine p_X7_241 hB hz kdM_0 dX7_holdLabel_5 (fun H locs hz => ?_)
  refine lv_iconst (v := (0 : Int32)) hx hb dX7_holdLabel_8 (by decide) ?_
  refine lv_istore_n (lv' := [(1, .int (0 : Int32)), (0, .ref (ad g 0))]) hx hb dX7_holdLabel_9 rfl hl (by decide) rfl (fun ls hl => ?_)
  exact w_X7_holdLabel_10 hB  _ _ _ _ _ _  hE hz (lv_sub hl [1, 0] rfl)
theorem c_X7_holdLabel (l : Launch) (g : GP) {V : Mem} {o : Mem} (hE : f_X7_holdLabel V = some o) : CT l g LM yX7_holdLabel cX7_holdLabel 2 none rm_X7_holdLabel [.ref (ad g 0)] V none o := by
  refine ct_of (by decide) (Nat.le_of_ble_eq_true rfl) ?_
  intro p e s m args below meth c ls hB hz hl
  exact w_X7_holdLabel hB  _ _ _ _  hE hz hl
def rm_X7_compared : Room := { frames := 0, cells := 0, slots := 0, locals := 0 }
set_option maxHeartbeats 4000000 in
set_option maxRecDepth 100000 in
theorem w_X7_compared_53 {p : Program} {l : Launch} {e : Env} {s : State} {m : MethodId} {args : Array Value} {below : List Frame} {meth : Method} {c : Code} {g : GP} (hB : BX p s m args meth c g LM cX7_compared 2 RX7 (some .int)) {o : Int32 × Mem} : ∀ (V : Mem) (H : Heap) (locs : List Loc) (ls : Array Slot), f_X7_compared_53 V = some o → OK g LM V s H locs → lv_has ls 2 [(0, .ref (ad g 0))] → W p l e rm_X7_compared s m args below meth c H locs 0 0 (MQ below (QQ g LM (some (.int o.1)) o.2) args s 0 0 (Ar g LM)) (F0 m 53 ls []) := by
  obtain ⟨hx, hb, hml, hown, hT, hr, hlk, hK, hJ, hZ, hN⟩ := id hB
  intro V H locs ls hE hz hl
  unfold f_X7_compared_53 at hE
  refine lv_aload_n hx hb dX7_compared_53 rfl (lv_at hl 0 rfl) ?_
  refine g_X7_177 hB hz kdM_0 dX7_compared_54 ?_
  refine lv_aload_n hx hb dX7_compared_57 rfl (lv_at hl 0 rfl) ?_
  refine g_X7_241 hB hz kdM_0 dX7_compared_58 ?_
  refine lv_isub hx hb dX7_compared_61 ?_
  exact x_iret hB hz hE dX7_compared_62

set_option maxHeartbeats 4000000 in
set_option maxRecDepth 100000 in
theorem w_X7_compared_2 {p : Program} {l : Launch} {e : Env} {s : State} {m : MethodId} {args : Array Value} {below : List Frame} {meth : Method} {c : Code} {g : GP} (hB : BX p s m args meth c g LM cX7_compared 2 RX7 (some .int)) {o : Int32 × Mem} : ∀ (n : Nat), ∀ (x1 : Int32) (V : Mem) (H : Heap) (locs : List Loc) (ls : Array Slot), f_X7_compared_2 n x1 V = some o → OK g LM V s H locs → lv_has ls 2 [(0, .ref (ad g 0)), (1, .int x1)] → W p l e rm_X7_compared s m args below meth c H locs 0 0 (MQ below (QQ g LM (some (.int o.1)) o.2) args s 0 0 (Ar g LM)) (F0 m 2 ls []) := by
  obtain ⟨hx, hb, hml, hown, hT, hr, hlk, hK, hJ, hZ, hN⟩ := id hB
  intro n
  induction n with
  | zero =>
    intro x1 V H locs ls hE hz hl
    exact absurd (show (none : Option (Int32 × Mem)) = some o from hE) (by simp)
  | succ n ih =>
    intro x1 V H locs ls hE hz hl
    unfold f_X7_compared_2 at hE
    refine lv_iload_n hx hb dX7_compared_2 rfl (lv_at hl 1 rfl) ?_
    refine lv_aload_n hx hb dX7_compared_3 rfl (lv_at hl 0 rfl) ?_
    refine g_X7_177 hB hz kdM_0 dX7_compared_4 ?_
    refine lv_icmp_ge (tgt := 53) hx hb dX7_compared_7 (by decide) (fun c7 => ?_) (fun c7 => ?_)
    · have hE := (if_pos c7).symm.trans hE
      exact w_X7_compared_53 hB   _ _ _ _  hE hz (lv_sub hl [0] rfl)
    · have hE := (if_neg c7).symm.trans hE
      refine lv_iload_n hx hb dX7_compared_10 rfl (lv_at hl 1 rfl) ?_
      refine lv_aload_n hx hb dX7_compared_11 rfl (lv_at hl 0 rfl) ?_
      refine g_X7_241 hB hz kdM_0 dX7_compared_12 ?_
      refine lv_icmp_ge (tgt := 53) hx hb dX7_compared_15 (by decide) (fun c15 => ?_) (fun c15 => ?_)
      · have hE := (if_pos c15).symm.trans hE
        exact w_X7_compared_53 hB   _ _ _ _  hE hz (lv_sub hl [0] rfl)
      · have hE := (if_neg c15).symm.trans hE
        refine lv_aload_n hx hb dX7_compared_18 rfl (lv_at hl 0 rfl) ?_
        refine g_X7_43 hB hz kdM_0 dX7_compared_19 ?_
        refine lv_iload_n hx hb dX7_compared_22 rfl (lv_at hl 1 rfl) ?_
        obtain ⟨hi23, hE⟩ := x_chk hE
        refine x_iald (n := 40) hB hz kdM_12 hi23 dX7_compared_23 ?_
        refine lv_aload_n hx hb dX7_compared_24 rfl (lv_at hl 0 rfl) ?_
        refine g_X7_46 hB hz kdM_0 dX7_compared_25 ?_
        refine lv_iload_n hx hb dX7_compared_28 rfl (lv_at hl 1 rfl) ?_
        obtain ⟨hi29, hE⟩ := x_chk hE
        refine x_iald (n := 40) hB hz kdM_13 hi29 dX7_compared_29 ?_
        refine lv_icmp_eq (tgt := 47) hx hb dX7_compared_30 (by decide) (fun c30 => ?_) (fun c30 => ?_)
        · have hE := (if_pos c30).symm.trans hE
          refine lv_iinc (v := (x1 + 1)) (lv' := [(1, .int (x1 + 1)), (0, .ref (ad g 0))]) hx hb dX7_compared_47 hl (k := 1) rfl rfl (by decide) rfl (fun ls hl => ?_)
          refine lv_goto (tgt := 2) hx hb dX7_compared_50 (by decide) ?_
          exact ih _ _ _ _ _  hE hz (lv_sub hl [1, 0] rfl)
        · have hE := (if_neg c30).symm.trans hE
          refine lv_aload_n hx hb dX7_compared_33 rfl (lv_at hl 0 rfl) ?_
          refine g_X7_43 hB hz kdM_0 dX7_compared_34 ?_
          refine lv_iload_n hx hb dX7_compared_37 rfl (lv_at hl 1 rfl) ?_
          obtain ⟨hi38, hE⟩ := x_chk hE
          refine x_iald (n := 40) hB hz kdM_12 hi38 dX7_compared_38 ?_
          refine lv_aload_n hx hb dX7_compared_39 rfl (lv_at hl 0 rfl) ?_
          refine g_X7_46 hB hz kdM_0 dX7_compared_40 ?_
          refine lv_iload_n hx hb dX7_compared_43 rfl (lv_at hl 1 rfl) ?_
          obtain ⟨hi44, hE⟩ := x_chk hE
          refine x_iald (n := 40) hB hz kdM_13 hi44 dX7_compared_44 ?_
          refine lv_isub hx hb dX7_compared_45 ?_
          exact x_iret hB hz hE dX7_compared_46

set_option maxHeartbeats 4000000 in
set_option maxRecDepth 100000 in
theorem w_X7_compared {p : Program} {l : Launch} {e : Env} {s : State} {m : MethodId} {args : Array Value} {below : List Frame} {meth : Method} {c : Code} {g : GP} (hB : BX p s m args meth c g LM cX7_compared 2 RX7 (some .int)) {o : Int32 × Mem} : ∀ (V : Mem) (H : Heap) (locs : List Loc) (ls : Array Slot), f_X7_compared V = some o → OK g LM V s H locs → lv_has ls 2 [(0, .ref (ad g 0))] → W p l e rm_X7_compared s m args below meth c H locs 0 0 (MQ below (QQ g LM (some (.int o.1)) o.2) args s 0 0 (Ar g LM)) (F0 m 0 ls []) := by
  obtain ⟨hx, hb, hml, hown, hT, hr, hlk, hK, hJ, hZ, hN⟩ := id hB
  intro V H locs ls hE hz hl
  unfold f_X7_compared at hE
  refine lv_iconst (v := (0 : Int32)) hx hb dX7_compared_0 (by decide) ?_
  refine lv_istore_n (lv' := [(1, .int (0 : Int32)), (0, .ref (ad g 0))]) hx hb dX7_compared_1 rfl hl (by decide) rfl (fun ls hl => ?_)
  exact w_X7_compared_2 hB  _ _ _ _ _ _  hE hz (lv_sub hl [1, 0] rfl)
theorem c_X7_compared (l : Launch) (g : GP) {V : Mem} {o : Int32 × Mem} (hE : f_X7_compared V = some o) : CT l g LM yX7_compared cX7_compared 2 (some .int) rm_X7_compared [.ref (ad g 0)] V (some (.int o.1)) o.2 := by
  refine ct_of (by decide) (Nat.le_of_ble_eq_true rfl) ?_
  intro p e s m args below meth c ls hB hz hl
  exact w_X7_compared hB  _ _ _ _  hE hz hl
def rm_X7_register : Room := { frames := 4, cells := 0, slots := 0, locals := 94 }
theorem i_X7_244 {p : Program} {l : Launch} {e : Env} {R : Room} {s : State} {m : MethodId} {args : Array Value} {below : List Frame} {meth : Method} {c : Code} {H : Heap} {locs : List Loc} {Q : State → Prop} {cc : ByteArray} {pc : Nat} {ls : Array Slot} {rest : List Value} {g : GP} {V : Mem} {nL : Nat} {ret : Option FieldType} (hB : BX p s m args meth c g LM cc nL RX7 ret) (hz : OK g LM V s H locs) {i : Nat} (hk : KD LM i 6) {V1 : Mem} (hM : CT l g LM yX7_holdLabel cX7_holdLabel 2 none rm_X7_holdLabel [.ref (ad g i)] V none V1) (hR : rm_X7_holdLabel.frames + 1 ≤ R.frames ∧ 8 + (2 + 11) + rm_X7_holdLabel.locals ≤ R.locals) (hsz : ls.size = nL) (hrest : (rest.map fun v => v.category).sum ≤ 8) (hdg : decode cc pc = .ok (.invokevirtual 244, 3)) (kk : ∀ (H1 : Heap) (locs1 : List Loc), OK g LM V1 s H1 locs1 → W p l e R s m args below meth c H1 locs1 0 0 Q (F0 m (pc + 3) ls (rest))) : W p l e R s m args below meth c H locs 0 0 Q (F0 m pc ls (.ref (ad g i) :: rest)) :=
  x_cv (As := []) (n := 0) (T := TX7) (N := 30) hB hz hM hk rfl rfl rfl rfl kw_1031 kw_68 kw_1028 kw_1030 kw_47 (by decide +kernel) rfl hR hsz hrest hdg kk
theorem i_X7_247 {p : Program} {l : Launch} {e : Env} {R : Room} {s : State} {m : MethodId} {args : Array Value} {below : List Frame} {meth : Method} {c : Code} {H : Heap} {locs : List Loc} {Q : State → Prop} {cc : ByteArray} {pc : Nat} {ls : Array Slot} {rest : List Value} {g : GP} {V : Mem} {nL : Nat} {ret : Option FieldType} (hB : BX p s m args meth c g LM cc nL RX7 ret) (hz : OK g LM V s H locs) {i : Nat} (hk : KD LM i 6) {r : Int32} {V1 : Mem} (hM : CT l g LM yX7_compared cX7_compared 2 (some .int) rm_X7_compared [.ref (ad g i)] V (some (.int r)) V1) (hR : rm_X7_compared.frames + 1 ≤ R.frames ∧ 8 + (2 + 11) + rm_X7_compared.locals ≤ R.locals) (hsz : ls.size = nL) (hrest : (rest.map fun v => v.category).sum ≤ 8) (hdg : decode cc pc = .ok (.invokevirtual 247, 3)) (kk : ∀ (H1 : Heap) (locs1 : List Loc), OK g LM V1 s H1 locs1 → W p l e R s m args below meth c H1 locs1 0 0 Q (F0 m (pc + 3) ls (.int r :: rest))) : W p l e R s m args below meth c H locs 0 0 Q (F0 m pc ls (.ref (ad g i) :: rest)) :=
  x_cv (As := []) (n := 0) (T := TX7) (N := 30) hB hz hM hk rfl rfl rfl rfl kw_1035 kw_68 kw_1032 kw_1034 kw_48 (by decide +kernel) rfl hR hsz hrest hdg kk
set_option maxHeartbeats 4000000 in
set_option maxRecDepth 100000 in
theorem w_X7_register_149 {p : Program} {l : Launch} {e : Env} {s : State} {m : MethodId} {args : Array Value} {below : List Frame} {meth : Method} {c : Code} {g : GP} (hB : BX p s m args meth c g LM cX7_register 6 RX7 (some .int)) {o : Int32 × Mem} {k32 : Int32 → Int32 → Mem → Option (Int32 × Mem)} (hk32 : ∀ (x1 : Int32) (x2 : Int32) (V : Mem) (H : Heap) (locs : List Loc) (ls : Array Slot), k32 x1 x2 V = some o → OK g LM V s H locs → lv_has ls 6 [(0, .ref (ad g 0)), (1, .int x1), (2, .int x2)] → W p l e rm_X7_register s m args below meth c H locs 0 0 (MQ below (QQ g LM (some (.int o.1)) o.2) args s 0 0 (Ar g LM)) (F0 m 32 ls [])) : ∀ (x1 : Int32) (x2 : Int32) (V : Mem) (H : Heap) (locs : List Loc) (ls : Array Slot), f_X7_register_149 k32 x1 x2 V = some o → OK g LM V s H locs → lv_has ls 6 [(0, .ref (ad g 0)), (1, .int x1), (2, .int x2)] → W p l e rm_X7_register s m args below meth c H locs 0 0 (MQ below (QQ g LM (some (.int o.1)) o.2) args s 0 0 (Ar g LM)) (F0 m 149 ls []) := by
  obtain ⟨hx, hb, hml, hown, hT, hr, hlk, hK, hJ, hZ, hN⟩ := id hB
  intro x1 x2 V H locs ls hE hz hl
  unfold f_X7_register_149 at hE
  refine lv_iinc (v := (x2 + 1)) (lv' := [(2, .int (x2 + 1)), (0, .ref (ad g 0)), (1, .int x1)]) hx hb dX7_register_149 hl (k := 2) rfl rfl (by decide) rfl (fun ls hl => ?_)
  refine lv_goto (tgt := 32) hx hb dX7_register_152 (by decide) ?_
  exact hk32 _ _ _ _ _ _  hE hz (lv_sub hl [1, 2, 0] rfl)

set_option maxHeartbeats 4000000 in
set_option maxRecDepth 100000 in
theorem w_X7_register_136 {p : Program} {l : Launch} {e : Env} {s : State} {m : MethodId} {args : Array Value} {below : List Frame} {meth : Method} {c : Code} {g : GP} (hB : BX p s m args meth c g LM cX7_register 6 RX7 (some .int)) {o : Int32 × Mem} {k72 : Int32 → Int32 → Int32 → Int32 → Mem → Option (Int32 × Mem)} (hk72 : ∀ (x1 : Int32) (x2 : Int32) (x3 : Int32) (x4 : Int32) (V : Mem) (H : Heap) (locs : List Loc) (ls : Array Slot), k72 x1 x2 x3 x4 V = some o → OK g LM V s H locs → lv_has ls 6 [(0, .ref (ad g 0)), (1, .int x1), (2, .int x2), (3, .int x3), (4, .int x4)] → W p l e rm_X7_register s m args below meth c H locs 0 0 (MQ below (QQ g LM (some (.int o.1)) o.2) args s 0 0 (Ar g LM)) (F0 m 72 ls [])) : ∀ (x1 : Int32) (x2 : Int32) (x3 : Int32) (x4 : Int32) (V : Mem) (H : Heap) (locs : List Loc) (ls : Array Slot), f_X7_register_136 k72 x1 x2 x3 x4 V = some o → OK g LM V s H locs → lv_has ls 6 [(0, .ref (ad g 0)), (1, .int x1), (2, .int x2), (3, .int x3), (4, .int x4)] → W p l e rm_X7_register s m args below meth c H locs 0 0 (MQ below (QQ g LM (some (.int o.1)) o.2) args s 0 0 (Ar g LM)) (F0 m 136 ls []) := by
  obtain ⟨hx, hb, hml, hown, hT, hr, hlk, hK, hJ, hZ, hN⟩ := id hB
  intro x1 x2 x3 x4 V H locs ls hE hz hl
  unfold f_X7_register_136 at hE
  refine lv_iinc (v := (x4 + 1)) (lv' := [(4, .int (x4 + 1)), (0, .ref (ad g 0)), (1, .int x1), (2, .int x2), (3, .int x3)]) hx hb dX7_register_136 hl (k := 4) rfl rfl (by decide) rfl (fun ls hl => ?_)
  refine lv_goto (tgt := 72) hx hb dX7_register_139 (by decide) ?_
  exact hk72 _ _ _ _ _ _ _ _  hE hz (lv_sub hl [1, 2, 3, 4, 0] rfl)

set_option maxHeartbeats 4000000 in
set_option maxRecDepth 100000 in
theorem w_X7_register_134 {p : Program} {l : Launch} {e : Env} {s : State} {m : MethodId} {args : Array Value} {below : List Frame} {meth : Method} {c : Code} {g : GP} (hB : BX p s m args meth c g LM cX7_register 6 RX7 (some .int)) {o : Int32 × Mem} {k72 : Int32 → Int32 → Int32 → Int32 → Mem → Option (Int32 × Mem)} (hk72 : ∀ (x1 : Int32) (x2 : Int32) (x3 : Int32) (x4 : Int32) (V : Mem) (H : Heap) (locs : List Loc) (ls : Array Slot), k72 x1 x2 x3 x4 V = some o → OK g LM V s H locs → lv_has ls 6 [(0, .ref (ad g 0)), (1, .int x1), (2, .int x2), (3, .int x3), (4, .int x4)] → W p l e rm_X7_register s m args below meth c H locs 0 0 (MQ below (QQ g LM (some (.int o.1)) o.2) args s 0 0 (Ar g LM)) (F0 m 72 ls [])) : ∀ (x1 : Int32) (x2 : Int32) (x4 : Int32) (s0 : Int32) (s1 : Int32) (V : Mem) (H : Heap) (locs : List Loc) (ls : Array Slot), f_X7_register_134 k72 x1 x2 x4 s0 s1 V = some o → OK g LM V s H locs → lv_has ls 6 [(0, .ref (ad g 0)), (1, .int x1), (2, .int x2), (4, .int x4)] → W p l e rm_X7_register s m args below meth c H locs 0 0 (MQ below (QQ g LM (some (.int o.1)) o.2) args s 0 0 (Ar g LM)) (F0 m 134 ls [.int s1, .int s0]) := by
  obtain ⟨hx, hb, hml, hown, hT, hr, hlk, hK, hJ, hZ, hN⟩ := id hB
  intro x1 x2 x4 s0 s1 V H locs ls hE hz hl
  unfold f_X7_register_134 at hE
  refine lv_iadd hx hb dX7_register_134 ?_
  refine lv_istore_n (lv' := [(3, .int (s0 + s1)), (0, .ref (ad g 0)), (1, .int x1), (2, .int x2), (4, .int x4)]) hx hb dX7_register_135 rfl hl (by decide) rfl (fun ls hl => ?_)
  exact w_X7_register_136 hB hk72 _ _ _ _ _ _ _ _  hE hz (lv_sub hl [1, 2, 3, 0, 4] rfl)

set_option maxHeartbeats 4000000 in
set_option maxRecDepth 100000 in
theorem w_X7_register_72 {p : Program} {l : Launch} {e : Env} {s : State} {m : MethodId} {args : Array Value} {below : List Frame} {meth : Method} {c : Code} {g : GP} (hB : BX p s m args meth c g LM cX7_register 6 RX7 (some .int)) {o : Int32 × Mem} {k32 : Int32 → Int32 → Mem → Option (Int32 × Mem)} (hk32 : ∀ (x1 : Int32) (x2 : Int32) (V : Mem) (H : Heap) (locs : List Loc) (ls : Array Slot), k32 x1 x2 V = some o → OK g LM V s H locs → lv_has ls 6 [(0, .ref (ad g 0)), (1, .int x1), (2, .int x2)] → W p l e rm_X7_register s m args below meth c H locs 0 0 (MQ below (QQ g LM (some (.int o.1)) o.2) args s 0 0 (Ar g LM)) (F0 m 32 ls [])) : ∀ (n : Nat), ∀ (x1 : Int32) (x2 : Int32) (x3 : Int32) (x4 : Int32) (V : Mem) (H : Heap) (locs : List Loc) (ls : Array Slot), f_X7_register_72 k32 n x1 x2 x3 x4 V = some o → OK g LM V s H locs → lv_has ls 6 [(0, .ref (ad g 0)), (1, .int x1), (2, .int x2), (3, .int x3), (4, .int x4)] → W p l e rm_X7_register s m args below meth c H locs 0 0 (MQ below (QQ g LM (some (.int o.1)) o.2) args s 0 0 (Ar g LM)) (F0 m 72 ls []) := by
  obtain ⟨hx, hb, hml, hown, hT, hr, hlk, hK, hJ, hZ, hN⟩ := id hB
  intro n
  induction n with
  | zero =>
    intro x1 x2 x3 x4 V H locs ls hE hz hl
    exact absurd (show (none : Option (Int32 × Mem)) = some o from hE) (by simp)
  | succ n ih =>
    intro x1 x2 x3 x4 V H locs ls hE hz hl
    unfold f_X7_register_72 at hE
    refine lv_iload hx hb dX7_register_72 (lv_at hl 4 rfl) ?_
    refine lv_aload_n hx hb dX7_register_74 rfl (lv_at hl 0 rfl) ?_
    refine g_X7_19 hB hz kdM_0 dX7_register_75 ?_
    refine lv_iconst (v := (0 : Int32)) hx hb dX7_register_78 (by decide) ?_
    obtain ⟨hi79, hE⟩ := x_chk hE
    refine x_iald (n := 76) hB hz kdM_4 hi79 dX7_register_79 ?_
    refine lv_icmp_ge (tgt := 142) hx hb dX7_register_80 (by decide) (fun c80 => ?_) (fun c80 => ?_)
    · have hE := (if_pos c80).symm.trans hE
      refine lv_iload_n hx hb dX7_register_142 rfl (lv_at hl 3 rfl) ?_
      refine lv_iload_n hx hb dX7_register_143 rfl (lv_at hl 1 rfl) ?_
      refine lv_icmp_ne (tgt := 149) hx hb dX7_register_144 (by decide) (fun c144 => ?_) (fun c144 => ?_)
      · have hE := (if_neg c144).symm.trans hE
        exact w_X7_register_149 hB hk32 _ _ _ _ _ _  hE hz (lv_sub hl [0, 1, 2] rfl)
      · have hE := (if_pos c144).symm.trans hE
        refine lv_iload_n hx hb dX7_register_147 rfl (lv_at hl 2 rfl) ?_
        exact x_iret hB hz hE dX7_register_148
    · have hE := (if_neg c80).symm.trans hE
      refine lv_aload_n hx hb dX7_register_83 rfl (lv_at hl 0 rfl) ?_
      refine g_X7_19 hB hz kdM_0 dX7_register_84 ?_
      refine lv_iload hx hb dX7_register_87 (lv_at hl 4 rfl) ?_
      obtain ⟨q89, hq89, hE⟩ := x_bind hE
      refine i_X7_194 hB hz (c_X7_isLabelled l g kdM_4 hq89) ⟨(Nat.le_of_ble_eq_true rfl), (Nat.le_of_ble_eq_true rfl)⟩ hl.1 (Nat.le_of_ble_eq_true rfl) dX7_register_89 (fun H locs hz => ?_)
      refine lv_if_eq (tgt := 136) hx hb dX7_register_92 (by decide) (fun c92 => ?_) (fun c92 => ?_)
      · have hE := (if_pos c92).symm.trans hE
        exact w_X7_register_136 hB ih _ _ _ _ _ _ _ _  hE hz (lv_sub hl [0, 1, 2, 3, 4] rfl)
      · have hE := (if_neg c92).symm.trans hE
        refine lv_aload_n hx hb dX7_register_95 rfl (lv_at hl 0 rfl) ?_
        refine lv_aload_n hx hb dX7_register_96 rfl (lv_at hl 0 rfl) ?_
        refine g_X7_19 hB hz kdM_0 dX7_register_97 ?_
        refine lv_iload hx hb dX7_register_100 (lv_at hl 4 rfl) ?_
        refine lv_iconst (v := (0 : Int32)) hx hb dX7_register_102 (by decide) ?_
        obtain ⟨q103, hq103, hE⟩ := x_bind hE
        refine i_X7_235 hB hz kdM_0 (c_X7_writeLabel l g kdM_4 hq103) ⟨(Nat.le_of_ble_eq_true rfl), (Nat.le_of_ble_eq_true rfl)⟩ hl.1 (Nat.le_of_ble_eq_true rfl) dX7_register_103 (fun H locs hz => ?_)
        refine lv_aload_n hx hb dX7_register_106 rfl (lv_at hl 0 rfl) ?_
        obtain ⟨q107, hq107, hE⟩ := x_bind hE
        refine i_X7_247 hB hz kdM_0 (c_X7_compared l g  hq107) ⟨(Nat.le_of_ble_eq_true rfl), (Nat.le_of_ble_eq_true rfl)⟩ hl.1 (Nat.le_of_ble_eq_true rfl) dX7_register_107 (fun H locs hz => ?_)
        refine lv_istore (lv' := [(5, .int q107.1), (0, .ref (ad g 0)), (1, .int x1), (2, .int x2), (3, .int x3), (4, .int x4)]) hx hb dX7_register_110 hl (by decide) rfl (fun ls hl => ?_)
        refine lv_iload_n hx hb dX7_register_112 rfl (lv_at hl 4 rfl) ?_
        refine lv_iload hx hb dX7_register_113 (lv_at hl 0 rfl) ?_
        refine lv_if_lt (tgt := 129) hx hb dX7_register_115 (by decide) (fun c115 => ?_) (fun c115 => ?_)
        · have hE := (if_pos c115).symm.trans hE
          refine lv_iconst (v := (1 : Int32)) hx hb dX7_register_129 (by decide) ?_
          refine lv_goto (tgt := 134) hx hb dX7_register_130 (by decide) ?_
          exact w_X7_register_134 hB ih _ _ _ _ _ _ _ _ _  hE hz (lv_sub hl [1, 2, 3, 5] rfl)
        · have hE := (if_neg c115).symm.trans hE
          refine lv_iload hx hb dX7_register_118 (lv_at hl 0 rfl) ?_
          refine lv_if_ne (tgt := 133) hx hb dX7_register_120 (by decide) (fun c120 => ?_) (fun c120 => ?_)
          · have hE := (if_neg c120).symm.trans hE
            refine lv_iconst (v := (0 : Int32)) hx hb dX7_register_133 (by decide) ?_
            exact w_X7_register_134 hB ih _ _ _ _ _ _ _ _ _  hE hz (lv_sub hl [1, 2, 3, 5] rfl)
          · have hE := (if_pos c120).symm.trans hE
            refine lv_iload hx hb dX7_register_123 (lv_at hl 5 rfl) ?_
            refine lv_iload_n hx hb dX7_register_125 rfl (lv_at hl 3 rfl) ?_
            refine lv_icmp_ge (tgt := 133) hx hb dX7_register_126 (by decide) (fun c126 => ?_) (fun c126 => ?_)
            · have hE := (if_pos c126).symm.trans hE
              refine lv_iconst (v := (0 : Int32)) hx hb dX7_register_133 (by decide) ?_
              exact w_X7_register_134 hB ih _ _ _ _ _ _ _ _ _  hE hz (lv_sub hl [1, 2, 3, 5] rfl)
            · have hE := (if_neg c126).symm.trans hE
              refine lv_iconst (v := (1 : Int32)) hx hb dX7_register_129 (by decide) ?_
              refine lv_goto (tgt := 134) hx hb dX7_register_130 (by decide) ?_
              exact w_X7_register_134 hB ih _ _ _ _ _ _ _ _ _  hE hz (lv_sub hl [1, 2, 3, 5] rfl)

set_option maxHeartbeats 4000000 in
set_option maxRecDepth 100000 in
theorem w_X7_register_32 {p : Program} {l : Launch} {e : Env} {s : State} {m : MethodId} {args : Array Value} {below : List Frame} {meth : Method} {c : Code} {g : GP} (hB : BX p s m args meth c g LM cX7_register 6 RX7 (some .int)) {o : Int32 × Mem} : ∀ (n : Nat), ∀ (x1 : Int32) (x2 : Int32) (V : Mem) (H : Heap) (locs : List Loc) (ls : Array Slot), f_X7_register_32 n x1 x2 V = some o → OK g LM V s H locs → lv_has ls 6 [(0, .ref (ad g 0)), (1, .int x1), (2, .int x2)] → W p l e rm_X7_register s m args below meth c H locs 0 0 (MQ below (QQ g LM (some (.int o.1)) o.2) args s 0 0 (Ar g LM)) (F0 m 32 ls []) := by
  obtain ⟨hx, hb, hml, hown, hT, hr, hlk, hK, hJ, hZ, hN⟩ := id hB
  intro n
  induction n with
  | zero =>
    intro x1 x2 V H locs ls hE hz hl
    exact absurd (show (none : Option (Int32 × Mem)) = some o from hE) (by simp)
  | succ n ih =>
    intro x1 x2 V H locs ls hE hz hl
    unfold f_X7_register_32 at hE
    refine lv_iload_n hx hb dX7_register_32 rfl (lv_at hl 2 rfl) ?_
    refine lv_aload_n hx hb dX7_register_33 rfl (lv_at hl 0 rfl) ?_
    refine g_X7_19 hB hz kdM_0 dX7_register_34 ?_
    refine lv_iconst (v := (0 : Int32)) hx hb dX7_register_37 (by decide) ?_
    obtain ⟨hi38, hE⟩ := x_chk hE
    refine x_iald (n := 76) hB hz kdM_4 hi38 dX7_register_38 ?_
    refine lv_icmp_ge (tgt := 155) hx hb dX7_register_39 (by decide) (fun c39 => ?_) (fun c39 => ?_)
    · have hE := (if_pos c39).symm.trans hE
      refine lv_ldc (v := (-1000000 : Int32)) hx hb hown (hT _ kw_866) dX7_register_155 ?_
      exact x_iret hB hz hE dX7_register_157
    · have hE := (if_neg c39).symm.trans hE
      refine lv_aload_n hx hb dX7_register_42 rfl (lv_at hl 0 rfl) ?_
      refine g_X7_19 hB hz kdM_0 dX7_register_43 ?_
      refine lv_iload_n hx hb dX7_register_46 rfl (lv_at hl 2 rfl) ?_
      obtain ⟨q47, hq47, hE⟩ := x_bind hE
      refine i_X7_194 hB hz (c_X7_isLabelled l g kdM_4 hq47) ⟨(Nat.le_of_ble_eq_true rfl), (Nat.le_of_ble_eq_true rfl)⟩ hl.1 (Nat.le_of_ble_eq_true rfl) dX7_register_47 (fun H locs hz => ?_)
      refine lv_if_eq (tgt := 149) hx hb dX7_register_50 (by decide) (fun c50 => ?_) (fun c50 => ?_)
      · have hE := (if_pos c50).symm.trans hE
        exact w_X7_register_149 hB ih _ _ _ _ _ _  hE hz (lv_sub hl [0, 1, 2] rfl)
      · have hE := (if_neg c50).symm.trans hE
        refine lv_aload_n hx hb dX7_register_53 rfl (lv_at hl 0 rfl) ?_
        refine lv_aload_n hx hb dX7_register_54 rfl (lv_at hl 0 rfl) ?_
        refine g_X7_19 hB hz kdM_0 dX7_register_55 ?_
        refine lv_iload_n hx hb dX7_register_58 rfl (lv_at hl 2 rfl) ?_
        refine lv_iconst (v := (0 : Int32)) hx hb dX7_register_59 (by decide) ?_
        obtain ⟨q60, hq60, hE⟩ := x_bind hE
        refine i_X7_235 hB hz kdM_0 (c_X7_writeLabel l g kdM_4 hq60) ⟨(Nat.le_of_ble_eq_true rfl), (Nat.le_of_ble_eq_true rfl)⟩ hl.1 (Nat.le_of_ble_eq_true rfl) dX7_register_60 (fun H locs hz => ?_)
        refine lv_aload_n hx hb dX7_register_63 rfl (lv_at hl 0 rfl) ?_
        obtain ⟨q64, hq64, hE⟩ := x_bind hE
        refine i_X7_244 hB hz kdM_0 (c_X7_holdLabel l g  hq64) ⟨(Nat.le_of_ble_eq_true rfl), (Nat.le_of_ble_eq_true rfl)⟩ hl.1 (Nat.le_of_ble_eq_true rfl) dX7_register_64 (fun H locs hz => ?_)
        refine lv_iconst (v := (0 : Int32)) hx hb dX7_register_67 (by decide) ?_
        refine lv_istore_n (lv' := [(3, .int (0 : Int32)), (0, .ref (ad g 0)), (1, .int x1), (2, .int x2)]) hx hb dX7_register_68 rfl hl (by decide) rfl (fun ls hl => ?_)
        refine lv_iconst (v := (0 : Int32)) hx hb dX7_register_69 (by decide) ?_
        refine lv_istore (lv' := [(4, .int (0 : Int32)), (3, .int (0 : Int32)), (0, .ref (ad g 0)), (1, .int x1), (2, .int x2)]) hx hb dX7_register_70 hl (by decide) rfl (fun ls hl => ?_)
        exact w_X7_register_72 hB ih _ _ _ _ _ _ _ _ _  hE hz (lv_sub hl [2, 3, 4, 1, 0] rfl)

set_option maxHeartbeats 4000000 in
set_option maxRecDepth 100000 in
theorem w_X7_register {p : Program} {l : Launch} {e : Env} {s : State} {m : MethodId} {args : Array Value} {below : List Frame} {meth : Method} {c : Code} {g : GP} (hB : BX p s m args meth c g LM cX7_register 6 RX7 (some .int)) {o : Int32 × Mem} : ∀ (x1 : Int32) (V : Mem) (H : Heap) (locs : List Loc) (ls : Array Slot), f_X7_register x1 V = some o → OK g LM V s H locs → lv_has ls 6 [(0, .ref (ad g 0)), (1, .int x1)] → W p l e rm_X7_register s m args below meth c H locs 0 0 (MQ below (QQ g LM (some (.int o.1)) o.2) args s 0 0 (Ar g LM)) (F0 m 0 ls []) := by
  obtain ⟨hx, hb, hml, hown, hT, hr, hlk, hK, hJ, hZ, hN⟩ := id hB
  intro x1 V H locs ls hE hz hl
  unfold f_X7_register at hE
  refine lv_aload_n hx hb dX7_register_0 rfl (lv_at hl 0 rfl) ?_
  refine lv_iconst (v := (0 : Int32)) hx hb dX7_register_1 (by decide) ?_
  refine p_X7_59 hB hz kdM_0 dX7_register_2 (fun H locs hz => ?_)
  refine lv_aload_n hx hb dX7_register_5 rfl (lv_at hl 0 rfl) ?_
  obtain ⟨q6, hq6, hE⟩ := x_bind hE
  refine i_X7_211 hB hz kdM_0 (c_X7_isThere l g  hq6) ⟨(Nat.le_of_ble_eq_true rfl), (Nat.le_of_ble_eq_true rfl)⟩ hl.1 (Nat.le_of_ble_eq_true rfl) dX7_register_6 (fun H locs hz => ?_)
  refine lv_if_ne (tgt := 15) hx hb dX7_register_9 (by decide) (fun c9 => ?_) (fun c9 => ?_)
  · have hE := (if_neg c9).symm.trans hE
    refine lv_iload_n hx hb dX7_register_15 rfl (lv_at hl 1 rfl) ?_
    refine lv_if_ge (tgt := 22) hx hb dX7_register_16 (by decide) (fun c16 => ?_) (fun c16 => ?_)
    · have hE := (if_pos c16).symm.trans hE
      refine lv_aload_n hx hb dX7_register_22 rfl (lv_at hl 0 rfl) ?_
      refine lv_aload_n hx hb dX7_register_23 rfl (lv_at hl 0 rfl) ?_
      refine g_X7_19 hB hz kdM_0 dX7_register_24 ?_
      obtain ⟨q27, hq27, hE⟩ := x_bind hE
      refine i_X7_231 hB hz kdM_0 (c_X7_countAll l g kdM_4 hq27) ⟨(Nat.le_of_ble_eq_true rfl), (Nat.le_of_ble_eq_true rfl)⟩ hl.1 (Nat.le_of_ble_eq_true rfl) dX7_register_27 (fun H locs hz => ?_)
      refine lv_iconst (v := (0 : Int32)) hx hb dX7_register_30 (by decide) ?_
      refine lv_istore_n (lv' := [(2, .int (0 : Int32)), (0, .ref (ad g 0)), (1, .int x1)]) hx hb dX7_register_31 rfl hl (by decide) rfl (fun ls hl => ?_)
      exact w_X7_register_32 hB  _ _ _ _ _ _ _  hE hz (lv_sub hl [1, 2, 0] rfl)
    · have hE := (if_neg c16).symm.trans hE
      refine lv_ldc (v := (-1000001 : Int32)) hx hb hown (hT _ kw_826) dX7_register_19 ?_
      exact x_iret hB hz hE dX7_register_21
  · have hE := (if_pos c9).symm.trans hE
    refine lv_ldc (v := (-1000002 : Int32)) hx hb hown (hT _ kw_918) dX7_register_12 ?_
    exact x_iret hB hz hE dX7_register_14
theorem c_X7_register (l : Launch) (g : GP) {x1 : Int32} {V : Mem} {o : Int32 × Mem} (hE : f_X7_register x1 V = some o) : CT l g LM yX7_register cX7_register 6 (some .int) rm_X7_register [.ref (ad g 0), .int x1] V (some (.int o.1)) o.2 := by
  refine ct_of (by decide) (Nat.le_of_ble_eq_true rfl) ?_
  intro p e s m args below meth c ls hB hz hl
  exact w_X7_register hB _ _ _ _ _  hE hz hl
def rm_X7_rowFound : Room := { frames := 1, cells := 0, slots := 0, locals := 21 }
set_option maxHeartbeats 4000000 in
set_option maxRecDepth 100000 in
theorem w_X7_rowFound_35 {p : Program} {l : Launch} {e : Env} {s : State} {m : MethodId} {args : Array Value} {below : List Frame} {meth : Method} {c : Code} {g : GP} (hB : BX p s m args meth c g LM cX7_rowFound 4 RX7 (some .int)) {o : Int32 × Mem} : ∀ (V : Mem) (H : Heap) (locs : List Loc) (ls : Array Slot), f_X7_rowFound_35 V = some o → OK g LM V s H locs → lv_has ls 4 [(0, .ref (ad g 0))] → W p l e rm_X7_rowFound s m args below meth c H locs 0 0 (MQ below (QQ g LM (some (.int o.1)) o.2) args s 0 0 (Ar g LM)) (F0 m 35 ls []) := by
  obtain ⟨hx, hb, hml, hown, hT, hr, hlk, hK, hJ, hZ, hN⟩ := id hB
  intro V H locs ls hE hz hl
  unfold f_X7_rowFound_35 at hE
  refine lv_aload_n hx hb dX7_rowFound_35 rfl (lv_at hl 0 rfl) ?_
  refine lv_iconst (v := (2 : Int32)) hx hb dX7_rowFound_36 (by decide) ?_
  obtain ⟨q37, hq37, hE⟩ := x_bind hE
  refine i_X7_80 hB hz kdM_0 (c_X7_finding l g  hq37) ⟨(Nat.le_of_ble_eq_true rfl), (Nat.le_of_ble_eq_true rfl)⟩ hl.1 (Nat.le_of_ble_eq_true rfl) dX7_rowFound_37 (fun H locs hz => ?_)
  exact x_iret hB hz hE dX7_rowFound_40

set_option maxHeartbeats 4000000 in
set_option maxRecDepth 100000 in
theorem w_X7_rowFound {p : Program} {l : Launch} {e : Env} {s : State} {m : MethodId} {args : Array Value} {below : List Frame} {meth : Method} {c : Code} {g : GP} (hB : BX p s m args meth c g LM cX7_rowFound 4 RX7 (some .int)) {o : Int32 × Mem} : ∀ (x1 : Int32) (x2 : Int32) (x3 : Int32) (V : Mem) (H : Heap) (locs : List Loc) (ls : Array Slot), f_X7_rowFound x1 x2 x3 V = some o → OK g LM V s H locs → lv_has ls 4 [(0, .ref (ad g 0)), (1, .int x1), (2, .int x2), (3, .int x3)] → W p l e rm_X7_rowFound s m args below meth c H locs 0 0 (MQ below (QQ g LM (some (.int o.1)) o.2) args s 0 0 (Ar g LM)) (F0 m 0 ls []) := by
  obtain ⟨hx, hb, hml, hown, hT, hr, hlk, hK, hJ, hZ, hN⟩ := id hB
  intro x1 x2 x3 V H locs ls hE hz hl
  unfold f_X7_rowFound at hE
  refine lv_aload_n hx hb dX7_rowFound_0 rfl (lv_at hl 0 rfl) ?_
  refine g_X7_7 hB hz kdM_0 dX7_rowFound_1 ?_
  refine lv_iload_n hx hb dX7_rowFound_4 rfl (lv_at hl 1 rfl) ?_
  obtain ⟨hi5, hE⟩ := x_chk hE
  refine x_iald (n := 8) hB hz kdM_1 hi5 dX7_rowFound_5 ?_
  refine lv_if_ge (tgt := 15) hx hb dX7_rowFound_6 (by decide) (fun c6 => ?_) (fun c6 => ?_)
  · have hE := (if_pos c6).symm.trans hE
    refine lv_iload_n hx hb dX7_rowFound_15 rfl (lv_at hl 2 rfl) ?_
    refine lv_if_lt (tgt := 35) hx hb dX7_rowFound_16 (by decide) (fun c16 => ?_) (fun c16 => ?_)
    · have hE := (if_pos c16).symm.trans hE
      exact w_X7_rowFound_35 hB   _ _ _ _  hE hz (lv_sub hl [0] rfl)
    · have hE := (if_neg c16).symm.trans hE
      refine lv_iload_n hx hb dX7_rowFound_19 rfl (lv_at hl 2 rfl) ?_
      refine lv_i2l hx hb dX7_rowFound_20 rfl ?_
      refine lv_iload_n hx hb dX7_rowFound_21 rfl (lv_at hl 3 rfl) ?_
      refine lv_i2l hx hb dX7_rowFound_22 rfl ?_
      refine lv_ladd hx hb dX7_rowFound_23 ?_
      refine lv_aload_n hx hb dX7_rowFound_24 rfl (lv_at hl 0 rfl) ?_
      refine g_X7_13 hB hz kdM_0 dX7_rowFound_25 ?_
      refine lv_iload_n hx hb dX7_rowFound_28 rfl (lv_at hl 1 rfl) ?_
      obtain ⟨hi29, hE⟩ := x_chk hE
      refine x_iald (n := 8) hB hz kdM_2 hi29 dX7_rowFound_29 ?_
      refine lv_i2l hx hb dX7_rowFound_30 rfl ?_
      refine W.lcmp hx hb dX7_rowFound_31 ?_
      refine lv_if_le (tgt := 41) hx hb dX7_rowFound_32 (by decide) (fun c32 => ?_) (fun c32 => ?_)
      · have hE := (if_pos c32).symm.trans hE
        refine lv_aload_n hx hb dX7_rowFound_41 rfl (lv_at hl 0 rfl) ?_
        refine lv_iconst (v := (0 : Int32)) hx hb dX7_rowFound_42 (by decide) ?_
        refine p_X7_63 hB hz kdM_0 dX7_rowFound_43 (fun H locs hz => ?_)
        refine lv_iconst (v := (0 : Int32)) hx hb dX7_rowFound_46 (by decide) ?_
        exact x_iret hB hz hE dX7_rowFound_47
      · have hE := (if_neg c32).symm.trans hE
        exact w_X7_rowFound_35 hB   _ _ _ _  hE hz (lv_sub hl [0] rfl)
  · have hE := (if_neg c6).symm.trans hE
    refine lv_aload_n hx hb dX7_rowFound_9 rfl (lv_at hl 0 rfl) ?_
    refine lv_iconst (v := (1 : Int32)) hx hb dX7_rowFound_10 (by decide) ?_
    obtain ⟨q11, hq11, hE⟩ := x_bind hE
    refine i_X7_80 hB hz kdM_0 (c_X7_finding l g  hq11) ⟨(Nat.le_of_ble_eq_true rfl), (Nat.le_of_ble_eq_true rfl)⟩ hl.1 (Nat.le_of_ble_eq_true rfl) dX7_rowFound_11 (fun H locs hz => ?_)
    exact x_iret hB hz hE dX7_rowFound_14
theorem c_X7_rowFound (l : Launch) (g : GP) {x1 : Int32} {x2 : Int32} {x3 : Int32} {V : Mem} {o : Int32 × Mem} (hE : f_X7_rowFound x1 x2 x3 V = some o) : CT l g LM yX7_rowFound cX7_rowFound 4 (some .int) rm_X7_rowFound [.ref (ad g 0), .int x1, .int x2, .int x3] V (some (.int o.1)) o.2 := by
  refine ct_of (by decide) (Nat.le_of_ble_eq_true rfl) ?_
  intro p e s m args below meth c ls hB hz hl
  exact w_X7_rowFound hB _ _ _ _ _ _ _  hE hz hl
def rm_X7_bears : Room := { frames := 4, cells := 0, slots := 0, locals := 94 }
theorem i_X7_253 {p : Program} {l : Launch} {e : Env} {R : Room} {s : State} {m : MethodId} {args : Array Value} {below : List Frame} {meth : Method} {c : Code} {H : Heap} {locs : List Loc} {Q : State → Prop} {cc : ByteArray} {pc : Nat} {ls : Array Slot} {rest : List Value} {g : GP} {V : Mem} {nL : Nat} {ret : Option FieldType} (hB : BX p s m args meth c g LM cc nL RX7 ret) (hz : OK g LM V s H locs) {i : Nat} (hk : KD LM i 6) {a0 : Int32} {a1 : Int32} {a2 : Int32} {r : Int32} {V1 : Mem} (hM : CT l g LM yX7_rowFound cX7_rowFound 4 (some .int) rm_X7_rowFound [.ref (ad g i), .int a0, .int a1, .int a2] V (some (.int r)) V1) (hR : rm_X7_rowFound.frames + 1 ≤ R.frames ∧ 8 + (4 + 11) + rm_X7_rowFound.locals ≤ R.locals) (hsz : ls.size = nL) (hrest : (rest.map fun v => v.category).sum ≤ 8) (hdg : decode cc pc = .ok (.invokevirtual 253, 3)) (kk : ∀ (H1 : Heap) (locs1 : List Loc), OK g LM V1 s H1 locs1 → W p l e R s m args below meth c H1 locs1 0 0 Q (F0 m (pc + 3) ls (.int r :: rest))) : W p l e R s m args below meth c H locs 0 0 Q (F0 m pc ls (.int a2 :: .int a1 :: .int a0 :: .ref (ad g i) :: rest)) :=
  x_cv (As := [.int a0, .int a1, .int a2]) (n := 3) (T := TX7) (N := 30) hB hz hM hk rfl rfl rfl rfl kw_1044 kw_68 kw_1041 kw_1043 kw_49 (by decide +kernel) rfl hR hsz hrest hdg kk
set_option maxHeartbeats 4000000 in
set_option maxRecDepth 100000 in
theorem w_X7_bears_153 {p : Program} {l : Launch} {e : Env} {s : State} {m : MethodId} {args : Array Value} {below : List Frame} {meth : Method} {c : Code} {g : GP} (hB : BX p s m args meth c g LM cX7_bears 8 RX7 (some .int)) {o : Int32 × Mem} {k65 : Int32 → Int32 → Int32 → Int32 → Mem → Option (Int32 × Mem)} (hk65 : ∀ (x1 : Int32) (x2 : Int32) (x3 : Int32) (x5 : Int32) (V : Mem) (H : Heap) (locs : List Loc) (ls : Array Slot), k65 x1 x2 x3 x5 V = some o → OK g LM V s H locs → lv_has ls 8 [(0, .ref (ad g 0)), (1, .int x1), (2, .int x2), (3, .int x3), (5, .int x5)] → W p l e rm_X7_bears s m args below meth c H locs 0 0 (MQ below (QQ g LM (some (.int o.1)) o.2) args s 0 0 (Ar g LM)) (F0 m 65 ls [])) : ∀ (x1 : Int32) (x2 : Int32) (x3 : Int32) (x5 : Int32) (x6 : Int32) (V : Mem) (H : Heap) (locs : List Loc) (ls : Array Slot), f_X7_bears_153 k65 x1 x2 x3 x5 x6 V = some o → OK g LM V s H locs → lv_has ls 8 [(0, .ref (ad g 0)), (1, .int x1), (2, .int x2), (3, .int x3), (5, .int x5), (6, .int x6)] → W p l e rm_X7_bears s m args below meth c H locs 0 0 (MQ below (QQ g LM (some (.int o.1)) o.2) args s 0 0 (Ar g LM)) (F0 m 153 ls []) := by
  obtain ⟨hx, hb, hml, hown, hT, hr, hlk, hK, hJ, hZ, hN⟩ := id hB
  intro x1 x2 x3 x5 x6 V H locs ls hE hz hl
  unfold f_X7_bears_153 at hE
  refine lv_iload hx hb dX7_bears_153 (lv_at hl 5 rfl) ?_
  refine lv_if_eq (tgt := 161) hx hb dX7_bears_155 (by decide) (fun c155 => ?_) (fun c155 => ?_)
  · have hE := (if_pos c155).symm.trans hE
    refine lv_iinc (v := (x5 + 1)) (lv' := [(5, .int (x5 + 1)), (0, .ref (ad g 0)), (1, .int x1), (2, .int x2), (3, .int x3), (6, .int x6)]) hx hb dX7_bears_161 hl (k := 4) rfl rfl (by decide) rfl (fun ls hl => ?_)
    refine lv_goto (tgt := 65) hx hb dX7_bears_164 (by decide) ?_
    exact hk65 _ _ _ _ _ _ _ _  hE hz (lv_sub hl [1, 2, 3, 4, 0] rfl)
  · have hE := (if_neg c155).symm.trans hE
    refine lv_iload hx hb dX7_bears_158 (lv_at hl 4 rfl) ?_
    exact x_iret hB hz hE dX7_bears_160

set_option maxHeartbeats 4000000 in
set_option maxRecDepth 100000 in
theorem w_X7_bears_145 {p : Program} {l : Launch} {e : Env} {s : State} {m : MethodId} {args : Array Value} {below : List Frame} {meth : Method} {c : Code} {g : GP} (hB : BX p s m args meth c g LM cX7_bears 8 RX7 (some .int)) {o : Int32 × Mem} {k105 : Int32 → Int32 → Int32 → Int32 → Int32 → Int32 → Mem → Option (Int32 × Mem)} (hk105 : ∀ (x1 : Int32) (x2 : Int32) (x3 : Int32) (x5 : Int32) (x6 : Int32) (x7 : Int32) (V : Mem) (H : Heap) (locs : List Loc) (ls : Array Slot), k105 x1 x2 x3 x5 x6 x7 V = some o → OK g LM V s H locs → lv_has ls 8 [(0, .ref (ad g 0)), (1, .int x1), (2, .int x2), (3, .int x3), (5, .int x5), (6, .int x6), (7, .int x7)] → W p l e rm_X7_bears s m args below meth c H locs 0 0 (MQ below (QQ g LM (some (.int o.1)) o.2) args s 0 0 (Ar g LM)) (F0 m 105 ls [])) : ∀ (x1 : Int32) (x2 : Int32) (x3 : Int32) (x5 : Int32) (x7 : Int32) (s0 : Int32) (V : Mem) (H : Heap) (locs : List Loc) (ls : Array Slot), f_X7_bears_145 k105 x1 x2 x3 x5 x7 s0 V = some o → OK g LM V s H locs → lv_has ls 8 [(0, .ref (ad g 0)), (1, .int x1), (2, .int x2), (3, .int x3), (5, .int x5), (7, .int x7)] → W p l e rm_X7_bears s m args below meth c H locs 0 0 (MQ below (QQ g LM (some (.int o.1)) o.2) args s 0 0 (Ar g LM)) (F0 m 145 ls [.int s0]) := by
  obtain ⟨hx, hb, hml, hown, hT, hr, hlk, hK, hJ, hZ, hN⟩ := id hB
  intro x1 x2 x3 x5 x7 s0 V H locs ls hE hz hl
  unfold f_X7_bears_145 at hE
  refine lv_istore (lv' := [(6, .int s0), (0, .ref (ad g 0)), (1, .int x1), (2, .int x2), (3, .int x3), (5, .int x5), (7, .int x7)]) hx hb dX7_bears_145 hl (by decide) rfl (fun ls hl => ?_)
  refine lv_iinc (v := (x7 + 1)) (lv' := [(7, .int (x7 + 1)), (6, .int s0), (0, .ref (ad g 0)), (1, .int x1), (2, .int x2), (3, .int x3), (5, .int x5)]) hx hb dX7_bears_147 hl (k := 6) rfl rfl (by decide) rfl (fun ls hl => ?_)
  refine lv_goto (tgt := 105) hx hb dX7_bears_150 (by decide) ?_
  exact hk105 _ _ _ _ _ _ _ _ _ _  hE hz (lv_sub hl [2, 3, 4, 5, 6, 1, 0] rfl)

set_option maxHeartbeats 4000000 in
set_option maxRecDepth 100000 in
theorem w_X7_bears_105 {p : Program} {l : Launch} {e : Env} {s : State} {m : MethodId} {args : Array Value} {below : List Frame} {meth : Method} {c : Code} {g : GP} (hB : BX p s m args meth c g LM cX7_bears 8 RX7 (some .int)) {o : Int32 × Mem} {k65 : Int32 → Int32 → Int32 → Int32 → Mem → Option (Int32 × Mem)} (hk65 : ∀ (x1 : Int32) (x2 : Int32) (x3 : Int32) (x5 : Int32) (V : Mem) (H : Heap) (locs : List Loc) (ls : Array Slot), k65 x1 x2 x3 x5 V = some o → OK g LM V s H locs → lv_has ls 8 [(0, .ref (ad g 0)), (1, .int x1), (2, .int x2), (3, .int x3), (5, .int x5)] → W p l e rm_X7_bears s m args below meth c H locs 0 0 (MQ below (QQ g LM (some (.int o.1)) o.2) args s 0 0 (Ar g LM)) (F0 m 65 ls [])) : ∀ (n : Nat), ∀ (x1 : Int32) (x2 : Int32) (x3 : Int32) (x5 : Int32) (x6 : Int32) (x7 : Int32) (V : Mem) (H : Heap) (locs : List Loc) (ls : Array Slot), f_X7_bears_105 k65 n x1 x2 x3 x5 x6 x7 V = some o → OK g LM V s H locs → lv_has ls 8 [(0, .ref (ad g 0)), (1, .int x1), (2, .int x2), (3, .int x3), (5, .int x5), (6, .int x6), (7, .int x7)] → W p l e rm_X7_bears s m args below meth c H locs 0 0 (MQ below (QQ g LM (some (.int o.1)) o.2) args s 0 0 (Ar g LM)) (F0 m 105 ls []) := by
  obtain ⟨hx, hb, hml, hown, hT, hr, hlk, hK, hJ, hZ, hN⟩ := id hB
  intro n
  induction n with
  | zero =>
    intro x1 x2 x3 x5 x6 x7 V H locs ls hE hz hl
    exact absurd (show (none : Option (Int32 × Mem)) = some o from hE) (by simp)
  | succ n ih =>
    intro x1 x2 x3 x5 x6 x7 V H locs ls hE hz hl
    unfold f_X7_bears_105 at hE
    refine lv_iload hx hb dX7_bears_105 (lv_at hl 6 rfl) ?_
    refine lv_iload_n hx hb dX7_bears_107 rfl (lv_at hl 3 rfl) ?_
    refine lv_icmp_ge (tgt := 153) hx hb dX7_bears_108 (by decide) (fun c108 => ?_) (fun c108 => ?_)
    · have hE := (if_pos c108).symm.trans hE
      exact w_X7_bears_153 hB hk65 _ _ _ _ _ _ _ _ _  hE hz (lv_sub hl [0, 1, 2, 3, 4, 5] rfl)
    · have hE := (if_neg c108).symm.trans hE
      refine lv_iload hx hb dX7_bears_111 (lv_at hl 5 rfl) ?_
      refine lv_if_eq (tgt := 153) hx hb dX7_bears_113 (by decide) (fun c113 => ?_) (fun c113 => ?_)
      · have hE := (if_pos c113).symm.trans hE
        exact w_X7_bears_153 hB hk65 _ _ _ _ _ _ _ _ _  hE hz (lv_sub hl [0, 1, 2, 3, 4, 5] rfl)
      · have hE := (if_neg c113).symm.trans hE
        refine lv_aload_n hx hb dX7_bears_116 rfl (lv_at hl 0 rfl) ?_
        refine g_X7_43 hB hz kdM_0 dX7_bears_117 ?_
        refine lv_iload hx hb dX7_bears_120 (lv_at hl 6 rfl) ?_
        obtain ⟨hi122, hE⟩ := x_chk hE
        refine x_iald (n := 40) hB hz kdM_12 hi122 dX7_bears_122 ?_
        refine lv_aload_n hx hb dX7_bears_123 rfl (lv_at hl 0 rfl) ?_
        refine g_X7_16 hB hz kdM_0 dX7_bears_124 ?_
        refine lv_bipush (v := (40 : Int32)) hx hb dX7_bears_127 (by decide) ?_
        refine lv_iload_n hx hb dX7_bears_129 rfl (lv_at hl 1 rfl) ?_
        refine lv_imul hx hb dX7_bears_130 ?_
        refine lv_iload_n hx hb dX7_bears_131 rfl (lv_at hl 2 rfl) ?_
        refine lv_iadd hx hb dX7_bears_132 ?_
        refine lv_iload hx hb dX7_bears_133 (lv_at hl 6 rfl) ?_
        refine lv_iadd hx hb dX7_bears_135 ?_
        obtain ⟨hi136, hE⟩ := x_chk hE
        refine x_iald (n := 320) hB hz kdM_3 hi136 dX7_bears_136 ?_
        refine lv_icmp_ne (tgt := 144) hx hb dX7_bears_137 (by decide) (fun c137 => ?_) (fun c137 => ?_)
        · have hE := (if_neg c137).symm.trans hE
          refine lv_iconst (v := (0 : Int32)) hx hb dX7_bears_144 (by decide) ?_
          exact w_X7_bears_145 hB ih _ _ _ _ _ _ _ _ _ _  hE hz (lv_sub hl [0, 1, 2, 3, 4, 6] rfl)
        · have hE := (if_pos c137).symm.trans hE
          refine lv_iconst (v := (1 : Int32)) hx hb dX7_bears_140 (by decide) ?_
          refine lv_goto (tgt := 145) hx hb dX7_bears_141 (by decide) ?_
          exact w_X7_bears_145 hB ih _ _ _ _ _ _ _ _ _ _  hE hz (lv_sub hl [0, 1, 2, 3, 4, 6] rfl)

set_option maxHeartbeats 4000000 in
set_option maxRecDepth 100000 in
theorem w_X7_bears_100 {p : Program} {l : Launch} {e : Env} {s : State} {m : MethodId} {args : Array Value} {below : List Frame} {meth : Method} {c : Code} {g : GP} (hB : BX p s m args meth c g LM cX7_bears 8 RX7 (some .int)) {o : Int32 × Mem} {k65 : Int32 → Int32 → Int32 → Int32 → Mem → Option (Int32 × Mem)} (hk65 : ∀ (x1 : Int32) (x2 : Int32) (x3 : Int32) (x5 : Int32) (V : Mem) (H : Heap) (locs : List Loc) (ls : Array Slot), k65 x1 x2 x3 x5 V = some o → OK g LM V s H locs → lv_has ls 8 [(0, .ref (ad g 0)), (1, .int x1), (2, .int x2), (3, .int x3), (5, .int x5)] → W p l e rm_X7_bears s m args below meth c H locs 0 0 (MQ below (QQ g LM (some (.int o.1)) o.2) args s 0 0 (Ar g LM)) (F0 m 65 ls [])) : ∀ (x1 : Int32) (x2 : Int32) (x3 : Int32) (x5 : Int32) (s0 : Int32) (V : Mem) (H : Heap) (locs : List Loc) (ls : Array Slot), f_X7_bears_100 k65 x1 x2 x3 x5 s0 V = some o → OK g LM V s H locs → lv_has ls 8 [(0, .ref (ad g 0)), (1, .int x1), (2, .int x2), (3, .int x3), (5, .int x5)] → W p l e rm_X7_bears s m args below meth c H locs 0 0 (MQ below (QQ g LM (some (.int o.1)) o.2) args s 0 0 (Ar g LM)) (F0 m 100 ls [.int s0]) := by
  obtain ⟨hx, hb, hml, hown, hT, hr, hlk, hK, hJ, hZ, hN⟩ := id hB
  intro x1 x2 x3 x5 s0 V H locs ls hE hz hl
  unfold f_X7_bears_100 at hE
  refine lv_istore (lv' := [(6, .int s0), (0, .ref (ad g 0)), (1, .int x1), (2, .int x2), (3, .int x3), (5, .int x5)]) hx hb dX7_bears_100 hl (by decide) rfl (fun ls hl => ?_)
  refine lv_iconst (v := (0 : Int32)) hx hb dX7_bears_102 (by decide) ?_
  refine lv_istore (lv' := [(7, .int (0 : Int32)), (6, .int s0), (0, .ref (ad g 0)), (1, .int x1), (2, .int x2), (3, .int x3), (5, .int x5)]) hx hb dX7_bears_103 hl (by decide) rfl (fun ls hl => ?_)
  exact w_X7_bears_105 hB hk65 _ _ _ _ _ _ _ _ _ _ _  hE hz (lv_sub hl [2, 3, 4, 5, 6, 1, 0] rfl)

set_option maxHeartbeats 4000000 in
set_option maxRecDepth 100000 in
theorem w_X7_bears_65 {p : Program} {l : Launch} {e : Env} {s : State} {m : MethodId} {args : Array Value} {below : List Frame} {meth : Method} {c : Code} {g : GP} (hB : BX p s m args meth c g LM cX7_bears 8 RX7 (some .int)) {o : Int32 × Mem} : ∀ (n : Nat), ∀ (x1 : Int32) (x2 : Int32) (x3 : Int32) (x5 : Int32) (V : Mem) (H : Heap) (locs : List Loc) (ls : Array Slot), f_X7_bears_65 n x1 x2 x3 x5 V = some o → OK g LM V s H locs → lv_has ls 8 [(0, .ref (ad g 0)), (1, .int x1), (2, .int x2), (3, .int x3), (5, .int x5)] → W p l e rm_X7_bears s m args below meth c H locs 0 0 (MQ below (QQ g LM (some (.int o.1)) o.2) args s 0 0 (Ar g LM)) (F0 m 65 ls []) := by
  obtain ⟨hx, hb, hml, hown, hT, hr, hlk, hK, hJ, hZ, hN⟩ := id hB
  intro n
  induction n with
  | zero =>
    intro x1 x2 x3 x5 V H locs ls hE hz hl
    exact absurd (show (none : Option (Int32 × Mem)) = some o from hE) (by simp)
  | succ n ih =>
    intro x1 x2 x3 x5 V H locs ls hE hz hl
    unfold f_X7_bears_65 at hE
    refine lv_iload hx hb dX7_bears_65 (lv_at hl 4 rfl) ?_
    refine lv_aload_n hx hb dX7_bears_67 rfl (lv_at hl 0 rfl) ?_
    refine g_X7_19 hB hz kdM_0 dX7_bears_68 ?_
    refine lv_iconst (v := (0 : Int32)) hx hb dX7_bears_71 (by decide) ?_
    obtain ⟨hi72, hE⟩ := x_chk hE
    refine x_iald (n := 76) hB hz kdM_4 hi72 dX7_bears_72 ?_
    refine lv_icmp_ge (tgt := 167) hx hb dX7_bears_73 (by decide) (fun c73 => ?_) (fun c73 => ?_)
    · have hE := (if_pos c73).symm.trans hE
      refine lv_ldc (v := (-1000000 : Int32)) hx hb hown (hT _ kw_866) dX7_bears_167 ?_
      exact x_iret hB hz hE dX7_bears_169
    · have hE := (if_neg c73).symm.trans hE
      refine lv_aload_n hx hb dX7_bears_76 rfl (lv_at hl 0 rfl) ?_
      refine lv_aload_n hx hb dX7_bears_77 rfl (lv_at hl 0 rfl) ?_
      refine g_X7_19 hB hz kdM_0 dX7_bears_78 ?_
      refine lv_iload hx hb dX7_bears_81 (lv_at hl 4 rfl) ?_
      refine lv_iconst (v := (0 : Int32)) hx hb dX7_bears_83 (by decide) ?_
      obtain ⟨q84, hq84, hE⟩ := x_bind hE
      refine i_X7_235 hB hz kdM_0 (c_X7_writeLabel l g kdM_4 hq84) ⟨(Nat.le_of_ble_eq_true rfl), (Nat.le_of_ble_eq_true rfl)⟩ hl.1 (Nat.le_of_ble_eq_true rfl) dX7_bears_84 (fun H locs hz => ?_)
      refine lv_aload_n hx hb dX7_bears_87 rfl (lv_at hl 0 rfl) ?_
      refine g_X7_177 hB hz kdM_0 dX7_bears_88 ?_
      refine lv_iload_n hx hb dX7_bears_91 rfl (lv_at hl 3 rfl) ?_
      refine lv_icmp_ne (tgt := 99) hx hb dX7_bears_92 (by decide) (fun c92 => ?_) (fun c92 => ?_)
      · have hE := (if_neg c92).symm.trans hE
        refine lv_iconst (v := (0 : Int32)) hx hb dX7_bears_99 (by decide) ?_
        exact w_X7_bears_100 hB ih _ _ _ _ _ _ _ _ _  hE hz (lv_sub hl [0, 1, 2, 3, 4] rfl)
      · have hE := (if_pos c92).symm.trans hE
        refine lv_iconst (v := (1 : Int32)) hx hb dX7_bears_95 (by decide) ?_
        refine lv_goto (tgt := 100) hx hb dX7_bears_96 (by decide) ?_
        exact w_X7_bears_100 hB ih _ _ _ _ _ _ _ _ _  hE hz (lv_sub hl [0, 1, 2, 3, 4] rfl)

set_option maxHeartbeats 4000000 in
set_option maxRecDepth 100000 in
theorem w_X7_bears {p : Program} {l : Launch} {e : Env} {s : State} {m : MethodId} {args : Array Value} {below : List Frame} {meth : Method} {c : Code} {g : GP} (hB : BX p s m args meth c g LM cX7_bears 8 RX7 (some .int)) {o : Int32 × Mem} : ∀ (x1 : Int32) (x2 : Int32) (x3 : Int32) (V : Mem) (H : Heap) (locs : List Loc) (ls : Array Slot), f_X7_bears x1 x2 x3 V = some o → OK g LM V s H locs → lv_has ls 8 [(0, .ref (ad g 0)), (1, .int x1), (2, .int x2), (3, .int x3)] → W p l e rm_X7_bears s m args below meth c H locs 0 0 (MQ below (QQ g LM (some (.int o.1)) o.2) args s 0 0 (Ar g LM)) (F0 m 0 ls []) := by
  obtain ⟨hx, hb, hml, hown, hT, hr, hlk, hK, hJ, hZ, hN⟩ := id hB
  intro x1 x2 x3 V H locs ls hE hz hl
  unfold f_X7_bears at hE
  refine lv_aload_n hx hb dX7_bears_0 rfl (lv_at hl 0 rfl) ?_
  refine lv_iconst (v := (0 : Int32)) hx hb dX7_bears_1 (by decide) ?_
  refine p_X7_59 hB hz kdM_0 dX7_bears_2 (fun H locs hz => ?_)
  refine lv_aload_n hx hb dX7_bears_5 rfl (lv_at hl 0 rfl) ?_
  obtain ⟨q6, hq6, hE⟩ := x_bind hE
  refine i_X7_211 hB hz kdM_0 (c_X7_isThere l g  hq6) ⟨(Nat.le_of_ble_eq_true rfl), (Nat.le_of_ble_eq_true rfl)⟩ hl.1 (Nat.le_of_ble_eq_true rfl) dX7_bears_6 (fun H locs hz => ?_)
  refine lv_if_ne (tgt := 15) hx hb dX7_bears_9 (by decide) (fun c9 => ?_) (fun c9 => ?_)
  · have hE := (if_neg c9).symm.trans hE
    refine lv_iload_n hx hb dX7_bears_15 rfl (lv_at hl 1 rfl) ?_
    obtain ⟨q16, hq16, hE⟩ := x_bind hE
    refine i_X7_73 hB hz (c_X7_isRow l g  hq16) ⟨(Nat.le_of_ble_eq_true rfl), (Nat.le_of_ble_eq_true rfl)⟩ hl.1 (Nat.le_of_ble_eq_true rfl) dX7_bears_16 (fun H locs hz => ?_)
    refine lv_if_eq (tgt := 34) hx hb dX7_bears_19 (by decide) (fun c19 => ?_) (fun c19 => ?_)
    · have hE := (if_pos c19).symm.trans hE
      refine lv_ldc (v := (-1000001 : Int32)) hx hb hown (hT _ kw_826) dX7_bears_34 ?_
      exact x_iret hB hz hE dX7_bears_36
    · have hE := (if_neg c19).symm.trans hE
      refine lv_iload_n hx hb dX7_bears_22 rfl (lv_at hl 3 rfl) ?_
      refine lv_i2l hx hb dX7_bears_23 rfl ?_
      refine lv_lconst (v := (1 : Int64)) hx hb dX7_bears_24 (by decide) ?_
      refine lv_ldc2 (v := (40 : Int64)) hx hb hown (hT _ kw_1040) dX7_bears_25 ?_
      obtain ⟨q28, hq28, hE⟩ := x_bind hE
      refine i_X7_69 hB hz (c_X7_in l g  hq28) ⟨(Nat.le_of_ble_eq_true rfl), (Nat.le_of_ble_eq_true rfl)⟩ hl.1 (Nat.le_of_ble_eq_true rfl) dX7_bears_28 (fun H locs hz => ?_)
      refine lv_if_ne (tgt := 37) hx hb dX7_bears_31 (by decide) (fun c31 => ?_) (fun c31 => ?_)
      · have hE := (if_neg c31).symm.trans hE
        refine lv_aload_n hx hb dX7_bears_37 rfl (lv_at hl 0 rfl) ?_
        refine lv_iload_n hx hb dX7_bears_38 rfl (lv_at hl 1 rfl) ?_
        refine lv_iload_n hx hb dX7_bears_39 rfl (lv_at hl 2 rfl) ?_
        refine lv_iload_n hx hb dX7_bears_40 rfl (lv_at hl 3 rfl) ?_
        obtain ⟨q41, hq41, hE⟩ := x_bind hE
        refine i_X7_253 hB hz kdM_0 (c_X7_rowFound l g  hq41) ⟨(Nat.le_of_ble_eq_true rfl), (Nat.le_of_ble_eq_true rfl)⟩ hl.1 (Nat.le_of_ble_eq_true rfl) dX7_bears_41 (fun H locs hz => ?_)
        refine lv_istore (lv' := [(4, .int q41.1), (0, .ref (ad g 0)), (1, .int x1), (2, .int x2), (3, .int x3)]) hx hb dX7_bears_44 hl (by decide) rfl (fun ls hl => ?_)
        refine lv_iload hx hb dX7_bears_46 (lv_at hl 0 rfl) ?_
        refine lv_if_eq (tgt := 54) hx hb dX7_bears_48 (by decide) (fun c48 => ?_) (fun c48 => ?_)
        · have hE := (if_pos c48).symm.trans hE
          refine lv_aload_n hx hb dX7_bears_54 rfl (lv_at hl 1 rfl) ?_
          refine lv_aload_n hx hb dX7_bears_55 rfl (lv_at hl 1 rfl) ?_
          refine g_X7_19 hB hz kdM_0 dX7_bears_56 ?_
          obtain ⟨q59, hq59, hE⟩ := x_bind hE
          refine i_X7_231 hB hz kdM_0 (c_X7_countAll l g kdM_4 hq59) ⟨(Nat.le_of_ble_eq_true rfl), (Nat.le_of_ble_eq_true rfl)⟩ hl.1 (Nat.le_of_ble_eq_true rfl) dX7_bears_59 (fun H locs hz => ?_)
          refine lv_iconst (v := (0 : Int32)) hx hb dX7_bears_62 (by decide) ?_
          refine lv_istore (lv' := [(5, .int (0 : Int32)), (4, .int q41.1), (0, .ref (ad g 0)), (1, .int x1), (2, .int x2), (3, .int x3)]) hx hb dX7_bears_63 hl (by decide) rfl (fun ls hl => ?_)
          exact w_X7_bears_65 hB  _ _ _ _ _ _ _ _ _  hE hz (lv_sub hl [2, 3, 4, 5, 0] rfl)
        · have hE := (if_neg c48).symm.trans hE
          refine lv_iload hx hb dX7_bears_51 (lv_at hl 0 rfl) ?_
          exact x_iret hB hz hE dX7_bears_53
      · have hE := (if_pos c31).symm.trans hE
        refine lv_ldc (v := (-1000001 : Int32)) hx hb hown (hT _ kw_826) dX7_bears_34 ?_
        exact x_iret hB hz hE dX7_bears_36
  · have hE := (if_pos c9).symm.trans hE
    refine lv_ldc (v := (-1000002 : Int32)) hx hb hown (hT _ kw_918) dX7_bears_12 ?_
    exact x_iret hB hz hE dX7_bears_14
theorem c_X7_bears (l : Launch) (g : GP) {x1 : Int32} {x2 : Int32} {x3 : Int32} {V : Mem} {o : Int32 × Mem} (hE : f_X7_bears x1 x2 x3 V = some o) : CT l g LM yX7_bears cX7_bears 8 (some .int) rm_X7_bears [.ref (ad g 0), .int x1, .int x2, .int x3] V (some (.int o.1)) o.2 := by
  refine ct_of (by decide) (Nat.le_of_ble_eq_true rfl) ?_
  intro p e s m args below meth c ls hB hz hl
  exact w_X7_bears hB _ _ _ _ _ _ _  hE hz hl

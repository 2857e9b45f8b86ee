def rm_X7_failed : Room := { frames := 1, cells := 0, slots := 0, locals := 21 }
set_option maxHeartbeats 4000000 in
set_option maxRecDepth 100000 in
theorem w_X7_failed_44_c0 {p : Program} {l : Launch} {e : Env} {s : State} {m : MethodId} {args : Array Value} {below : List Frame} {meth : Method} {c : Code} {g : GP} (hB : BX p s m args meth c g LM cX7_failed 1 RX7 (some .boolean)) {o : Int32 × Mem} : ∀ (s1 : Int32) (V : Mem) (H : Heap) (locs : List Loc) (ls : Array Slot), f_X7_failed_44_c0 s1 V = some o → OK g LM V s H locs → lv_has ls 1 [(0, .ref (ad g 0))] → W p l e rm_X7_failed s m args below meth c H locs 0 0 (MQ below (QQ g LM (some (.int o.1)) o.2) args s 0 0 (Ar g LM)) (F0 m 44 ls [.int s1, .ref (ad g 0)]) := by
  obtain ⟨hx, hb, hml, hown, hT, hr, hlk, hK, hJ, hZ, hN⟩ := id hB
  intro s1 V H locs ls hE hz hl
  unfold f_X7_failed_44_c0 at hE
  refine p_X7_128 hB hz kdM_0 dX7_failed_44 (fun H locs hz => ?_)
  refine lv_aload_n hx hb dX7_failed_47 rfl (lv_at hl 0 rfl) ?_
  refine g_X7_90 hB hz kdM_0 dX7_failed_48 ?_
  refine lv_if_le (tgt := 58) hx hb dX7_failed_51 (by decide) (fun c51 => ?_) (fun c51 => ?_)
  · have hE := (if_pos c51).symm.trans hE
    refine lv_iconst (v := (0 : Int32)) hx hb dX7_failed_58 (by decide) ?_
    exact x_zret hB hz hE (by decide) dX7_failed_59
  · have hE := (if_neg c51).symm.trans hE
    refine lv_iconst (v := (1 : Int32)) hx hb dX7_failed_54 (by decide) ?_
    refine lv_goto (tgt := 59) hx hb dX7_failed_55 (by decide) ?_
    exact x_zret hB hz hE (by decide) dX7_failed_59

set_option maxHeartbeats 4000000 in
set_option maxRecDepth 100000 in
theorem w_X7_failed_20 {p : Program} {l : Launch} {e : Env} {s : State} {m : MethodId} {args : Array Value} {below : List Frame} {meth : Method} {c : Code} {g : GP} (hB : BX p s m args meth c g LM cX7_failed 1 RX7 (some .boolean)) {o : Int32 × Mem} : ∀ (V : Mem) (H : Heap) (locs : List Loc) (ls : Array Slot), f_X7_failed_20 V = some o → OK g LM V s H locs → lv_has ls 1 [(0, .ref (ad g 0))] → W p l e rm_X7_failed s m args below meth c H locs 0 0 (MQ below (QQ g LM (some (.int o.1)) o.2) args s 0 0 (Ar g LM)) (F0 m 20 ls []) := by
  obtain ⟨hx, hb, hml, hown, hT, hr, hlk, hK, hJ, hZ, hN⟩ := id hB
  intro V H locs ls hE hz hl
  unfold f_X7_failed_20 at hE
  refine lv_aload_n hx hb dX7_failed_20 rfl (lv_at hl 0 rfl) ?_
  refine lv_iconst (v := (0 : Int32)) hx hb dX7_failed_21 (by decide) ?_
  refine p_X7_86 hB hz kdM_0 dX7_failed_22 (fun H locs hz => ?_)
  refine lv_aload_n hx hb dX7_failed_25 rfl (lv_at hl 0 rfl) ?_
  refine lv_aload_n hx hb dX7_failed_26 rfl (lv_at hl 0 rfl) ?_
  refine g_X7_90 hB hz kdM_0 dX7_failed_27 ?_
  refine lv_if_le (tgt := 40) hx hb dX7_failed_30 (by decide) (fun c30 => ?_) (fun c30 => ?_)
  · have hE := (if_pos c30).symm.trans hE
    refine lv_aload_n hx hb dX7_failed_40 rfl (lv_at hl 0 rfl) ?_
    refine g_X7_128 hB hz kdM_0 dX7_failed_41 ?_
    exact w_X7_failed_44_c0 hB  _ _ _ _ _  hE hz (lv_sub hl [0] rfl)
  · have hE := (if_neg c30).symm.trans hE
    refine lv_aload_n hx hb dX7_failed_33 rfl (lv_at hl 0 rfl) ?_
    refine g_X7_90 hB hz kdM_0 dX7_failed_34 ?_
    refine lv_goto (tgt := 44) hx hb dX7_failed_37 (by decide) ?_
    exact w_X7_failed_44_c0 hB  _ _ _ _ _  hE hz (lv_sub hl [0] rfl)

set_option maxHeartbeats 4000000 in
set_option maxRecDepth 100000 in
theorem w_X7_failed {p : Program} {l : Launch} {e : Env} {s : State} {m : MethodId} {args : Array Value} {below : List Frame} {meth : Method} {c : Code} {g : GP} (hB : BX p s m args meth c g LM cX7_failed 1 RX7 (some .boolean)) {o : Int32 × Mem} : ∀ (V : Mem) (H : Heap) (locs : List Loc) (ls : Array Slot), f_X7_failed V = some o → OK g LM V s H locs → lv_has ls 1 [(0, .ref (ad g 0))] → W p l e rm_X7_failed s m args below meth c H locs 0 0 (MQ below (QQ g LM (some (.int o.1)) o.2) args s 0 0 (Ar g LM)) (F0 m 0 ls []) := by
  obtain ⟨hx, hb, hml, hown, hT, hr, hlk, hK, hJ, hZ, hN⟩ := id hB
  intro V H locs ls hE hz hl
  unfold f_X7_failed at hE
  refine lv_aload_n hx hb dX7_failed_0 rfl (lv_at hl 0 rfl) ?_
  refine g_X7_90 hB hz kdM_0 dX7_failed_1 ?_
  refine lv_if_ne (tgt := 20) hx hb dX7_failed_4 (by decide) (fun c4 => ?_) (fun c4 => ?_)
  · have hE := (if_neg c4).symm.trans hE
    exact w_X7_failed_20 hB   _ _ _ _  hE hz (lv_sub hl [0] rfl)
  · have hE := (if_pos c4).symm.trans hE
    refine lv_aload_n hx hb dX7_failed_7 rfl (lv_at hl 0 rfl) ?_
    refine g_X7_114 hB hz kdM_0 dX7_failed_8 ?_
    refine lv_iconst (v := (1 : Int32)) hx hb dX7_failed_11 (by decide) ?_
    refine lv_icmp_eq (tgt := 20) hx hb dX7_failed_12 (by decide) (fun c12 => ?_) (fun c12 => ?_)
    · have hE := (if_pos c12).symm.trans hE
      exact w_X7_failed_20 hB   _ _ _ _  hE hz (lv_sub hl [0] rfl)
    · have hE := (if_neg c12).symm.trans hE
      refine lv_aload_n hx hb dX7_failed_15 rfl (lv_at hl 0 rfl) ?_
      refine lv_iconst (v := (1 : Int32)) hx hb dX7_failed_16 (by decide) ?_
      obtain ⟨q17, hq17, hE⟩ := x_bind hE
      refine i_X7_117 hB hz kdM_0 (c_X7_bad l g  hq17) ⟨(Nat.le_of_ble_eq_true rfl), (Nat.le_of_ble_eq_true rfl)⟩ hl.1 (Nat.le_of_ble_eq_true rfl) dX7_failed_17 (fun H locs hz => ?_)
      exact w_X7_failed_20 hB   _ _ _ _  hE hz (lv_sub hl [0] rfl)
theorem c_X7_failed (l : Launch) (g : GP) {V : Mem} {o : Int32 × Mem} (hE : f_X7_failed V = some o) : CT l g LM yX7_failed cX7_failed 1 (some .boolean) rm_X7_failed [.ref (ad g 0)] V (some (.int o.1)) o.2 := by
  refine ct_of (by decide) (Nat.le_of_ble_eq_true rfl) ?_
  intro p e s m args below meth c ls hB hz hl
  exact w_X7_failed hB  _ _ _ _  hE hz hl
def rm_X7_fault : Room := { frames := 0, cells := 0, slots := 0, locals := 0 }
set_option maxHeartbeats 4000000 in
set_option maxRecDepth 100000 in
theorem w_X7_fault {p : Program} {l : Launch} {e : Env} {s : State} {m : MethodId} {args : Array Value} {below : List Frame} {meth : Method} {c : Code} {g : GP} (hB : BX p s m args meth c g LM cX7_fault 1 RX7 (some .int)) {o : Int32 × Mem} : ∀ (V : Mem) (H : Heap) (locs : List Loc) (ls : Array Slot), f_X7_fault V = some o → OK g LM V s H locs → lv_has ls 1 [(0, .ref (ad g 0))] → W p l e rm_X7_fault s m args below meth c H locs 0 0 (MQ below (QQ g LM (some (.int o.1)) o.2) args s 0 0 (Ar g LM)) (F0 m 0 ls []) := by
  obtain ⟨hx, hb, hml, hown, hT, hr, hlk, hK, hJ, hZ, hN⟩ := id hB
  intro V H locs ls hE hz hl
  unfold f_X7_fault at hE
  refine lv_aload_n hx hb dX7_fault_0 rfl (lv_at hl 0 rfl) ?_
  refine lv_iconst (v := (0 : Int32)) hx hb dX7_fault_1 (by decide) ?_
  refine p_X7_59 hB hz kdM_0 dX7_fault_2 (fun H locs hz => ?_)
  refine lv_aload_n hx hb dX7_fault_5 rfl (lv_at hl 0 rfl) ?_
  refine g_X7_128 hB hz kdM_0 dX7_fault_6 ?_
  exact x_iret hB hz hE dX7_fault_9
theorem c_X7_fault (l : Launch) (g : GP) {V : Mem} {o : Int32 × Mem} (hE : f_X7_fault V = some o) : CT l g LM yX7_fault cX7_fault 1 (some .int) rm_X7_fault [.ref (ad g 0)] V (some (.int o.1)) o.2 := by
  refine ct_of (by decide) (Nat.le_of_ble_eq_true rfl) ?_
  intro p e s m args below meth c ls hB hz hl
  exact w_X7_fault hB  _ _ _ _  hE hz hl
def rm_X7_kindBy : Room := { frames := 0, cells := 0, slots := 0, locals := 0 }
set_option maxHeartbeats 4000000 in
set_option maxRecDepth 100000 in
theorem w_X7_kindBy {p : Program} {l : Launch} {e : Env} {s : State} {m : MethodId} {args : Array Value} {below : List Frame} {meth : Method} {c : Code} {g : GP} (hB : BX p s m args meth c g LM cX7_kindBy 1 RX7 (some .int)) {o : Int32 × Mem} : ∀ (x0 : Int32) (V : Mem) (H : Heap) (locs : List Loc) (ls : Array Slot), f_X7_kindBy x0 V = some o → OK g LM V s H locs → lv_has ls 1 [(0, .int x0)] → W p l e rm_X7_kindBy s m args below meth c H locs 0 0 (MQ below (QQ g LM (some (.int o.1)) o.2) args s 0 0 (Ar g LM)) (F0 m 0 ls []) := by
  obtain ⟨hx, hb, hml, hown, hT, hr, hlk, hK, hJ, hZ, hN⟩ := id hB
  intro x0 V H locs ls hE hz hl
  unfold f_X7_kindBy at hE
  refine lv_iload_n hx hb dX7_kindBy_0 rfl (lv_at hl 0 rfl) ?_
  refine lv_bipush (v := (105 : Int32)) hx hb dX7_kindBy_1 (by decide) ?_
  refine lv_icmp_ne (tgt := 10) hx hb dX7_kindBy_3 (by decide) (fun c3 => ?_) (fun c3 => ?_)
  · have hE := (if_neg c3).symm.trans hE
    refine lv_iload_n hx hb dX7_kindBy_10 rfl (lv_at hl 0 rfl) ?_
    refine lv_bipush (v := (114 : Int32)) hx hb dX7_kindBy_11 (by decide) ?_
    refine lv_icmp_ne (tgt := 20) hx hb dX7_kindBy_13 (by decide) (fun c13 => ?_) (fun c13 => ?_)
    · have hE := (if_neg c13).symm.trans hE
      refine lv_iload_n hx hb dX7_kindBy_20 rfl (lv_at hl 0 rfl) ?_
      refine lv_bipush (v := (99 : Int32)) hx hb dX7_kindBy_21 (by decide) ?_
      refine lv_icmp_ne (tgt := 30) hx hb dX7_kindBy_23 (by decide) (fun c23 => ?_) (fun c23 => ?_)
      · have hE := (if_neg c23).symm.trans hE
        refine lv_iload_n hx hb dX7_kindBy_30 rfl (lv_at hl 0 rfl) ?_
        refine lv_bipush (v := (116 : Int32)) hx hb dX7_kindBy_31 (by decide) ?_
        refine lv_icmp_ne (tgt := 40) hx hb dX7_kindBy_33 (by decide) (fun c33 => ?_) (fun c33 => ?_)
        · have hE := (if_neg c33).symm.trans hE
          refine lv_iload_n hx hb dX7_kindBy_40 rfl (lv_at hl 0 rfl) ?_
          refine lv_bipush (v := (104 : Int32)) hx hb dX7_kindBy_41 (by decide) ?_
          refine lv_icmp_ne (tgt := 50) hx hb dX7_kindBy_43 (by decide) (fun c43 => ?_) (fun c43 => ?_)
          · have hE := (if_neg c43).symm.trans hE
            refine lv_ldc (v := (-1000000 : Int32)) hx hb hown (hT _ kw_866) dX7_kindBy_50 ?_
            exact x_iret hB hz hE dX7_kindBy_52
          · have hE := (if_pos c43).symm.trans hE
            refine lv_iconst (v := (5 : Int32)) hx hb dX7_kindBy_46 (by decide) ?_
            refine lv_goto (tgt := 52) hx hb dX7_kindBy_47 (by decide) ?_
            exact x_iret hB hz hE dX7_kindBy_52
        · have hE := (if_pos c33).symm.trans hE
          refine lv_iconst (v := (4 : Int32)) hx hb dX7_kindBy_36 (by decide) ?_
          refine lv_goto (tgt := 52) hx hb dX7_kindBy_37 (by decide) ?_
          exact x_iret hB hz hE dX7_kindBy_52
      · have hE := (if_pos c23).symm.trans hE
        refine lv_iconst (v := (3 : Int32)) hx hb dX7_kindBy_26 (by decide) ?_
        refine lv_goto (tgt := 52) hx hb dX7_kindBy_27 (by decide) ?_
        exact x_iret hB hz hE dX7_kindBy_52
    · have hE := (if_pos c13).symm.trans hE
      refine lv_iconst (v := (2 : Int32)) hx hb dX7_kindBy_16 (by decide) ?_
      refine lv_goto (tgt := 52) hx hb dX7_kindBy_17 (by decide) ?_
      exact x_iret hB hz hE dX7_kindBy_52
  · have hE := (if_pos c3).symm.trans hE
    refine lv_iconst (v := (1 : Int32)) hx hb dX7_kindBy_6 (by decide) ?_
    refine lv_goto (tgt := 52) hx hb dX7_kindBy_7 (by decide) ?_
    exact x_iret hB hz hE dX7_kindBy_52
theorem c_X7_kindBy (l : Launch) (g : GP) {x0 : Int32} {V : Mem} {o : Int32 × Mem} (hE : f_X7_kindBy x0 V = some o) : CT l g LM yX7_kindBy cX7_kindBy 1 (some .int) rm_X7_kindBy [.int x0] V (some (.int o.1)) o.2 := by
  refine ct_of (by decide) (Nat.le_of_ble_eq_true rfl) ?_
  intro p e s m args below meth c ls hB hz hl
  exact w_X7_kindBy hB _ _ _ _ _  hE hz hl
def rm_X7_isSort : Room := { frames := 1, cells := 0, slots := 0, locals := 20 }
theorem i_X7_131 {p : Program} {l : Launch} {e : Env} {R : Room} {s : State} {m : MethodId} {args : Array Value} {below : List Frame} {meth : Method} {c : Code} {H : Heap} {locs : List Loc} {Q : State → Prop} {cc : ByteArray} {pc : Nat} {ls : Array Slot} {rest : List Value} {g : GP} {V : Mem} {nL : Nat} {ret : Option FieldType} (hB : BX p s m args meth c g LM cc nL RX7 ret) (hz : OK g LM V s H locs) {a0 : Int32} {r : Int32} {V1 : Mem} (hM : CT l g LM yX7_kindBy cX7_kindBy 1 (some .int) rm_X7_kindBy [.int a0] V (some (.int r)) V1) (hR : rm_X7_kindBy.frames + 1 ≤ R.frames ∧ 8 + (1 + 11) + rm_X7_kindBy.locals ≤ R.locals) (hsz : ls.size = nL) (hrest : (rest.map fun v => v.category).sum ≤ 8) (hdg : decode cc pc = .ok (.invokestatic 131, 3)) (kk : ∀ (H1 : Heap) (locs1 : List Loc), OK g LM V1 s H1 locs1 → W p l e R s m args below meth c H1 locs1 0 0 Q (F0 m (pc + 3) ls (.int r :: rest))) : W p l e R s m args below meth c H locs 0 0 Q (F0 m pc ls (.int a0 :: rest)) :=
  x_cs (As := [.int a0]) (n := 1) hB hz hM rfl rfl kw_897 kw_68 kw_895 kw_896 (by decide +kernel) rfl hR hsz hrest hdg kk
set_option maxHeartbeats 4000000 in
set_option maxRecDepth 100000 in
theorem w_X7_isSort {p : Program} {l : Launch} {e : Env} {s : State} {m : MethodId} {args : Array Value} {below : List Frame} {meth : Method} {c : Code} {g : GP} (hB : BX p s m args meth c g LM cX7_isSort 1 RX7 (some .boolean)) {o : Int32 × Mem} : ∀ (V : Mem) (H : Heap) (locs : List Loc) (ls : Array Slot), f_X7_isSort V = some o → OK g LM V s H locs → lv_has ls 1 [(0, .ref (ad g 0))] → W p l e rm_X7_isSort s m args below meth c H locs 0 0 (MQ below (QQ g LM (some (.int o.1)) o.2) args s 0 0 (Ar g LM)) (F0 m 0 ls []) := by
  obtain ⟨hx, hb, hml, hown, hT, hr, hlk, hK, hJ, hZ, hN⟩ := id hB
  intro V H locs ls hE hz hl
  unfold f_X7_isSort at hE
  refine lv_aload_n hx hb dX7_isSort_0 rfl (lv_at hl 0 rfl) ?_
  refine g_X7_90 hB hz kdM_0 dX7_isSort_1 ?_
  refine lv_if_ne (tgt := 31) hx hb dX7_isSort_4 (by decide) (fun c4 => ?_) (fun c4 => ?_)
  · have hE := (if_neg c4).symm.trans hE
    refine lv_iconst (v := (0 : Int32)) hx hb dX7_isSort_31 (by decide) ?_
    exact x_zret hB hz hE (by decide) dX7_isSort_32
  · have hE := (if_pos c4).symm.trans hE
    refine lv_aload_n hx hb dX7_isSort_7 rfl (lv_at hl 0 rfl) ?_
    refine g_X7_114 hB hz kdM_0 dX7_isSort_8 ?_
    refine lv_iconst (v := (2 : Int32)) hx hb dX7_isSort_11 (by decide) ?_
    refine lv_icmp_ne (tgt := 31) hx hb dX7_isSort_12 (by decide) (fun c12 => ?_) (fun c12 => ?_)
    · have hE := (if_neg c12).symm.trans hE
      refine lv_iconst (v := (0 : Int32)) hx hb dX7_isSort_31 (by decide) ?_
      exact x_zret hB hz hE (by decide) dX7_isSort_32
    · have hE := (if_pos c12).symm.trans hE
      refine lv_aload_n hx hb dX7_isSort_15 rfl (lv_at hl 0 rfl) ?_
      refine g_X7_103 hB hz kdM_0 dX7_isSort_16 ?_
      obtain ⟨q19, hq19, hE⟩ := x_bind hE
      refine i_X7_131 hB hz (c_X7_kindBy l g  hq19) ⟨(Nat.le_of_ble_eq_true rfl), (Nat.le_of_ble_eq_true rfl)⟩ hl.1 (Nat.le_of_ble_eq_true rfl) dX7_isSort_19 (fun H locs hz => ?_)
      refine lv_ldc (v := (-1000000 : Int32)) hx hb hown (hT _ kw_866) dX7_isSort_22 ?_
      refine lv_icmp_eq (tgt := 31) hx hb dX7_isSort_24 (by decide) (fun c24 => ?_) (fun c24 => ?_)
      · have hE := (if_pos c24).symm.trans hE
        refine lv_iconst (v := (0 : Int32)) hx hb dX7_isSort_31 (by decide) ?_
        exact x_zret hB hz hE (by decide) dX7_isSort_32
      · have hE := (if_neg c24).symm.trans hE
        refine lv_iconst (v := (1 : Int32)) hx hb dX7_isSort_27 (by decide) ?_
        refine lv_goto (tgt := 32) hx hb dX7_isSort_28 (by decide) ?_
        exact x_zret hB hz hE (by decide) dX7_isSort_32
theorem c_X7_isSort (l : Launch) (g : GP) {V : Mem} {o : Int32 × Mem} (hE : f_X7_isSort V = some o) : CT l g LM yX7_isSort cX7_isSort 1 (some .boolean) rm_X7_isSort [.ref (ad g 0)] V (some (.int o.1)) o.2 := by
  refine ct_of (by decide) (Nat.le_of_ble_eq_true rfl) ?_
  intro p e s m args below meth c ls hB hz hl
  exact w_X7_isSort hB  _ _ _ _  hE hz hl
def rm_X7_layAt : Room := { frames := 0, cells := 0, slots := 0, locals := 0 }
set_option maxHeartbeats 4000000 in
set_option maxRecDepth 100000 in
theorem w_X7_layAt {p : Program} {l : Launch} {e : Env} {s : State} {m : MethodId} {args : Array Value} {below : List Frame} {meth : Method} {c : Code} {g : GP} (hB : BX p s m args meth c g LM cX7_layAt 5 RX7 none) {o : Mem} : ∀ (r0 : Nat) (x1 : Int32) (x2 : Int32) (x3 : Int32) (x4 : Int32) (V : Mem) (H : Heap) (locs : List Loc) (ls : Array Slot), KD LM r0 92 → f_X7_layAt r0 x1 x2 x3 x4 V = some o → OK g LM V s H locs → lv_has ls 5 [(0, .ref (ad g r0)), (1, .int x1), (2, .int x2), (3, .int x3), (4, .int x4)] → W p l e rm_X7_layAt s m args below meth c H locs 0 0 (MQ below (QQ g LM none o) args s 0 0 (Ar g LM)) (F0 m 0 ls []) := by
  obtain ⟨hx, hb, hml, hown, hT, hr, hlk, hK, hJ, hZ, hN⟩ := id hB
  intro r0 x1 x2 x3 x4 V H locs ls k_r0 hE hz hl
  unfold f_X7_layAt at hE
  refine lv_aload_n hx hb dX7_layAt_0 rfl (lv_at hl 0 rfl) ?_
  refine lv_iconst (v := (4 : Int32)) hx hb dX7_layAt_1 (by decide) ?_
  refine lv_iconst (v := (3 : Int32)) hx hb dX7_layAt_2 (by decide) ?_
  refine lv_iload_n hx hb dX7_layAt_3 rfl (lv_at hl 1 rfl) ?_
  refine lv_imul hx hb dX7_layAt_4 ?_
  refine lv_iadd hx hb dX7_layAt_5 ?_
  refine lv_iconst (v := (0 : Int32)) hx hb dX7_layAt_6 (by decide) ?_
  refine lv_iadd hx hb dX7_layAt_7 ?_
  refine lv_iload_n hx hb dX7_layAt_8 rfl (lv_at hl 2 rfl) ?_
  obtain ⟨hi9, hE⟩ := x_chk hE
  refine x_iast (n := 76) hB hz k_r0 hi9 dX7_layAt_9 (fun H locs hz => ?_)
  refine lv_aload_n hx hb dX7_layAt_10 rfl (lv_at hl 0 rfl) ?_
  refine lv_iconst (v := (4 : Int32)) hx hb dX7_layAt_11 (by decide) ?_
  refine lv_iconst (v := (3 : Int32)) hx hb dX7_layAt_12 (by decide) ?_
  refine lv_iload_n hx hb dX7_layAt_13 rfl (lv_at hl 1 rfl) ?_
  refine lv_imul hx hb dX7_layAt_14 ?_
  refine lv_iadd hx hb dX7_layAt_15 ?_
  refine lv_iconst (v := (1 : Int32)) hx hb dX7_layAt_16 (by decide) ?_
  refine lv_iadd hx hb dX7_layAt_17 ?_
  refine lv_iload_n hx hb dX7_layAt_18 rfl (lv_at hl 3 rfl) ?_
  obtain ⟨hi19, hE⟩ := x_chk hE
  refine x_iast (n := 76) hB hz k_r0 hi19 dX7_layAt_19 (fun H locs hz => ?_)
  refine lv_aload_n hx hb dX7_layAt_20 rfl (lv_at hl 0 rfl) ?_
  refine lv_iconst (v := (4 : Int32)) hx hb dX7_layAt_21 (by decide) ?_
  refine lv_iconst (v := (3 : Int32)) hx hb dX7_layAt_22 (by decide) ?_
  refine lv_iload_n hx hb dX7_layAt_23 rfl (lv_at hl 1 rfl) ?_
  refine lv_imul hx hb dX7_layAt_24 ?_
  refine lv_iadd hx hb dX7_layAt_25 ?_
  refine lv_iconst (v := (2 : Int32)) hx hb dX7_layAt_26 (by decide) ?_
  refine lv_iadd hx hb dX7_layAt_27 ?_
  refine lv_iload hx hb dX7_layAt_28 (lv_at hl 4 rfl) ?_
  obtain ⟨hi30, hE⟩ := x_chk hE
  refine x_iast (n := 76) hB hz k_r0 hi30 dX7_layAt_30 (fun H locs hz => ?_)
  exact x_vret hB hz hE dX7_layAt_31
theorem c_X7_layAt (l : Launch) (g : GP) {r0 : Nat} (k_r0 : KD LM r0 92) {x1 : Int32} {x2 : Int32} {x3 : Int32} {x4 : Int32} {V : Mem} {o : Mem} (hE : f_X7_layAt r0 x1 x2 x3 x4 V = some o) : CT l g LM yX7_layAt cX7_layAt 5 none rm_X7_layAt [.ref (ad g r0), .int x1, .int x2, .int x3, .int x4] V none o := by
  refine ct_of (by decide) (Nat.le_of_ble_eq_true rfl) ?_
  intro p e s m args below meth c ls hB hz hl
  exact w_X7_layAt hB _ _ _ _ _ _ _ _ _ k_r0 hE hz hl
def rm_X7_readParagraph : Room := { frames := 4, cells := 0, slots := 0, locals := 89 }
theorem i_X7_134 {p : Program} {l : Launch} {e : Env} {R : Room} {s : State} {m : MethodId} {args : Array Value} {below : List Frame} {meth : Method} {c : Code} {H : Heap} {locs : List Loc} {Q : State → Prop} {cc : ByteArray} {pc : Nat} {ls : Array Slot} {rest : List Value} {g : GP} {V : Mem} {nL : Nat} {ret : Option FieldType} (hB : BX p s m args meth c g LM cc nL RX7 ret) (hz : OK g LM V s H locs) {i : Nat} (hk : KD LM i 6) {a0 : Int32} {a1 : Int32} {r : Int32} {V1 : Mem} (hM : CT l g LM yX7_number cX7_number 4 (some .int) rm_X7_number [.ref (ad g i), .int a0, .int a1] V (some (.int r)) V1) (hR : rm_X7_number.frames + 1 ≤ R.frames ∧ 8 + (4 + 11) + rm_X7_number.locals ≤ R.locals) (hsz : ls.size = nL) (hrest : (rest.map fun v => v.category).sum ≤ 8) (hdg : decode cc pc = .ok (.invokevirtual 134, 3)) (kk : ∀ (H1 : Heap) (locs1 : List Loc), OK g LM V1 s H1 locs1 → W p l e R s m args below meth c H1 locs1 0 0 Q (F0 m (pc + 3) ls (.int r :: rest))) : W p l e R s m args below meth c H locs 0 0 Q (F0 m pc ls (.int a1 :: .int a0 :: .ref (ad g i) :: rest)) :=
  x_cv (As := [.int a0, .int a1]) (n := 2) (T := TX7) (N := 30) hB hz hM hk rfl rfl rfl rfl kw_886 kw_68 kw_883 kw_885 kw_29 (by decide +kernel) rfl hR hsz hrest hdg kk
theorem i_X7_138 {p : Program} {l : Launch} {e : Env} {R : Room} {s : State} {m : MethodId} {args : Array Value} {below : List Frame} {meth : Method} {c : Code} {H : Heap} {locs : List Loc} {Q : State → Prop} {cc : ByteArray} {pc : Nat} {ls : Array Slot} {rest : List Value} {g : GP} {V : Mem} {nL : Nat} {ret : Option FieldType} (hB : BX p s m args meth c g LM cc nL RX7 ret) (hz : OK g LM V s H locs) {i : Nat} (hk : KD LM i 6) {a0 : Int32} {V1 : Mem} (hM : CT l g LM yX7_mustSign cX7_mustSign 2 none rm_X7_mustSign [.ref (ad g i), .int a0] V none V1) (hR : rm_X7_mustSign.frames + 1 ≤ R.frames ∧ 8 + (2 + 11) + rm_X7_mustSign.locals ≤ R.locals) (hsz : ls.size = nL) (hrest : (rest.map fun v => v.category).sum ≤ 8) (hdg : decode cc pc = .ok (.invokevirtual 138, 3)) (kk : ∀ (H1 : Heap) (locs1 : List Loc), OK g LM V1 s H1 locs1 → W p l e R s m args below meth c H1 locs1 0 0 Q (F0 m (pc + 3) ls (rest))) : W p l e R s m args below meth c H locs 0 0 Q (F0 m pc ls (.int a0 :: .ref (ad g i) :: rest)) :=
  x_cv (As := [.int a0]) (n := 1) (T := TX7) (N := 30) hB hz hM hk rfl rfl rfl rfl kw_890 kw_68 kw_887 kw_889 kw_30 (by decide +kernel) rfl hR hsz hrest hdg kk
theorem i_X7_141 {p : Program} {l : Launch} {e : Env} {R : Room} {s : State} {m : MethodId} {args : Array Value} {below : List Frame} {meth : Method} {c : Code} {H : Heap} {locs : List Loc} {Q : State → Prop} {cc : ByteArray} {pc : Nat} {ls : Array Slot} {rest : List Value} {g : GP} {V : Mem} {nL : Nat} {ret : Option FieldType} (hB : BX p s m args meth c g LM cc nL RX7 ret) (hz : OK g LM V s H locs) {a0 : Nat} {a1 : Int32} {a2 : Int32} {a3 : Int32} {a4 : Int32} {V1 : Mem} (hM : CT l g LM yX7_layAt cX7_layAt 5 none rm_X7_layAt [.ref (ad g a0), .int a1, .int a2, .int a3, .int a4] V none V1) (hR : rm_X7_layAt.frames + 1 ≤ R.frames ∧ 8 + (5 + 11) + rm_X7_layAt.locals ≤ R.locals) (hsz : ls.size = nL) (hrest : (rest.map fun v => v.category).sum ≤ 8) (hdg : decode cc pc = .ok (.invokestatic 141, 3)) (kk : ∀ (H1 : Heap) (locs1 : List Loc), OK g LM V1 s H1 locs1 → W p l e R s m args below meth c H1 locs1 0 0 Q (F0 m (pc + 3) ls (rest))) : W p l e R s m args below meth c H locs 0 0 Q (F0 m pc ls (.int a4 :: .int a3 :: .int a2 :: .int a1 :: .ref (ad g a0) :: rest)) :=
  x_cs (As := [.ref (ad g a0), .int a1, .int a2, .int a3, .int a4]) (n := 5) hB hz hM rfl rfl kw_904 kw_68 kw_902 kw_903 (by decide +kernel) rfl hR hsz hrest hdg kk
set_option maxHeartbeats 4000000 in
set_option maxRecDepth 100000 in
theorem w_X7_readParagraph_24 {p : Program} {l : Launch} {e : Env} {s : State} {m : MethodId} {args : Array Value} {below : List Frame} {meth : Method} {c : Code} {g : GP} (hB : BX p s m args meth c g LM cX7_readParagraph 4 RX7 none) {o : Mem} : ∀ (x1 : Int32) (V : Mem) (H : Heap) (locs : List Loc) (ls : Array Slot), f_X7_readParagraph_24 x1 V = some o → OK g LM V s H locs → lv_has ls 4 [(0, .ref (ad g 0)), (1, .int x1)] → W p l e rm_X7_readParagraph s m args below meth c H locs 0 0 (MQ below (QQ g LM none o) args s 0 0 (Ar g LM)) (F0 m 24 ls []) := by
  obtain ⟨hx, hb, hml, hown, hT, hr, hlk, hK, hJ, hZ, hN⟩ := id hB
  intro x1 V H locs ls hE hz hl
  unfold f_X7_readParagraph_24 at hE
  refine lv_aload_n hx hb dX7_readParagraph_24 rfl (lv_at hl 0 rfl) ?_
  refine lv_iconst (v := (1 : Int32)) hx hb dX7_readParagraph_25 (by decide) ?_
  obtain ⟨q26, hq26, hE⟩ := x_bind hE
  refine i_X7_124 hB hz kdM_0 (c_X7_must l g  hq26) ⟨(Nat.le_of_ble_eq_true rfl), (Nat.le_of_ble_eq_true rfl)⟩ hl.1 (Nat.le_of_ble_eq_true rfl) dX7_readParagraph_26 (fun H locs hz => ?_)
  refine lv_aload_n hx hb dX7_readParagraph_29 rfl (lv_at hl 0 rfl) ?_
  refine lv_iconst (v := (0 : Int32)) hx hb dX7_readParagraph_30 (by decide) ?_
  refine lv_iconst (v := (2 : Int32)) hx hb dX7_readParagraph_31 (by decide) ?_
  obtain ⟨q32, hq32, hE⟩ := x_bind hE
  refine i_X7_134 hB hz kdM_0 (c_X7_number l g  hq32) ⟨(Nat.le_of_ble_eq_true rfl), (Nat.le_of_ble_eq_true rfl)⟩ hl.1 (Nat.le_of_ble_eq_true rfl) dX7_readParagraph_32 (fun H locs hz => ?_)
  refine lv_istore_n (lv' := [(2, .int q32.1), (0, .ref (ad g 0)), (1, .int x1)]) hx hb dX7_readParagraph_35 rfl hl (by decide) rfl (fun ls hl => ?_)
  refine lv_aload_n hx hb dX7_readParagraph_36 rfl (lv_at hl 1 rfl) ?_
  refine lv_bipush (v := (44 : Int32)) hx hb dX7_readParagraph_37 (by decide) ?_
  obtain ⟨q39, hq39, hE⟩ := x_bind hE
  refine i_X7_138 hB hz kdM_0 (c_X7_mustSign l g  hq39) ⟨(Nat.le_of_ble_eq_true rfl), (Nat.le_of_ble_eq_true rfl)⟩ hl.1 (Nat.le_of_ble_eq_true rfl) dX7_readParagraph_39 (fun H locs hz => ?_)
  refine lv_aload_n hx hb dX7_readParagraph_42 rfl (lv_at hl 1 rfl) ?_
  refine lv_iconst (v := (0 : Int32)) hx hb dX7_readParagraph_43 (by decide) ?_
  refine lv_bipush (v := (20 : Int32)) hx hb dX7_readParagraph_44 (by decide) ?_
  obtain ⟨q46, hq46, hE⟩ := x_bind hE
  refine i_X7_134 hB hz kdM_0 (c_X7_number l g  hq46) ⟨(Nat.le_of_ble_eq_true rfl), (Nat.le_of_ble_eq_true rfl)⟩ hl.1 (Nat.le_of_ble_eq_true rfl) dX7_readParagraph_46 (fun H locs hz => ?_)
  refine lv_istore_n (lv' := [(3, .int q46.1), (2, .int q32.1), (0, .ref (ad g 0)), (1, .int x1)]) hx hb dX7_readParagraph_49 rfl hl (by decide) rfl (fun ls hl => ?_)
  refine lv_aload_n hx hb dX7_readParagraph_50 rfl (lv_at hl 2 rfl) ?_
  refine lv_bipush (v := (59 : Int32)) hx hb dX7_readParagraph_51 (by decide) ?_
  obtain ⟨q53, hq53, hE⟩ := x_bind hE
  refine i_X7_138 hB hz kdM_0 (c_X7_mustSign l g  hq53) ⟨(Nat.le_of_ble_eq_true rfl), (Nat.le_of_ble_eq_true rfl)⟩ hl.1 (Nat.le_of_ble_eq_true rfl) dX7_readParagraph_53 (fun H locs hz => ?_)
  refine lv_aload_n hx hb dX7_readParagraph_56 rfl (lv_at hl 2 rfl) ?_
  refine g_X7_90 hB hz kdM_0 dX7_readParagraph_57 ?_
  refine lv_if_ne (tgt := 89) hx hb dX7_readParagraph_60 (by decide) (fun c60 => ?_) (fun c60 => ?_)
  · have hE := (if_neg c60).symm.trans hE
    exact x_vret hB hz hE dX7_readParagraph_89
  · have hE := (if_pos c60).symm.trans hE
    refine lv_aload_n hx hb dX7_readParagraph_63 rfl (lv_at hl 2 rfl) ?_
    refine g_X7_22 hB hz kdM_0 dX7_readParagraph_64 ?_
    refine lv_aload_n hx hb dX7_readParagraph_67 rfl (lv_at hl 2 rfl) ?_
    refine g_X7_22 hB hz kdM_0 dX7_readParagraph_68 ?_
    refine lv_iconst (v := (0 : Int32)) hx hb dX7_readParagraph_71 (by decide) ?_
    obtain ⟨hi72, hE⟩ := x_chk hE
    refine x_iald (n := 76) hB hz kdM_5 hi72 dX7_readParagraph_72 ?_
    refine lv_iload_n hx hb dX7_readParagraph_73 rfl (lv_at hl 3 rfl) ?_
    refine lv_iload_n hx hb dX7_readParagraph_74 rfl (lv_at hl 1 rfl) ?_
    refine lv_iload_n hx hb dX7_readParagraph_75 rfl (lv_at hl 0 rfl) ?_
    obtain ⟨q76, hq76, hE⟩ := x_bind hE
    refine i_X7_141 hB hz (c_X7_layAt l g kdM_5 hq76) ⟨(Nat.le_of_ble_eq_true rfl), (Nat.le_of_ble_eq_true rfl)⟩ hl.1 (Nat.le_of_ble_eq_true rfl) dX7_readParagraph_76 (fun H locs hz => ?_)
    refine lv_aload_n hx hb dX7_readParagraph_79 rfl (lv_at hl 2 rfl) ?_
    refine g_X7_22 hB hz kdM_0 dX7_readParagraph_80 ?_
    refine lv_iconst (v := (0 : Int32)) hx hb dX7_readParagraph_83 (by decide) ?_
    refine lv_dup2_11 hx hb dX7_readParagraph_84 rfl rfl ?_
    obtain ⟨hi85, hE⟩ := x_chk hE
    refine x_iald (n := 76) hB hz kdM_5 hi85 dX7_readParagraph_85 ?_
    refine lv_iconst (v := (1 : Int32)) hx hb dX7_readParagraph_86 (by decide) ?_
    refine lv_iadd hx hb dX7_readParagraph_87 ?_
    obtain ⟨hi88, hE⟩ := x_chk hE
    refine x_iast (n := 76) hB hz kdM_5 hi88 dX7_readParagraph_88 (fun H locs hz => ?_)
    exact x_vret hB hz hE dX7_readParagraph_89

set_option maxHeartbeats 4000000 in
set_option maxRecDepth 100000 in
theorem w_X7_readParagraph {p : Program} {l : Launch} {e : Env} {s : State} {m : MethodId} {args : Array Value} {below : List Frame} {meth : Method} {c : Code} {g : GP} (hB : BX p s m args meth c g LM cX7_readParagraph 4 RX7 none) {o : Mem} : ∀ (V : Mem) (H : Heap) (locs : List Loc) (ls : Array Slot), f_X7_readParagraph V = some o → OK g LM V s H locs → lv_has ls 4 [(0, .ref (ad g 0))] → W p l e rm_X7_readParagraph s m args below meth c H locs 0 0 (MQ below (QQ g LM none o) args s 0 0 (Ar g LM)) (F0 m 0 ls []) := by
  obtain ⟨hx, hb, hml, hown, hT, hr, hlk, hK, hJ, hZ, hN⟩ := id hB
  intro V H locs ls hE hz hl
  unfold f_X7_readParagraph at hE
  refine lv_aload_n hx hb dX7_readParagraph_0 rfl (lv_at hl 0 rfl) ?_
  refine g_X7_103 hB hz kdM_0 dX7_readParagraph_1 ?_
  obtain ⟨q4, hq4, hE⟩ := x_bind hE
  refine i_X7_131 hB hz (c_X7_kindBy l g  hq4) ⟨(Nat.le_of_ble_eq_true rfl), (Nat.le_of_ble_eq_true rfl)⟩ hl.1 (Nat.le_of_ble_eq_true rfl) dX7_readParagraph_4 (fun H locs hz => ?_)
  refine lv_istore_n (lv' := [(1, .int q4.1), (0, .ref (ad g 0))]) hx hb dX7_readParagraph_7 rfl hl (by decide) rfl (fun ls hl => ?_)
  refine lv_aload_n hx hb dX7_readParagraph_8 rfl (lv_at hl 1 rfl) ?_
  refine g_X7_22 hB hz kdM_0 dX7_readParagraph_9 ?_
  refine lv_iconst (v := (0 : Int32)) hx hb dX7_readParagraph_12 (by decide) ?_
  obtain ⟨hi13, hE⟩ := x_chk hE
  refine x_iald (n := 76) hB hz kdM_5 hi13 dX7_readParagraph_13 ?_
  refine lv_bipush (v := (16 : Int32)) hx hb dX7_readParagraph_14 (by decide) ?_
  refine lv_icmp_ne (tgt := 24) hx hb dX7_readParagraph_16 (by decide) (fun c16 => ?_) (fun c16 => ?_)
  · have hE := (if_neg c16).symm.trans hE
    exact w_X7_readParagraph_24 hB  _ _ _ _ _  hE hz (lv_sub hl [1, 0] rfl)
  · have hE := (if_pos c16).symm.trans hE
    refine lv_aload_n hx hb dX7_readParagraph_19 rfl (lv_at hl 1 rfl) ?_
    refine lv_iconst (v := (3 : Int32)) hx hb dX7_readParagraph_20 (by decide) ?_
    obtain ⟨q21, hq21, hE⟩ := x_bind hE
    refine i_X7_117 hB hz kdM_0 (c_X7_bad l g  hq21) ⟨(Nat.le_of_ble_eq_true rfl), (Nat.le_of_ble_eq_true rfl)⟩ hl.1 (Nat.le_of_ble_eq_true rfl) dX7_readParagraph_21 (fun H locs hz => ?_)
    exact w_X7_readParagraph_24 hB  _ _ _ _ _  hE hz (lv_sub hl [1, 0] rfl)
theorem c_X7_readParagraph (l : Launch) (g : GP) {V : Mem} {o : Mem} (hE : f_X7_readParagraph V = some o) : CT l g LM yX7_readParagraph cX7_readParagraph 4 none rm_X7_readParagraph [.ref (ad g 0)] V none o := by
  refine ct_of (by decide) (Nat.le_of_ble_eq_true rfl) ?_
  intro p e s m args below meth c ls hB hz hl
  exact w_X7_readParagraph hB  _ _ _ _  hE hz hl
def rm_X7_sheet : Room := { frames := 5, cells := 0, slots := 0, locals := 112 }
theorem i_X7_145 {p : Program} {l : Launch} {e : Env} {R : Room} {s : State} {m : MethodId} {args : Array Value} {below : List Frame} {meth : Method} {c : Code} {H : Heap} {locs : List Loc} {Q : State → Prop} {cc : ByteArray} {pc : Nat} {ls : Array Slot} {rest : List Value} {g : GP} {V : Mem} {nL : Nat} {ret : Option FieldType} (hB : BX p s m args meth c g LM cc nL RX7 ret) (hz : OK g LM V s H locs) {i : Nat} (hk : KD LM i 6) {V1 : Mem} (hM : CT l g LM yX7_begin cX7_begin 1 none rm_X7_begin [.ref (ad g i)] V none V1) (hR : rm_X7_begin.frames + 1 ≤ R.frames ∧ 8 + (1 + 11) + rm_X7_begin.locals ≤ R.locals) (hsz : ls.size = nL) (hrest : (rest.map fun v => v.category).sum ≤ 8) (hdg : decode cc pc = .ok (.invokevirtual 145, 3)) (kk : ∀ (H1 : Heap) (locs1 : List Loc), OK g LM V1 s H1 locs1 → W p l e R s m args below meth c H1 locs1 0 0 Q (F0 m (pc + 3) ls (rest))) : W p l e R s m args below meth c H locs 0 0 Q (F0 m pc ls (.ref (ad g i) :: rest)) :=
  x_cv (As := []) (n := 0) (T := TX7) (N := 30) hB hz hM hk rfl rfl rfl rfl kw_861 kw_68 kw_858 kw_860 kw_24 (by decide +kernel) rfl hR hsz hrest hdg kk
theorem i_X7_148 {p : Program} {l : Launch} {e : Env} {R : Room} {s : State} {m : MethodId} {args : Array Value} {below : List Frame} {meth : Method} {c : Code} {H : Heap} {locs : List Loc} {Q : State → Prop} {cc : ByteArray} {pc : Nat} {ls : Array Slot} {rest : List Value} {g : GP} {V : Mem} {nL : Nat} {ret : Option FieldType} (hB : BX p s m args meth c g LM cc nL RX7 ret) (hz : OK g LM V s H locs) {i : Nat} (hk : KD LM i 6) {a0 : Int32} {r : Int32} {V1 : Mem} (hM : CT l g LM yX7_isLetter cX7_isLetter 2 (some .boolean) rm_X7_isLetter [.ref (ad g i), .int a0] V (some (.int r)) V1) (hR : rm_X7_isLetter.frames + 1 ≤ R.frames ∧ 8 + (2 + 11) + rm_X7_isLetter.locals ≤ R.locals) (hsz : ls.size = nL) (hrest : (rest.map fun v => v.category).sum ≤ 8) (hdg : decode cc pc = .ok (.invokevirtual 148, 3)) (kk : ∀ (H1 : Heap) (locs1 : List Loc), OK g LM V1 s H1 locs1 → W p l e R s m args below meth c H1 locs1 0 0 Q (F0 m (pc + 3) ls (.int r :: rest))) : W p l e R s m args below meth c H locs 0 0 Q (F0 m pc ls (.int a0 :: .ref (ad g i) :: rest)) :=
  x_cv (As := [.int a0]) (n := 1) (T := TX7) (N := 30) hB hz hM hk rfl rfl rfl rfl kw_874 kw_68 kw_871 kw_873 kw_26 (by decide +kernel) rfl hR hsz hrest hdg kk
theorem i_X7_151 {p : Program} {l : Launch} {e : Env} {R : Room} {s : State} {m : MethodId} {args : Array Value} {below : List Frame} {meth : Method} {c : Code} {H : Heap} {locs : List Loc} {Q : State → Prop} {cc : ByteArray} {pc : Nat} {ls : Array Slot} {rest : List Value} {g : GP} {V : Mem} {nL : Nat} {ret : Option FieldType} (hB : BX p s m args meth c g LM cc nL RX7 ret) (hz : OK g LM V s H locs) {i : Nat} (hk : KD LM i 6) {r : Int32} {V1 : Mem} (hM : CT l g LM yX7_isSort cX7_isSort 1 (some .boolean) rm_X7_isSort [.ref (ad g i)] V (some (.int r)) V1) (hR : rm_X7_isSort.frames + 1 ≤ R.frames ∧ 8 + (1 + 11) + rm_X7_isSort.locals ≤ R.locals) (hsz : ls.size = nL) (hrest : (rest.map fun v => v.category).sum ≤ 8) (hdg : decode cc pc = .ok (.invokevirtual 151, 3)) (kk : ∀ (H1 : Heap) (locs1 : List Loc), OK g LM V1 s H1 locs1 → W p l e R s m args below meth c H1 locs1 0 0 Q (F0 m (pc + 3) ls (.int r :: rest))) : W p l e R s m args below meth c H locs 0 0 Q (F0 m pc ls (.ref (ad g i) :: rest)) :=
  x_cv (As := []) (n := 0) (T := TX7) (N := 30) hB hz hM hk rfl rfl rfl rfl kw_894 kw_68 kw_891 kw_893 kw_31 (by decide +kernel) rfl hR hsz hrest hdg kk
theorem i_X7_158 {p : Program} {l : Launch} {e : Env} {R : Room} {s : State} {m : MethodId} {args : Array Value} {below : List Frame} {meth : Method} {c : Code} {H : Heap} {locs : List Loc} {Q : State → Prop} {cc : ByteArray} {pc : Nat} {ls : Array Slot} {rest : List Value} {g : GP} {V : Mem} {nL : Nat} {ret : Option FieldType} (hB : BX p s m args meth c g LM cc nL RX7 ret) (hz : OK g LM V s H locs) {i : Nat} (hk : KD LM i 6) {r : Int32} {V1 : Mem} (hM : CT l g LM yX7_failed cX7_failed 1 (some .boolean) rm_X7_failed [.ref (ad g i)] V (some (.int r)) V1) (hR : rm_X7_failed.frames + 1 ≤ R.frames ∧ 8 + (1 + 11) + rm_X7_failed.locals ≤ R.locals) (hsz : ls.size = nL) (hrest : (rest.map fun v => v.category).sum ≤ 8) (hdg : decode cc pc = .ok (.invokevirtual 158, 3)) (kk : ∀ (H1 : Heap) (locs1 : List Loc), OK g LM V1 s H1 locs1 → W p l e R s m args below meth c H1 locs1 0 0 Q (F0 m (pc + 3) ls (.int r :: rest))) : W p l e R s m args below meth c H locs 0 0 Q (F0 m pc ls (.ref (ad g i) :: rest)) :=
  x_cv (As := []) (n := 0) (T := TX7) (N := 30) hB hz hM hk rfl rfl rfl rfl kw_908 kw_68 kw_905 kw_907 kw_33 (by decide +kernel) rfl hR hsz hrest hdg kk
theorem i_X7_155 {p : Program} {l : Launch} {e : Env} {R : Room} {s : State} {m : MethodId} {args : Array Value} {below : List Frame} {meth : Method} {c : Code} {H : Heap} {locs : List Loc} {Q : State → Prop} {cc : ByteArray} {pc : Nat} {ls : Array Slot} {rest : List Value} {g : GP} {V : Mem} {nL : Nat} {ret : Option FieldType} (hB : BX p s m args meth c g LM cc nL RX7 ret) (hz : OK g LM V s H locs) {i : Nat} (hk : KD LM i 6) {V1 : Mem} (hM : CT l g LM yX7_readParagraph cX7_readParagraph 4 none rm_X7_readParagraph [.ref (ad g i)] V none V1) (hR : rm_X7_readParagraph.frames + 1 ≤ R.frames ∧ 8 + (4 + 11) + rm_X7_readParagraph.locals ≤ R.locals) (hsz : ls.size = nL) (hrest : (rest.map fun v => v.category).sum ≤ 8) (hdg : decode cc pc = .ok (.invokevirtual 155, 3)) (kk : ∀ (H1 : Heap) (locs1 : List Loc), OK g LM V1 s H1 locs1 → W p l e R s m args below meth c H1 locs1 0 0 Q (F0 m (pc + 3) ls (rest))) : W p l e R s m args below meth c H locs 0 0 Q (F0 m pc ls (.ref (ad g i) :: rest)) :=
  x_cv (As := []) (n := 0) (T := TX7) (N := 30) hB hz hM hk rfl rfl rfl rfl kw_901 kw_68 kw_898 kw_900 kw_32 (by decide +kernel) rfl hR hsz hrest hdg kk
set_option maxHeartbeats 4000000 in
set_option maxRecDepth 100000 in
theorem w_X7_sheet_142 {p : Program} {l : Launch} {e : Env} {s : State} {m : MethodId} {args : Array Value} {below : List Frame} {meth : Method} {c : Code} {g : GP} (hB : BX p s m args meth c g LM cX7_sheet 2 RX7 (some .int)) {o : Int32 × Mem} : ∀ (n : Nat), ∀ (x1 : Int32) (V : Mem) (H : Heap) (locs : List Loc) (ls : Array Slot), f_X7_sheet_142 n x1 V = some o → OK g LM V s H locs → lv_has ls 2 [(0, .ref (ad g 0)), (1, .int x1)] → W p l e rm_X7_sheet s m args below meth c H locs 0 0 (MQ below (QQ g LM (some (.int o.1)) o.2) args s 0 0 (Ar g LM)) (F0 m 142 ls []) := by
  obtain ⟨hx, hb, hml, hown, hT, hr, hlk, hK, hJ, hZ, hN⟩ := id hB
  intro n
  induction n with
  | zero =>
    intro x1 V H locs ls hE hz hl
    exact absurd (show (none : Option (Int32 × Mem)) = some o from hE) (by simp)
  | succ n ih =>
    intro x1 V H locs ls hE hz hl
    unfold f_X7_sheet_142 at hE
    refine lv_iload_n hx hb dX7_sheet_142 rfl (lv_at hl 1 rfl) ?_
    refine lv_bipush (v := (76 : Int32)) hx hb dX7_sheet_143 (by decide) ?_
    refine lv_icmp_ge (tgt := 166) hx hb dX7_sheet_145 (by decide) (fun c145 => ?_) (fun c145 => ?_)
    · have hE := (if_pos c145).symm.trans hE
      refine lv_aload_n hx hb dX7_sheet_166 rfl (lv_at hl 0 rfl) ?_
      refine g_X7_19 hB hz kdM_0 dX7_sheet_167 ?_
      refine lv_iconst (v := (0 : Int32)) hx hb dX7_sheet_170 (by decide) ?_
      obtain ⟨hi171, hE⟩ := x_chk hE
      refine x_iald (n := 76) hB hz kdM_4 hi171 dX7_sheet_171 ?_
      exact x_iret hB hz hE dX7_sheet_172
    · have hE := (if_neg c145).symm.trans hE
      refine lv_aload_n hx hb dX7_sheet_148 rfl (lv_at hl 0 rfl) ?_
      refine g_X7_19 hB hz kdM_0 dX7_sheet_149 ?_
      refine lv_iload_n hx hb dX7_sheet_152 rfl (lv_at hl 1 rfl) ?_
      refine lv_aload_n hx hb dX7_sheet_153 rfl (lv_at hl 0 rfl) ?_
      refine g_X7_22 hB hz kdM_0 dX7_sheet_154 ?_
      refine lv_iload_n hx hb dX7_sheet_157 rfl (lv_at hl 1 rfl) ?_
      obtain ⟨hi158, hE⟩ := x_chk hE
      refine x_iald (n := 76) hB hz kdM_5 hi158 dX7_sheet_158 ?_
      obtain ⟨hi159, hE⟩ := x_chk hE
      refine x_iast (n := 76) hB hz kdM_4 hi159 dX7_sheet_159 (fun H locs hz => ?_)
      refine lv_iinc (v := (x1 + 1)) (lv' := [(1, .int (x1 + 1)), (0, .ref (ad g 0))]) hx hb dX7_sheet_160 hl (k := 1) rfl rfl (by decide) rfl (fun ls hl => ?_)
      refine lv_goto (tgt := 142) hx hb dX7_sheet_163 (by decide) ?_
      exact ih _ _ _ _ _  hE hz (lv_sub hl [1, 0] rfl)

set_option maxHeartbeats 4000000 in
set_option maxRecDepth 100000 in
theorem w_X7_sheet_106 {p : Program} {l : Launch} {e : Env} {s : State} {m : MethodId} {args : Array Value} {below : List Frame} {meth : Method} {c : Code} {g : GP} (hB : BX p s m args meth c g LM cX7_sheet 2 RX7 (some .int)) {o : Int32 × Mem} : ∀ (n : Nat), ∀ (V : Mem) (H : Heap) (locs : List Loc) (ls : Array Slot), f_X7_sheet_106 n V = some o → OK g LM V s H locs → lv_has ls 2 [(0, .ref (ad g 0))] → W p l e rm_X7_sheet s m args below meth c H locs 0 0 (MQ below (QQ g LM (some (.int o.1)) o.2) args s 0 0 (Ar g LM)) (F0 m 106 ls []) := by
  obtain ⟨hx, hb, hml, hown, hT, hr, hlk, hK, hJ, hZ, hN⟩ := id hB
  intro n
  induction n with
  | zero =>
    intro V H locs ls hE hz hl
    exact absurd (show (none : Option (Int32 × Mem)) = some o from hE) (by simp)
  | succ n ih =>
    intro V H locs ls hE hz hl
    unfold f_X7_sheet_106 at hE
    refine lv_aload_n hx hb dX7_sheet_106 rfl (lv_at hl 0 rfl) ?_
    obtain ⟨q107, hq107, hE⟩ := x_bind hE
    refine i_X7_151 hB hz kdM_0 (c_X7_isSort l g  hq107) ⟨(Nat.le_of_ble_eq_true rfl), (Nat.le_of_ble_eq_true rfl)⟩ hl.1 (Nat.le_of_ble_eq_true rfl) dX7_sheet_107 (fun H locs hz => ?_)
    refine lv_if_eq (tgt := 120) hx hb dX7_sheet_110 (by decide) (fun c110 => ?_) (fun c110 => ?_)
    · have hE := (if_pos c110).symm.trans hE
      refine lv_aload_n hx hb dX7_sheet_120 rfl (lv_at hl 0 rfl) ?_
      obtain ⟨q121, hq121, hE⟩ := x_bind hE
      refine i_X7_158 hB hz kdM_0 (c_X7_failed l g  hq121) ⟨(Nat.le_of_ble_eq_true rfl), (Nat.le_of_ble_eq_true rfl)⟩ hl.1 (Nat.le_of_ble_eq_true rfl) dX7_sheet_121 (fun H locs hz => ?_)
      refine lv_if_eq (tgt := 135) hx hb dX7_sheet_124 (by decide) (fun c124 => ?_) (fun c124 => ?_)
      · have hE := (if_pos c124).symm.trans hE
        refine lv_aload_n hx hb dX7_sheet_135 rfl (lv_at hl 0 rfl) ?_
        refine lv_iconst (v := (0 : Int32)) hx hb dX7_sheet_136 (by decide) ?_
        refine p_X7_162 hB hz kdM_0 dX7_sheet_137 (fun H locs hz => ?_)
        refine lv_iconst (v := (0 : Int32)) hx hb dX7_sheet_140 (by decide) ?_
        refine lv_istore_n (lv' := [(1, .int (0 : Int32)), (0, .ref (ad g 0))]) hx hb dX7_sheet_141 rfl hl (by decide) rfl (fun ls hl => ?_)
        exact w_X7_sheet_142 hB  _ _ _ _ _ _  hE hz (lv_sub hl [1, 0] rfl)
      · have hE := (if_neg c124).symm.trans hE
        refine lv_ldc (v := (-1000100 : Int32)) hx hb hown (hT _ kw_909) dX7_sheet_127 ?_
        refine lv_aload_n hx hb dX7_sheet_129 rfl (lv_at hl 0 rfl) ?_
        refine g_X7_96 hB hz kdM_0 dX7_sheet_130 ?_
        refine lv_isub hx hb dX7_sheet_133 ?_
        exact x_iret hB hz hE dX7_sheet_134
    · have hE := (if_neg c110).symm.trans hE
      refine lv_aload_n hx hb dX7_sheet_113 rfl (lv_at hl 0 rfl) ?_
      obtain ⟨q114, hq114, hE⟩ := x_bind hE
      refine i_X7_155 hB hz kdM_0 (c_X7_readParagraph l g  hq114) ⟨(Nat.le_of_ble_eq_true rfl), (Nat.le_of_ble_eq_true rfl)⟩ hl.1 (Nat.le_of_ble_eq_true rfl) dX7_sheet_114 (fun H locs hz => ?_)
      refine lv_goto (tgt := 106) hx hb dX7_sheet_117 (by decide) ?_
      exact ih  _ _ _ _  hE hz (lv_sub hl [0] rfl)

set_option maxHeartbeats 4000000 in
set_option maxRecDepth 100000 in
theorem w_X7_sheet_11 {p : Program} {l : Launch} {e : Env} {s : State} {m : MethodId} {args : Array Value} {below : List Frame} {meth : Method} {c : Code} {g : GP} (hB : BX p s m args meth c g LM cX7_sheet 2 RX7 (some .int)) {o : Int32 × Mem} : ∀ (n : Nat), ∀ (x1 : Int32) (V : Mem) (H : Heap) (locs : List Loc) (ls : Array Slot), f_X7_sheet_11 n x1 V = some o → OK g LM V s H locs → lv_has ls 2 [(0, .ref (ad g 0)), (1, .int x1)] → W p l e rm_X7_sheet s m args below meth c H locs 0 0 (MQ below (QQ g LM (some (.int o.1)) o.2) args s 0 0 (Ar g LM)) (F0 m 11 ls []) := by
  obtain ⟨hx, hb, hml, hown, hT, hr, hlk, hK, hJ, hZ, hN⟩ := id hB
  intro n
  induction n with
  | zero =>
    intro x1 V H locs ls hE hz hl
    exact absurd (show (none : Option (Int32 × Mem)) = some o from hE) (by simp)
  | succ n ih =>
    intro x1 V H locs ls hE hz hl
    unfold f_X7_sheet_11 at hE
    refine lv_iload_n hx hb dX7_sheet_11 rfl (lv_at hl 1 rfl) ?_
    refine lv_bipush (v := (76 : Int32)) hx hb dX7_sheet_12 (by decide) ?_
    refine lv_icmp_ge (tgt := 30) hx hb dX7_sheet_14 (by decide) (fun c14 => ?_) (fun c14 => ?_)
    · have hE := (if_pos c14).symm.trans hE
      refine lv_aload_n hx hb dX7_sheet_30 rfl (lv_at hl 0 rfl) ?_
      refine lv_aload_n hx hb dX7_sheet_31 rfl (lv_at hl 0 rfl) ?_
      refine lv_bipush (v := (110 : Int32)) hx hb dX7_sheet_32 (by decide) ?_
      obtain ⟨q34, hq34, hE⟩ := x_bind hE
      refine i_X7_148 hB hz kdM_0 (c_X7_isLetter l g  hq34) ⟨(Nat.le_of_ble_eq_true rfl), (Nat.le_of_ble_eq_true rfl)⟩ hl.1 (Nat.le_of_ble_eq_true rfl) dX7_sheet_34 (fun H locs hz => ?_)
      obtain ⟨q37, hq37, hE⟩ := x_bind hE
      refine i_X7_124 hB hz kdM_0 (c_X7_must l g  hq37) ⟨(Nat.le_of_ble_eq_true rfl), (Nat.le_of_ble_eq_true rfl)⟩ hl.1 (Nat.le_of_ble_eq_true rfl) dX7_sheet_37 (fun H locs hz => ?_)
      refine lv_aload_n hx hb dX7_sheet_40 rfl (lv_at hl 0 rfl) ?_
      refine g_X7_22 hB hz kdM_0 dX7_sheet_41 ?_
      refine lv_iconst (v := (1 : Int32)) hx hb dX7_sheet_44 (by decide) ?_
      refine lv_aload_n hx hb dX7_sheet_45 rfl (lv_at hl 0 rfl) ?_
      refine lv_iconst (v := (0 : Int32)) hx hb dX7_sheet_46 (by decide) ?_
      refine lv_iconst (v := (3 : Int32)) hx hb dX7_sheet_47 (by decide) ?_
      obtain ⟨q48, hq48, hE⟩ := x_bind hE
      refine i_X7_134 hB hz kdM_0 (c_X7_number l g  hq48) ⟨(Nat.le_of_ble_eq_true rfl), (Nat.le_of_ble_eq_true rfl)⟩ hl.1 (Nat.le_of_ble_eq_true rfl) dX7_sheet_48 (fun H locs hz => ?_)
      obtain ⟨hi51, hE⟩ := x_chk hE
      refine x_iast (n := 76) hB hz kdM_5 hi51 dX7_sheet_51 (fun H locs hz => ?_)
      refine lv_aload_n hx hb dX7_sheet_52 rfl (lv_at hl 0 rfl) ?_
      refine lv_bipush (v := (44 : Int32)) hx hb dX7_sheet_53 (by decide) ?_
      obtain ⟨q55, hq55, hE⟩ := x_bind hE
      refine i_X7_138 hB hz kdM_0 (c_X7_mustSign l g  hq55) ⟨(Nat.le_of_ble_eq_true rfl), (Nat.le_of_ble_eq_true rfl)⟩ hl.1 (Nat.le_of_ble_eq_true rfl) dX7_sheet_55 (fun H locs hz => ?_)
      refine lv_aload_n hx hb dX7_sheet_58 rfl (lv_at hl 0 rfl) ?_
      refine g_X7_22 hB hz kdM_0 dX7_sheet_59 ?_
      refine lv_iconst (v := (2 : Int32)) hx hb dX7_sheet_62 (by decide) ?_
      refine lv_aload_n hx hb dX7_sheet_63 rfl (lv_at hl 0 rfl) ?_
      refine lv_iconst (v := (0 : Int32)) hx hb dX7_sheet_64 (by decide) ?_
      refine lv_iconst (v := (3 : Int32)) hx hb dX7_sheet_65 (by decide) ?_
      obtain ⟨q66, hq66, hE⟩ := x_bind hE
      refine i_X7_134 hB hz kdM_0 (c_X7_number l g  hq66) ⟨(Nat.le_of_ble_eq_true rfl), (Nat.le_of_ble_eq_true rfl)⟩ hl.1 (Nat.le_of_ble_eq_true rfl) dX7_sheet_66 (fun H locs hz => ?_)
      obtain ⟨hi69, hE⟩ := x_chk hE
      refine x_iast (n := 76) hB hz kdM_5 hi69 dX7_sheet_69 (fun H locs hz => ?_)
      refine lv_aload_n hx hb dX7_sheet_70 rfl (lv_at hl 0 rfl) ?_
      refine lv_bipush (v := (44 : Int32)) hx hb dX7_sheet_71 (by decide) ?_
      obtain ⟨q73, hq73, hE⟩ := x_bind hE
      refine i_X7_138 hB hz kdM_0 (c_X7_mustSign l g  hq73) ⟨(Nat.le_of_ble_eq_true rfl), (Nat.le_of_ble_eq_true rfl)⟩ hl.1 (Nat.le_of_ble_eq_true rfl) dX7_sheet_73 (fun H locs hz => ?_)
      refine lv_aload_n hx hb dX7_sheet_76 rfl (lv_at hl 0 rfl) ?_
      refine g_X7_22 hB hz kdM_0 dX7_sheet_77 ?_
      refine lv_iconst (v := (3 : Int32)) hx hb dX7_sheet_80 (by decide) ?_
      refine lv_aload_n hx hb dX7_sheet_81 rfl (lv_at hl 0 rfl) ?_
      refine lv_iconst (v := (0 : Int32)) hx hb dX7_sheet_82 (by decide) ?_
      refine lv_iconst (v := (3 : Int32)) hx hb dX7_sheet_83 (by decide) ?_
      obtain ⟨q84, hq84, hE⟩ := x_bind hE
      refine i_X7_134 hB hz kdM_0 (c_X7_number l g  hq84) ⟨(Nat.le_of_ble_eq_true rfl), (Nat.le_of_ble_eq_true rfl)⟩ hl.1 (Nat.le_of_ble_eq_true rfl) dX7_sheet_84 (fun H locs hz => ?_)
      obtain ⟨hi87, hE⟩ := x_chk hE
      refine x_iast (n := 76) hB hz kdM_5 hi87 dX7_sheet_87 (fun H locs hz => ?_)
      refine lv_aload_n hx hb dX7_sheet_88 rfl (lv_at hl 0 rfl) ?_
      refine lv_bipush (v := (59 : Int32)) hx hb dX7_sheet_89 (by decide) ?_
      obtain ⟨q91, hq91, hE⟩ := x_bind hE
      refine i_X7_138 hB hz kdM_0 (c_X7_mustSign l g  hq91) ⟨(Nat.le_of_ble_eq_true rfl), (Nat.le_of_ble_eq_true rfl)⟩ hl.1 (Nat.le_of_ble_eq_true rfl) dX7_sheet_91 (fun H locs hz => ?_)
      refine lv_aload_n hx hb dX7_sheet_94 rfl (lv_at hl 0 rfl) ?_
      obtain ⟨q95, hq95, hE⟩ := x_bind hE
      refine i_X7_151 hB hz kdM_0 (c_X7_isSort l g  hq95) ⟨(Nat.le_of_ble_eq_true rfl), (Nat.le_of_ble_eq_true rfl)⟩ hl.1 (Nat.le_of_ble_eq_true rfl) dX7_sheet_95 (fun H locs hz => ?_)
      refine lv_if_ne (tgt := 106) hx hb dX7_sheet_98 (by decide) (fun c98 => ?_) (fun c98 => ?_)
      · have hE := (if_neg c98).symm.trans hE
        exact w_X7_sheet_106 hB  _  _ _ _ _  hE hz (lv_sub hl [0] rfl)
      · have hE := (if_pos c98).symm.trans hE
        refine lv_aload_n hx hb dX7_sheet_101 rfl (lv_at hl 0 rfl) ?_
        refine lv_iconst (v := (1 : Int32)) hx hb dX7_sheet_102 (by decide) ?_
        obtain ⟨q103, hq103, hE⟩ := x_bind hE
        refine i_X7_117 hB hz kdM_0 (c_X7_bad l g  hq103) ⟨(Nat.le_of_ble_eq_true rfl), (Nat.le_of_ble_eq_true rfl)⟩ hl.1 (Nat.le_of_ble_eq_true rfl) dX7_sheet_103 (fun H locs hz => ?_)
        exact w_X7_sheet_106 hB  _  _ _ _ _  hE hz (lv_sub hl [0] rfl)
    · have hE := (if_neg c14).symm.trans hE
      refine lv_aload_n hx hb dX7_sheet_17 rfl (lv_at hl 0 rfl) ?_
      refine g_X7_22 hB hz kdM_0 dX7_sheet_18 ?_
      refine lv_iload_n hx hb dX7_sheet_21 rfl (lv_at hl 1 rfl) ?_
      refine lv_iconst (v := (0 : Int32)) hx hb dX7_sheet_22 (by decide) ?_
      obtain ⟨hi23, hE⟩ := x_chk hE
      refine x_iast (n := 76) hB hz kdM_5 hi23 dX7_sheet_23 (fun H locs hz => ?_)
      refine lv_iinc (v := (x1 + 1)) (lv' := [(1, .int (x1 + 1)), (0, .ref (ad g 0))]) hx hb dX7_sheet_24 hl (k := 1) rfl rfl (by decide) rfl (fun ls hl => ?_)
      refine lv_goto (tgt := 11) hx hb dX7_sheet_27 (by decide) ?_
      exact ih _ _ _ _ _  hE hz (lv_sub hl [1, 0] rfl)

set_option maxHeartbeats 4000000 in
set_option maxRecDepth 100000 in
theorem w_X7_sheet {p : Program} {l : Launch} {e : Env} {s : State} {m : MethodId} {args : Array Value} {below : List Frame} {meth : Method} {c : Code} {g : GP} (hB : BX p s m args meth c g LM cX7_sheet 2 RX7 (some .int)) {o : Int32 × Mem} : ∀ (V : Mem) (H : Heap) (locs : List Loc) (ls : Array Slot), f_X7_sheet V = some o → OK g LM V s H locs → lv_has ls 2 [(0, .ref (ad g 0))] → W p l e rm_X7_sheet s m args below meth c H locs 0 0 (MQ below (QQ g LM (some (.int o.1)) o.2) args s 0 0 (Ar g LM)) (F0 m 0 ls []) := by
  obtain ⟨hx, hb, hml, hown, hT, hr, hlk, hK, hJ, hZ, hN⟩ := id hB
  intro V H locs ls hE hz hl
  unfold f_X7_sheet at hE
  refine lv_aload_n hx hb dX7_sheet_0 rfl (lv_at hl 0 rfl) ?_
  refine lv_iconst (v := (0 : Int32)) hx hb dX7_sheet_1 (by decide) ?_
  refine p_X7_59 hB hz kdM_0 dX7_sheet_2 (fun H locs hz => ?_)
  refine lv_aload_n hx hb dX7_sheet_5 rfl (lv_at hl 0 rfl) ?_
  obtain ⟨q6, hq6, hE⟩ := x_bind hE
  refine i_X7_145 hB hz kdM_0 (c_X7_begin l g  hq6) ⟨(Nat.le_of_ble_eq_true rfl), (Nat.le_of_ble_eq_true rfl)⟩ hl.1 (Nat.le_of_ble_eq_true rfl) dX7_sheet_6 (fun H locs hz => ?_)
  refine lv_iconst (v := (0 : Int32)) hx hb dX7_sheet_9 (by decide) ?_
  refine lv_istore_n (lv' := [(1, .int (0 : Int32)), (0, .ref (ad g 0))]) hx hb dX7_sheet_10 rfl hl (by decide) rfl (fun ls hl => ?_)
  exact w_X7_sheet_11 hB  _ _ _ _ _ _  hE hz (lv_sub hl [1, 0] rfl)
theorem c_X7_sheet (l : Launch) (g : GP) {V : Mem} {o : Int32 × Mem} (hE : f_X7_sheet V = some o) : CT l g LM yX7_sheet cX7_sheet 2 (some .int) rm_X7_sheet [.ref (ad g 0)] V (some (.int o.1)) o.2 := by
  refine ct_of (by decide) (Nat.le_of_ble_eq_true rfl) ?_
  intro p e s m args below meth c ls hB hz hl
  exact w_X7_sheet hB  _ _ _ _  hE hz hl
def rm_X7_isThere : Room := { frames := 0, cells := 0, slots := 0, locals := 0 }
set_option maxHeartbeats 4000000 in
set_option maxRecDepth 100000 in
theorem w_X7_isThere {p : Program} {l : Launch} {e : Env} {s : State} {m : MethodId} {args : Array Value} {below : List Frame} {meth : Method} {c : Code} {g : GP} (hB : BX p s m args meth c g LM cX7_isThere 1 RX7 (some .boolean)) {o : Int32 × Mem} : ∀ (V : Mem) (H : Heap) (locs : List Loc) (ls : Array Slot), f_X7_isThere V = some o → OK g LM V s H locs → lv_has ls 1 [(0, .ref (ad g 0))] → W p l e rm_X7_isThere s m args below meth c H locs 0 0 (MQ below (QQ g LM (some (.int o.1)) o.2) args s 0 0 (Ar g LM)) (F0 m 0 ls []) := by
  obtain ⟨hx, hb, hml, hown, hT, hr, hlk, hK, hJ, hZ, hN⟩ := id hB
  intro V H locs ls hE hz hl
  unfold f_X7_isThere at hE
  refine lv_aload_n hx hb dX7_isThere_0 rfl (lv_at hl 0 rfl) ?_
  refine g_X7_19 hB hz kdM_0 dX7_isThere_1 ?_
  refine lv_iconst (v := (0 : Int32)) hx hb dX7_isThere_4 (by decide) ?_
  obtain ⟨hi5, hE⟩ := x_chk hE
  refine x_iald (n := 76) hB hz kdM_4 hi5 dX7_isThere_5 ?_
  refine lv_if_le (tgt := 13) hx hb dX7_isThere_6 (by decide) (fun c6 => ?_) (fun c6 => ?_)
  · have hE := (if_pos c6).symm.trans hE
    refine lv_iconst (v := (0 : Int32)) hx hb dX7_isThere_13 (by decide) ?_
    exact x_zret hB hz hE (by decide) dX7_isThere_14
  · have hE := (if_neg c6).symm.trans hE
    refine lv_iconst (v := (1 : Int32)) hx hb dX7_isThere_9 (by decide) ?_
    refine lv_goto (tgt := 14) hx hb dX7_isThere_10 (by decide) ?_
    exact x_zret hB hz hE (by decide) dX7_isThere_14
theorem c_X7_isThere (l : Launch) (g : GP) {V : Mem} {o : Int32 × Mem} (hE : f_X7_isThere V = some o) : CT l g LM yX7_isThere cX7_isThere 1 (some .boolean) rm_X7_isThere [.ref (ad g 0)] V (some (.int o.1)) o.2 := by
  refine ct_of (by decide) (Nat.le_of_ble_eq_true rfl) ?_
  intro p e s m args below meth c ls hB hz hl
  exact w_X7_isThere hB  _ _ _ _  hE hz hl
def rm_X7_isParagraph : Room := { frames := 1, cells := 0, slots := 0, locals := 25 }
set_option maxHeartbeats 4000000 in
set_option maxRecDepth 100000 in
theorem w_X7_isParagraph {p : Program} {l : Launch} {e : Env} {s : State} {m : MethodId} {args : Array Value} {below : List Frame} {meth : Method} {c : Code} {g : GP} (hB : BX p s m args meth c g LM cX7_isParagraph 2 RX7 (some .boolean)) {o : Int32 × Mem} : ∀ (x1 : Int32) (V : Mem) (H : Heap) (locs : List Loc) (ls : Array Slot), f_X7_isParagraph x1 V = some o → OK g LM V s H locs → lv_has ls 2 [(0, .ref (ad g 0)), (1, .int x1)] → W p l e rm_X7_isParagraph s m args below meth c H locs 0 0 (MQ below (QQ g LM (some (.int o.1)) o.2) args s 0 0 (Ar g LM)) (F0 m 0 ls []) := by
  obtain ⟨hx, hb, hml, hown, hT, hr, hlk, hK, hJ, hZ, hN⟩ := id hB
  intro x1 V H locs ls hE hz hl
  unfold f_X7_isParagraph at hE
  refine lv_iload_n hx hb dX7_isParagraph_0 rfl (lv_at hl 1 rfl) ?_
  refine lv_i2l hx hb dX7_isParagraph_1 rfl ?_
  refine lv_lconst (v := (0 : Int64)) hx hb dX7_isParagraph_2 (by decide) ?_
  refine lv_aload_n hx hb dX7_isParagraph_3 rfl (lv_at hl 0 rfl) ?_
  refine g_X7_19 hB hz kdM_0 dX7_isParagraph_4 ?_
  refine lv_iconst (v := (0 : Int32)) hx hb dX7_isParagraph_7 (by decide) ?_
  obtain ⟨hi8, hE⟩ := x_chk hE
  refine x_iald (n := 76) hB hz kdM_4 hi8 dX7_isParagraph_8 ?_
  refine lv_iconst (v := (1 : Int32)) hx hb dX7_isParagraph_9 (by decide) ?_
  refine lv_isub hx hb dX7_isParagraph_10 ?_
  refine lv_i2l hx hb dX7_isParagraph_11 rfl ?_
  obtain ⟨q12, hq12, hE⟩ := x_bind hE
  refine i_X7_69 hB hz (c_X7_in l g  hq12) ⟨(Nat.le_of_ble_eq_true rfl), (Nat.le_of_ble_eq_true rfl)⟩ hl.1 (Nat.le_of_ble_eq_true rfl) dX7_isParagraph_12 (fun H locs hz => ?_)
  obtain ⟨hv15, hE⟩ := x_if hE
  exact x_zret hB hz hE hv15 dX7_isParagraph_15
theorem c_X7_isParagraph (l : Launch) (g : GP) {x1 : Int32} {V : Mem} {o : Int32 × Mem} (hE : f_X7_isParagraph x1 V = some o) : CT l g LM yX7_isParagraph cX7_isParagraph 2 (some .boolean) rm_X7_isParagraph [.ref (ad g 0), .int x1] V (some (.int o.1)) o.2 := by
  refine ct_of (by decide) (Nat.le_of_ble_eq_true rfl) ?_
  intro p e s m args below meth c ls hB hz hl
  exact w_X7_isParagraph hB _ _ _ _ _  hE hz hl
def rm_X7_has : Room := { frames := 0, cells := 0, slots := 0, locals := 0 }
set_option maxHeartbeats 4000000 in
set_option maxRecDepth 100000 in
theorem w_X7_has {p : Program} {l : Launch} {e : Env} {s : State} {m : MethodId} {args : Array Value} {below : List Frame} {meth : Method} {c : Code} {g : GP} (hB : BX p s m args meth c g LM cX7_has 2 RX7 (some .boolean)) {o : Int32 × Mem} : ∀ (x0 : Int32) (x1 : Int32) (V : Mem) (H : Heap) (locs : List Loc) (ls : Array Slot), f_X7_has x0 x1 V = some o → OK g LM V s H locs → lv_has ls 2 [(0, .int x0), (1, .int x1)] → W p l e rm_X7_has s m args below meth c H locs 0 0 (MQ below (QQ g LM (some (.int o.1)) o.2) args s 0 0 (Ar g LM)) (F0 m 0 ls []) := by
  obtain ⟨hx, hb, hml, hown, hT, hr, hlk, hK, hJ, hZ, hN⟩ := id hB
  intro x0 x1 V H locs ls hE hz hl
  unfold f_X7_has at hE
  refine lv_iload_n hx hb dX7_has_0 rfl (lv_at hl 0 rfl) ?_
  refine lv_iload_n hx hb dX7_has_1 rfl (lv_at hl 1 rfl) ?_
  refine lv_ishr hx hb dX7_has_2 ?_
  refine lv_iconst (v := (1 : Int32)) hx hb dX7_has_3 (by decide) ?_
  refine lv_iand hx hb dX7_has_4 ?_
  refine lv_iconst (v := (1 : Int32)) hx hb dX7_has_5 (by decide) ?_
  refine lv_icmp_ne (tgt := 13) hx hb dX7_has_6 (by decide) (fun c6 => ?_) (fun c6 => ?_)
  · have hE := (if_neg c6).symm.trans hE
    refine lv_iconst (v := (0 : Int32)) hx hb dX7_has_13 (by decide) ?_
    exact x_zret hB hz hE (by decide) dX7_has_14
  · have hE := (if_pos c6).symm.trans hE
    refine lv_iconst (v := (1 : Int32)) hx hb dX7_has_9 (by decide) ?_
    refine lv_goto (tgt := 14) hx hb dX7_has_10 (by decide) ?_
    exact x_zret hB hz hE (by decide) dX7_has_14
theorem c_X7_has (l : Launch) (g : GP) {x0 : Int32} {x1 : Int32} {V : Mem} {o : Int32 × Mem} (hE : f_X7_has x0 x1 V = some o) : CT l g LM yX7_has cX7_has 2 (some .boolean) rm_X7_has [.int x0, .int x1] V (some (.int o.1)) o.2 := by
  refine ct_of (by decide) (Nat.le_of_ble_eq_true rfl) ?_
  intro p e s m args below meth c ls hB hz hl
  exact w_X7_has hB _ _ _ _ _ _  hE hz hl
def rm_X7_of : Room := { frames := 0, cells := 0, slots := 0, locals := 0 }
set_option maxHeartbeats 4000000 in
set_option maxRecDepth 100000 in
theorem w_X7_of {p : Program} {l : Launch} {e : Env} {s : State} {m : MethodId} {args : Array Value} {below : List Frame} {meth : Method} {c : Code} {g : GP} (hB : BX p s m args meth c g LM cX7_of 3 RX7 (some .int)) {o : Int32 × Mem} : ∀ (r0 : Nat) (x1 : Int32) (x2 : Int32) (V : Mem) (H : Heap) (locs : List Loc) (ls : Array Slot), KD LM r0 92 → f_X7_of r0 x1 x2 V = some o → OK g LM V s H locs → lv_has ls 3 [(0, .ref (ad g r0)), (1, .int x1), (2, .int x2)] → W p l e rm_X7_of s m args below meth c H locs 0 0 (MQ below (QQ g LM (some (.int o.1)) o.2) args s 0 0 (Ar g LM)) (F0 m 0 ls []) := by
  obtain ⟨hx, hb, hml, hown, hT, hr, hlk, hK, hJ, hZ, hN⟩ := id hB
  intro r0 x1 x2 V H locs ls k_r0 hE hz hl
  unfold f_X7_of at hE
  refine lv_aload_n hx hb dX7_of_0 rfl (lv_at hl 0 rfl) ?_
  refine lv_iconst (v := (4 : Int32)) hx hb dX7_of_1 (by decide) ?_
  refine lv_iconst (v := (3 : Int32)) hx hb dX7_of_2 (by decide) ?_
  refine lv_iload_n hx hb dX7_of_3 rfl (lv_at hl 1 rfl) ?_
  refine lv_imul hx hb dX7_of_4 ?_
  refine lv_iadd hx hb dX7_of_5 ?_
  refine lv_iload_n hx hb dX7_of_6 rfl (lv_at hl 2 rfl) ?_
  refine lv_iadd hx hb dX7_of_7 ?_
  obtain ⟨hi8, hE⟩ := x_chk hE
  refine x_iald (n := 76) hB hz k_r0 hi8 dX7_of_8 ?_
  exact x_iret hB hz hE dX7_of_9
theorem c_X7_of (l : Launch) (g : GP) {r0 : Nat} (k_r0 : KD LM r0 92) {x1 : Int32} {x2 : Int32} {V : Mem} {o : Int32 × Mem} (hE : f_X7_of r0 x1 x2 V = some o) : CT l g LM yX7_of cX7_of 3 (some .int) rm_X7_of [.ref (ad g r0), .int x1, .int x2] V (some (.int o.1)) o.2 := by
  refine ct_of (by decide) (Nat.le_of_ble_eq_true rfl) ?_
  intro p e s m args below meth c ls hB hz hl
  exact w_X7_of hB _ _ _ _ _ _ _ k_r0 hE hz hl
def rm_X7_isLabelled : Room := { frames := 1, cells := 0, slots := 0, locals := 22 }
theorem i_X7_165 {p : Program} {l : Launch} {e : Env} {R : Room} {s : State} {m : MethodId} {args : Array Value} {below : List Frame} {meth : Method} {c : Code} {H : Heap} {locs : List Loc} {Q : State → Prop} {cc : ByteArray} {pc : Nat} {ls : Array Slot} {rest : List Value} {g : GP} {V : Mem} {nL : Nat} {ret : Option FieldType} (hB : BX p s m args meth c g LM cc nL RX7 ret) (hz : OK g LM V s H locs) {a0 : Nat} {a1 : Int32} {a2 : Int32} {r : Int32} {V1 : Mem} (hM : CT l g LM yX7_of cX7_of 3 (some .int) rm_X7_of [.ref (ad g a0), .int a1, .int a2] V (some (.int r)) V1) (hR : rm_X7_of.frames + 1 ≤ R.frames ∧ 8 + (3 + 11) + rm_X7_of.locals ≤ R.locals) (hsz : ls.size = nL) (hrest : (rest.map fun v => v.category).sum ≤ 8) (hdg : decode cc pc = .ok (.invokestatic 165, 3)) (kk : ∀ (H1 : Heap) (locs1 : List Loc), OK g LM V1 s H1 locs1 → W p l e R s m args below meth c H1 locs1 0 0 Q (F0 m (pc + 3) ls (.int r :: rest))) : W p l e R s m args below meth c H locs 0 0 Q (F0 m pc ls (.int a2 :: .int a1 :: .ref (ad g a0) :: rest)) :=
  x_cs (As := [.ref (ad g a0), .int a1, .int a2]) (n := 3) hB hz hM rfl rfl kw_933 kw_68 kw_931 kw_932 (by decide +kernel) rfl hR hsz hrest hdg kk
set_option maxHeartbeats 4000000 in
set_option maxRecDepth 100000 in
theorem w_X7_isLabelled {p : Program} {l : Launch} {e : Env} {s : State} {m : MethodId} {args : Array Value} {below : List Frame} {meth : Method} {c : Code} {g : GP} (hB : BX p s m args meth c g LM cX7_isLabelled 2 RX7 (some .boolean)) {o : Int32 × Mem} : ∀ (r0 : Nat) (x1 : Int32) (V : Mem) (H : Heap) (locs : List Loc) (ls : Array Slot), KD LM r0 92 → f_X7_isLabelled r0 x1 V = some o → OK g LM V s H locs → lv_has ls 2 [(0, .ref (ad g r0)), (1, .int x1)] → W p l e rm_X7_isLabelled s m args below meth c H locs 0 0 (MQ below (QQ g LM (some (.int o.1)) o.2) args s 0 0 (Ar g LM)) (F0 m 0 ls []) := by
  obtain ⟨hx, hb, hml, hown, hT, hr, hlk, hK, hJ, hZ, hN⟩ := id hB
  intro r0 x1 V H locs ls k_r0 hE hz hl
  unfold f_X7_isLabelled at hE
  refine lv_aload_n hx hb dX7_isLabelled_0 rfl (lv_at hl 0 rfl) ?_
  refine lv_iload_n hx hb dX7_isLabelled_1 rfl (lv_at hl 1 rfl) ?_
  refine lv_iconst (v := (0 : Int32)) hx hb dX7_isLabelled_2 (by decide) ?_
  obtain ⟨q3, hq3, hE⟩ := x_bind hE
  refine i_X7_165 hB hz (c_X7_of l g k_r0 hq3) ⟨(Nat.le_of_ble_eq_true rfl), (Nat.le_of_ble_eq_true rfl)⟩ hl.1 (Nat.le_of_ble_eq_true rfl) dX7_isLabelled_3 (fun H locs hz => ?_)
  refine lv_iconst (v := (4 : Int32)) hx hb dX7_isLabelled_6 (by decide) ?_
  refine lv_icmp_ge (tgt := 14) hx hb dX7_isLabelled_7 (by decide) (fun c7 => ?_) (fun c7 => ?_)
  · have hE := (if_pos c7).symm.trans hE
    refine lv_iconst (v := (0 : Int32)) hx hb dX7_isLabelled_14 (by decide) ?_
    exact x_zret hB hz hE (by decide) dX7_isLabelled_15
  · have hE := (if_neg c7).symm.trans hE
    refine lv_iconst (v := (1 : Int32)) hx hb dX7_isLabelled_10 (by decide) ?_
    refine lv_goto (tgt := 15) hx hb dX7_isLabelled_11 (by decide) ?_
    exact x_zret hB hz hE (by decide) dX7_isLabelled_15
theorem c_X7_isLabelled (l : Launch) (g : GP) {r0 : Nat} (k_r0 : KD LM r0 92) {x1 : Int32} {V : Mem} {o : Int32 × Mem} (hE : f_X7_isLabelled r0 x1 V = some o) : CT l g LM yX7_isLabelled cX7_isLabelled 2 (some .boolean) rm_X7_isLabelled [.ref (ad g r0), .int x1] V (some (.int o.1)) o.2 := by
  refine ct_of (by decide) (Nat.le_of_ble_eq_true rfl) ?_
  intro p e s m args below meth c ls hB hz hl
  exact w_X7_isLabelled hB _ _ _ _ _ _ k_r0 hE hz hl
def rm_X7_become : Room := { frames := 0, cells := 0, slots := 0, locals := 0 }
set_option maxHeartbeats 4000000 in
set_option maxRecDepth 100000 in
theorem w_X7_become {p : Program} {l : Launch} {e : Env} {s : State} {m : MethodId} {args : Array Value} {below : List Frame} {meth : Method} {c : Code} {g : GP} (hB : BX p s m args meth c g LM cX7_become 4 RX7 none) {o : Mem} : ∀ (x1 : Int32) (x2 : Int32) (x3 : Int32) (V : Mem) (H : Heap) (locs : List Loc) (ls : Array Slot), f_X7_become x1 x2 x3 V = some o → OK g LM V s H locs → lv_has ls 4 [(0, .ref (ad g 0)), (1, .int x1), (2, .int x2), (3, .int x3)] → W p l e rm_X7_become s m args below meth c H locs 0 0 (MQ below (QQ g LM none o) args s 0 0 (Ar g LM)) (F0 m 0 ls []) := by
  obtain ⟨hx, hb, hml, hown, hT, hr, hlk, hK, hJ, hZ, hN⟩ := id hB
  intro x1 x2 x3 V H locs ls hE hz hl
  unfold f_X7_become at hE
  refine lv_aload_n hx hb dX7_become_0 rfl (lv_at hl 0 rfl) ?_
  refine g_X7_34 hB hz kdM_0 dX7_become_1 ?_
  refine lv_iload_n hx hb dX7_become_4 rfl (lv_at hl 1 rfl) ?_
  refine lv_iload_n hx hb dX7_become_5 rfl (lv_at hl 2 rfl) ?_
  obtain ⟨hi6, hE⟩ := x_chk hE
  refine x_iast (n := 6) hB hz kdM_9 hi6 dX7_become_6 (fun H locs hz => ?_)
  refine lv_aload_n hx hb dX7_become_7 rfl (lv_at hl 0 rfl) ?_
  refine g_X7_37 hB hz kdM_0 dX7_become_8 ?_
  refine lv_iload_n hx hb dX7_become_11 rfl (lv_at hl 1 rfl) ?_
  refine lv_iload_n hx hb dX7_become_12 rfl (lv_at hl 3 rfl) ?_
  obtain ⟨hi13, hE⟩ := x_chk hE
  refine x_iast (n := 6) hB hz kdM_10 hi13 dX7_become_13 (fun H locs hz => ?_)
  exact x_vret hB hz hE dX7_become_14
theorem c_X7_become (l : Launch) (g : GP) {x1 : Int32} {x2 : Int32} {x3 : Int32} {V : Mem} {o : Mem} (hE : f_X7_become x1 x2 x3 V = some o) : CT l g LM yX7_become cX7_become 4 none rm_X7_become [.ref (ad g 0), .int x1, .int x2, .int x3] V none o := by
  refine ct_of (by decide) (Nat.le_of_ble_eq_true rfl) ?_
  intro p e s m args below meth c ls hB hz hl
  exact w_X7_become hB _ _ _ _ _ _ _  hE hz hl
def rm_X7_passes : Room := { frames := 1, cells := 0, slots := 0, locals := 23 }
theorem i_X7_169 {p : Program} {l : Launch} {e : Env} {R : Room} {s : State} {m : MethodId} {args : Array Value} {below : List Frame} {meth : Method} {c : Code} {H : Heap} {locs : List Loc} {Q : State → Prop} {cc : ByteArray} {pc : Nat} {ls : Array Slot} {rest : List Value} {g : GP} {V : Mem} {nL : Nat} {ret : Option FieldType} (hB : BX p s m args meth c g LM cc nL RX7 ret) (hz : OK g LM V s H locs) {i : Nat} (hk : KD LM i 6) {a0 : Int32} {a1 : Int32} {a2 : Int32} {V1 : Mem} (hM : CT l g LM yX7_become cX7_become 4 none rm_X7_become [.ref (ad g i), .int a0, .int a1, .int a2] V none V1) (hR : rm_X7_become.frames + 1 ≤ R.frames ∧ 8 + (4 + 11) + rm_X7_become.locals ≤ R.locals) (hsz : ls.size = nL) (hrest : (rest.map fun v => v.category).sum ≤ 8) (hdg : decode cc pc = .ok (.invokevirtual 169, 3)) (kk : ∀ (H1 : Heap) (locs1 : List Loc), OK g LM V1 s H1 locs1 → W p l e R s m args below meth c H1 locs1 0 0 Q (F0 m (pc + 3) ls (rest))) : W p l e R s m args below meth c H locs 0 0 Q (F0 m pc ls (.int a2 :: .int a1 :: .int a0 :: .ref (ad g i) :: rest)) :=
  x_cv (As := [.int a0, .int a1, .int a2]) (n := 3) (T := TX7) (N := 30) hB hz hM hk rfl rfl rfl rfl kw_976 kw_68 kw_973 kw_975 kw_38 (by decide +kernel) rfl hR hsz hrest hdg kk
set_option maxHeartbeats 4000000 in
set_option maxRecDepth 100000 in
theorem w_X7_passes_152 {p : Program} {l : Launch} {e : Env} {s : State} {m : MethodId} {args : Array Value} {below : List Frame} {meth : Method} {c : Code} {g : GP} (hB : BX p s m args meth c g LM cX7_passes 6 RX7 none) {o : Mem} : ∀ (n : Nat), ∀ (x5 : Int32) (V : Mem) (H : Heap) (locs : List Loc) (ls : Array Slot), f_X7_passes_152 n x5 V = some o → OK g LM V s H locs → lv_has ls 6 [(0, .ref (ad g 0)), (5, .int x5)] → W p l e rm_X7_passes s m args below meth c H locs 0 0 (MQ below (QQ g LM none o) args s 0 0 (Ar g LM)) (F0 m 152 ls []) := by
  obtain ⟨hx, hb, hml, hown, hT, hr, hlk, hK, hJ, hZ, hN⟩ := id hB
  intro n
  induction n with
  | zero =>
    intro x5 V H locs ls hE hz hl
    exact absurd (show (none : Option (Mem)) = some o from hE) (by simp)
  | succ n ih =>
    intro x5 V H locs ls hE hz hl
    unfold f_X7_passes_152 at hE
    refine lv_iload hx hb dX7_passes_152 (lv_at hl 1 rfl) ?_
    refine lv_iconst (v := (3 : Int32)) hx hb dX7_passes_154 (by decide) ?_
    refine lv_icmp_ge (tgt := 172) hx hb dX7_passes_155 (by decide) (fun c155 => ?_) (fun c155 => ?_)
    · have hE := (if_pos c155).symm.trans hE
      exact x_vret hB hz hE dX7_passes_172
    · have hE := (if_neg c155).symm.trans hE
      refine lv_aload_n hx hb dX7_passes_158 rfl (lv_at hl 0 rfl) ?_
      refine lv_iload hx hb dX7_passes_159 (lv_at hl 1 rfl) ?_
      refine lv_iconst (v := (-1 : Int32)) hx hb dX7_passes_161 (by decide) ?_
      refine lv_iconst (v := (0 : Int32)) hx hb dX7_passes_162 (by decide) ?_
      obtain ⟨q163, hq163, hE⟩ := x_bind hE
      refine i_X7_169 hB hz kdM_0 (c_X7_become l g  hq163) ⟨(Nat.le_of_ble_eq_true rfl), (Nat.le_of_ble_eq_true rfl)⟩ hl.1 (Nat.le_of_ble_eq_true rfl) dX7_passes_163 (fun H locs hz => ?_)
      refine lv_iinc (v := (x5 + 1)) (lv' := [(5, .int (x5 + 1)), (0, .ref (ad g 0))]) hx hb dX7_passes_166 hl (k := 1) rfl rfl (by decide) rfl (fun ls hl => ?_)
      refine lv_goto (tgt := 152) hx hb dX7_passes_169 (by decide) ?_
      exact ih _ _ _ _ _  hE hz (lv_sub hl [1, 0] rfl)

set_option maxHeartbeats 4000000 in
set_option maxRecDepth 100000 in
theorem w_X7_passes_146 {p : Program} {l : Launch} {e : Env} {s : State} {m : MethodId} {args : Array Value} {below : List Frame} {meth : Method} {c : Code} {g : GP} (hB : BX p s m args meth c g LM cX7_passes 6 RX7 none) {o : Mem} : ∀ (x4 : Int32) (V : Mem) (H : Heap) (locs : List Loc) (ls : Array Slot), f_X7_passes_146 x4 V = some o → OK g LM V s H locs → lv_has ls 6 [(0, .ref (ad g 0)), (4, .int x4)] → W p l e rm_X7_passes s m args below meth c H locs 0 0 (MQ below (QQ g LM none o) args s 0 0 (Ar g LM)) (F0 m 146 ls []) := by
  obtain ⟨hx, hb, hml, hown, hT, hr, hlk, hK, hJ, hZ, hN⟩ := id hB
  intro x4 V H locs ls hE hz hl
  unfold f_X7_passes_146 at hE
  refine lv_iload hx hb dX7_passes_146 (lv_at hl 1 rfl) ?_
  refine lv_iconst (v := (1 : Int32)) hx hb dX7_passes_148 (by decide) ?_
  refine lv_iadd hx hb dX7_passes_149 ?_
  refine lv_istore (lv' := [(5, .int (x4 + (1 : Int32))), (0, .ref (ad g 0)), (4, .int x4)]) hx hb dX7_passes_150 hl (by decide) rfl (fun ls hl => ?_)
  exact w_X7_passes_152 hB  _ _ _ _ _ _  hE hz (lv_sub hl [1, 0] rfl)

set_option maxHeartbeats 4000000 in
set_option maxRecDepth 100000 in
theorem w_X7_passes_109 {p : Program} {l : Launch} {e : Env} {s : State} {m : MethodId} {args : Array Value} {below : List Frame} {meth : Method} {c : Code} {g : GP} (hB : BX p s m args meth c g LM cX7_passes 6 RX7 none) {o : Mem} : ∀ (r1 : Nat) (x2 : Int32) (x3 : Int32) (x4 : Int32) (V : Mem) (H : Heap) (locs : List Loc) (ls : Array Slot), KD LM r1 92 → f_X7_passes_109 r1 x2 x3 x4 V = some o → OK g LM V s H locs → lv_has ls 6 [(0, .ref (ad g 0)), (1, .ref (ad g r1)), (2, .int x2), (3, .int x3), (4, .int x4)] → W p l e rm_X7_passes s m args below meth c H locs 0 0 (MQ below (QQ g LM none o) args s 0 0 (Ar g LM)) (F0 m 109 ls []) := by
  obtain ⟨hx, hb, hml, hown, hT, hr, hlk, hK, hJ, hZ, hN⟩ := id hB
  intro r1 x2 x3 x4 V H locs ls k_r1 hE hz hl
  unfold f_X7_passes_109 at hE
  refine lv_iload_n hx hb dX7_passes_109 rfl (lv_at hl 3 rfl) ?_
  refine lv_iconst (v := (4 : Int32)) hx hb dX7_passes_110 (by decide) ?_
  refine lv_icmp_ge (tgt := 172) hx hb dX7_passes_111 (by decide) (fun c111 => ?_) (fun c111 => ?_)
  · have hE := (if_pos c111).symm.trans hE
    exact x_vret hB hz hE dX7_passes_172
  · have hE := (if_neg c111).symm.trans hE
    refine lv_iload_n hx hb dX7_passes_114 rfl (lv_at hl 3 rfl) ?_
    refine lv_iconst (v := (2 : Int32)) hx hb dX7_passes_115 (by decide) ?_
    refine lv_icmp_ne (tgt := 135) hx hb dX7_passes_116 (by decide) (fun c116 => ?_) (fun c116 => ?_)
    · have hE := (if_neg c116).symm.trans hE
      refine lv_aload_n hx hb dX7_passes_135 rfl (lv_at hl 0 rfl) ?_
      refine g_X7_37 hB hz kdM_0 dX7_passes_136 ?_
      refine lv_iload hx hb dX7_passes_139 (lv_at hl 4 rfl) ?_
      refine lv_dup2_11 hx hb dX7_passes_141 rfl rfl ?_
      obtain ⟨hi142, hE⟩ := x_chk hE
      refine x_iald (n := 6) hB hz kdM_10 hi142 dX7_passes_142 ?_
      refine lv_iconst (v := (1 : Int32)) hx hb dX7_passes_143 (by decide) ?_
      refine lv_iadd hx hb dX7_passes_144 ?_
      obtain ⟨hi145, hE⟩ := x_chk hE
      refine x_iast (n := 6) hB hz kdM_10 hi145 dX7_passes_145 (fun H locs hz => ?_)
      exact w_X7_passes_146 hB  _ _ _ _ _  hE hz (lv_sub hl [0, 4] rfl)
    · have hE := (if_pos c116).symm.trans hE
      refine lv_aload_n hx hb dX7_passes_119 rfl (lv_at hl 0 rfl) ?_
      refine lv_iload hx hb dX7_passes_120 (lv_at hl 4 rfl) ?_
      refine lv_iconst (v := (-1 : Int32)) hx hb dX7_passes_122 (by decide) ?_
      refine lv_aload_n hx hb dX7_passes_123 rfl (lv_at hl 1 rfl) ?_
      refine lv_iload_n hx hb dX7_passes_124 rfl (lv_at hl 2 rfl) ?_
      refine lv_iconst (v := (2 : Int32)) hx hb dX7_passes_125 (by decide) ?_
      obtain ⟨q126, hq126, hE⟩ := x_bind hE
      refine i_X7_165 hB hz (c_X7_of l g k_r1 hq126) ⟨(Nat.le_of_ble_eq_true rfl), (Nat.le_of_ble_eq_true rfl)⟩ hl.1 (Nat.le_of_ble_eq_true rfl) dX7_passes_126 (fun H locs hz => ?_)
      obtain ⟨q129, hq129, hE⟩ := x_bind hE
      refine i_X7_169 hB hz kdM_0 (c_X7_become l g  hq129) ⟨(Nat.le_of_ble_eq_true rfl), (Nat.le_of_ble_eq_true rfl)⟩ hl.1 (Nat.le_of_ble_eq_true rfl) dX7_passes_129 (fun H locs hz => ?_)
      refine lv_goto (tgt := 146) hx hb dX7_passes_132 (by decide) ?_
      exact w_X7_passes_146 hB  _ _ _ _ _  hE hz (lv_sub hl [0, 4] rfl)

set_option maxHeartbeats 4000000 in
set_option maxRecDepth 100000 in
theorem w_X7_passes_73 {p : Program} {l : Launch} {e : Env} {s : State} {m : MethodId} {args : Array Value} {below : List Frame} {meth : Method} {c : Code} {g : GP} (hB : BX p s m args meth c g LM cX7_passes 6 RX7 none) {o : Mem} : ∀ (n : Nat), ∀ (r1 : Nat) (x2 : Int32) (x3 : Int32) (x4 : Int32) (x5 : Int32) (V : Mem) (H : Heap) (locs : List Loc) (ls : Array Slot), KD LM r1 92 → f_X7_passes_73 n r1 x2 x3 x4 x5 V = some o → OK g LM V s H locs → lv_has ls 6 [(0, .ref (ad g 0)), (1, .ref (ad g r1)), (2, .int x2), (3, .int x3), (4, .int x4), (5, .int x5)] → W p l e rm_X7_passes s m args below meth c H locs 0 0 (MQ below (QQ g LM none o) args s 0 0 (Ar g LM)) (F0 m 73 ls []) := by
  obtain ⟨hx, hb, hml, hown, hT, hr, hlk, hK, hJ, hZ, hN⟩ := id hB
  intro n
  induction n with
  | zero =>
    intro r1 x2 x3 x4 x5 V H locs ls k_r1 hE hz hl
    exact absurd (show (none : Option (Mem)) = some o from hE) (by simp)
  | succ n ih =>
    intro r1 x2 x3 x4 x5 V H locs ls k_r1 hE hz hl
    unfold f_X7_passes_73 at hE
    refine lv_iload hx hb dX7_passes_73 (lv_at hl 5 rfl) ?_
    refine lv_iconst (v := (3 : Int32)) hx hb dX7_passes_75 (by decide) ?_
    refine lv_icmp_ge (tgt := 109) hx hb dX7_passes_76 (by decide) (fun c76 => ?_) (fun c76 => ?_)
    · have hE := (if_pos c76).symm.trans hE
      exact w_X7_passes_109 hB  _ _ _ _ _ _ _ _ k_r1 hE hz (lv_sub hl [0, 1, 2, 3, 4] rfl)
    · have hE := (if_neg c76).symm.trans hE
      refine lv_aload_n hx hb dX7_passes_79 rfl (lv_at hl 0 rfl) ?_
      refine lv_iload hx hb dX7_passes_80 (lv_at hl 5 rfl) ?_
      refine lv_aload_n hx hb dX7_passes_82 rfl (lv_at hl 0 rfl) ?_
      refine g_X7_34 hB hz kdM_0 dX7_passes_83 ?_
      refine lv_iconst (v := (3 : Int32)) hx hb dX7_passes_86 (by decide) ?_
      refine lv_iload hx hb dX7_passes_87 (lv_at hl 5 rfl) ?_
      refine lv_iadd hx hb dX7_passes_89 ?_
      obtain ⟨hi90, hE⟩ := x_chk hE
      refine x_iald (n := 6) hB hz kdM_9 hi90 dX7_passes_90 ?_
      refine lv_aload_n hx hb dX7_passes_91 rfl (lv_at hl 0 rfl) ?_
      refine g_X7_37 hB hz kdM_0 dX7_passes_92 ?_
      refine lv_iconst (v := (3 : Int32)) hx hb dX7_passes_95 (by decide) ?_
      refine lv_iload hx hb dX7_passes_96 (lv_at hl 5 rfl) ?_
      refine lv_iadd hx hb dX7_passes_98 ?_
      obtain ⟨hi99, hE⟩ := x_chk hE
      refine x_iald (n := 6) hB hz kdM_10 hi99 dX7_passes_99 ?_
      obtain ⟨q100, hq100, hE⟩ := x_bind hE
      refine i_X7_169 hB hz kdM_0 (c_X7_become l g  hq100) ⟨(Nat.le_of_ble_eq_true rfl), (Nat.le_of_ble_eq_true rfl)⟩ hl.1 (Nat.le_of_ble_eq_true rfl) dX7_passes_100 (fun H locs hz => ?_)
      refine lv_iinc (v := (x5 + 1)) (lv' := [(5, .int (x5 + 1)), (0, .ref (ad g 0)), (1, .ref (ad g r1)), (2, .int x2), (3, .int x3), (4, .int x4)]) hx hb dX7_passes_103 hl (k := 5) rfl rfl (by decide) rfl (fun ls hl => ?_)
      refine lv_goto (tgt := 73) hx hb dX7_passes_106 (by decide) ?_
      exact ih _ _ _ _ _ _ _ _ _ k_r1 hE hz (lv_sub hl [1, 2, 3, 4, 5, 0] rfl)

set_option maxHeartbeats 4000000 in
set_option maxRecDepth 100000 in
theorem w_X7_passes_65 {p : Program} {l : Launch} {e : Env} {s : State} {m : MethodId} {args : Array Value} {below : List Frame} {meth : Method} {c : Code} {g : GP} (hB : BX p s m args meth c g LM cX7_passes 6 RX7 none) {o : Mem} : ∀ (r1 : Nat) (x2 : Int32) (x3 : Int32) (x4 : Int32) (V : Mem) (H : Heap) (locs : List Loc) (ls : Array Slot), KD LM r1 92 → f_X7_passes_65 r1 x2 x3 x4 V = some o → OK g LM V s H locs → lv_has ls 6 [(0, .ref (ad g 0)), (1, .ref (ad g r1)), (2, .int x2), (3, .int x3), (4, .int x4)] → W p l e rm_X7_passes s m args below meth c H locs 0 0 (MQ below (QQ g LM none o) args s 0 0 (Ar g LM)) (F0 m 65 ls []) := by
  obtain ⟨hx, hb, hml, hown, hT, hr, hlk, hK, hJ, hZ, hN⟩ := id hB
  intro r1 x2 x3 x4 V H locs ls k_r1 hE hz hl
  unfold f_X7_passes_65 at hE
  refine lv_iload_n hx hb dX7_passes_65 rfl (lv_at hl 3 rfl) ?_
  refine lv_iconst (v := (3 : Int32)) hx hb dX7_passes_66 (by decide) ?_
  refine lv_icmp_ne (tgt := 109) hx hb dX7_passes_67 (by decide) (fun c67 => ?_) (fun c67 => ?_)
  · have hE := (if_neg c67).symm.trans hE
    exact w_X7_passes_109 hB  _ _ _ _ _ _ _ _ k_r1 hE hz (lv_sub hl [0, 1, 2, 3, 4] rfl)
  · have hE := (if_pos c67).symm.trans hE
    refine lv_iconst (v := (0 : Int32)) hx hb dX7_passes_70 (by decide) ?_
    refine lv_istore (lv' := [(5, .int (0 : Int32)), (0, .ref (ad g 0)), (1, .ref (ad g r1)), (2, .int x2), (3, .int x3), (4, .int x4)]) hx hb dX7_passes_71 hl (by decide) rfl (fun ls hl => ?_)
    exact w_X7_passes_73 hB  _ _ _ _ _ _ _ _ _ _ k_r1 hE hz (lv_sub hl [1, 2, 3, 4, 5, 0] rfl)

set_option maxHeartbeats 4000000 in
set_option maxRecDepth 100000 in
theorem w_X7_passes_23 {p : Program} {l : Launch} {e : Env} {s : State} {m : MethodId} {args : Array Value} {below : List Frame} {meth : Method} {c : Code} {g : GP} (hB : BX p s m args meth c g LM cX7_passes 6 RX7 none) {o : Mem} : ∀ (n : Nat), ∀ (r1 : Nat) (x2 : Int32) (x3 : Int32) (x4 : Int32) (x5 : Int32) (V : Mem) (H : Heap) (locs : List Loc) (ls : Array Slot), KD LM r1 92 → f_X7_passes_23 n r1 x2 x3 x4 x5 V = some o → OK g LM V s H locs → lv_has ls 6 [(0, .ref (ad g 0)), (1, .ref (ad g r1)), (2, .int x2), (3, .int x3), (4, .int x4), (5, .int x5)] → W p l e rm_X7_passes s m args below meth c H locs 0 0 (MQ below (QQ g LM none o) args s 0 0 (Ar g LM)) (F0 m 23 ls []) := by
  obtain ⟨hx, hb, hml, hown, hT, hr, hlk, hK, hJ, hZ, hN⟩ := id hB
  intro n
  induction n with
  | zero =>
    intro r1 x2 x3 x4 x5 V H locs ls k_r1 hE hz hl
    exact absurd (show (none : Option (Mem)) = some o from hE) (by simp)
  | succ n ih =>
    intro r1 x2 x3 x4 x5 V H locs ls k_r1 hE hz hl
    unfold f_X7_passes_23 at hE
    refine lv_iload hx hb dX7_passes_23 (lv_at hl 5 rfl) ?_
    refine lv_iconst (v := (3 : Int32)) hx hb dX7_passes_25 (by decide) ?_
    refine lv_icmp_ge (tgt := 65) hx hb dX7_passes_26 (by decide) (fun c26 => ?_) (fun c26 => ?_)
    · have hE := (if_pos c26).symm.trans hE
      exact w_X7_passes_65 hB  _ _ _ _ _ _ _ _ k_r1 hE hz (lv_sub hl [0, 1, 2, 3, 4] rfl)
    · have hE := (if_neg c26).symm.trans hE
      refine lv_aload_n hx hb dX7_passes_29 rfl (lv_at hl 0 rfl) ?_
      refine lv_iconst (v := (3 : Int32)) hx hb dX7_passes_30 (by decide) ?_
      refine lv_iload hx hb dX7_passes_31 (lv_at hl 5 rfl) ?_
      refine lv_iadd hx hb dX7_passes_33 ?_
      refine lv_aload_n hx hb dX7_passes_34 rfl (lv_at hl 0 rfl) ?_
      refine g_X7_34 hB hz kdM_0 dX7_passes_35 ?_
      refine lv_iload hx hb dX7_passes_38 (lv_at hl 5 rfl) ?_
      obtain ⟨hi40, hE⟩ := x_chk hE
      refine x_iald (n := 6) hB hz kdM_9 hi40 dX7_passes_40 ?_
      refine lv_aload_n hx hb dX7_passes_41 rfl (lv_at hl 0 rfl) ?_
      refine g_X7_37 hB hz kdM_0 dX7_passes_42 ?_
      refine lv_iload hx hb dX7_passes_45 (lv_at hl 5 rfl) ?_
      obtain ⟨hi47, hE⟩ := x_chk hE
      refine x_iald (n := 6) hB hz kdM_10 hi47 dX7_passes_47 ?_
      obtain ⟨q48, hq48, hE⟩ := x_bind hE
      refine i_X7_169 hB hz kdM_0 (c_X7_become l g  hq48) ⟨(Nat.le_of_ble_eq_true rfl), (Nat.le_of_ble_eq_true rfl)⟩ hl.1 (Nat.le_of_ble_eq_true rfl) dX7_passes_48 (fun H locs hz => ?_)
      refine lv_aload_n hx hb dX7_passes_51 rfl (lv_at hl 0 rfl) ?_
      refine lv_iload hx hb dX7_passes_52 (lv_at hl 5 rfl) ?_
      refine lv_iconst (v := (-1 : Int32)) hx hb dX7_passes_54 (by decide) ?_
      refine lv_iconst (v := (0 : Int32)) hx hb dX7_passes_55 (by decide) ?_
      obtain ⟨q56, hq56, hE⟩ := x_bind hE
      refine i_X7_169 hB hz kdM_0 (c_X7_become l g  hq56) ⟨(Nat.le_of_ble_eq_true rfl), (Nat.le_of_ble_eq_true rfl)⟩ hl.1 (Nat.le_of_ble_eq_true rfl) dX7_passes_56 (fun H locs hz => ?_)
      refine lv_iinc (v := (x5 + 1)) (lv' := [(5, .int (x5 + 1)), (0, .ref (ad g 0)), (1, .ref (ad g r1)), (2, .int x2), (3, .int x3), (4, .int x4)]) hx hb dX7_passes_59 hl (k := 5) rfl rfl (by decide) rfl (fun ls hl => ?_)
      refine lv_goto (tgt := 23) hx hb dX7_passes_62 (by decide) ?_
      exact ih _ _ _ _ _ _ _ _ _ k_r1 hE hz (lv_sub hl [1, 2, 3, 4, 5, 0] rfl)

set_option maxHeartbeats 4000000 in
set_option maxRecDepth 100000 in
theorem w_X7_passes {p : Program} {l : Launch} {e : Env} {s : State} {m : MethodId} {args : Array Value} {below : List Frame} {meth : Method} {c : Code} {g : GP} (hB : BX p s m args meth c g LM cX7_passes 6 RX7 none) {o : Mem} : ∀ (r1 : Nat) (x2 : Int32) (V : Mem) (H : Heap) (locs : List Loc) (ls : Array Slot), KD LM r1 92 → f_X7_passes r1 x2 V = some o → OK g LM V s H locs → lv_has ls 6 [(0, .ref (ad g 0)), (1, .ref (ad g r1)), (2, .int x2)] → W p l e rm_X7_passes s m args below meth c H locs 0 0 (MQ below (QQ g LM none o) args s 0 0 (Ar g LM)) (F0 m 0 ls []) := by
  obtain ⟨hx, hb, hml, hown, hT, hr, hlk, hK, hJ, hZ, hN⟩ := id hB
  intro r1 x2 V H locs ls k_r1 hE hz hl
  unfold f_X7_passes at hE
  refine lv_aload_n hx hb dX7_passes_0 rfl (lv_at hl 1 rfl) ?_
  refine lv_iload_n hx hb dX7_passes_1 rfl (lv_at hl 2 rfl) ?_
  refine lv_iconst (v := (0 : Int32)) hx hb dX7_passes_2 (by decide) ?_
  obtain ⟨q3, hq3, hE⟩ := x_bind hE
  refine i_X7_165 hB hz (c_X7_of l g k_r1 hq3) ⟨(Nat.le_of_ble_eq_true rfl), (Nat.le_of_ble_eq_true rfl)⟩ hl.1 (Nat.le_of_ble_eq_true rfl) dX7_passes_3 (fun H locs hz => ?_)
  refine lv_istore_n (lv' := [(3, .int q3.1), (0, .ref (ad g 0)), (1, .ref (ad g r1)), (2, .int x2)]) hx hb dX7_passes_6 rfl hl (by decide) rfl (fun ls hl => ?_)
  refine lv_aload_n hx hb dX7_passes_7 rfl (lv_at hl 2 rfl) ?_
  refine lv_iload_n hx hb dX7_passes_8 rfl (lv_at hl 3 rfl) ?_
  refine lv_iconst (v := (1 : Int32)) hx hb dX7_passes_9 (by decide) ?_
  obtain ⟨q10, hq10, hE⟩ := x_bind hE
  refine i_X7_165 hB hz (c_X7_of l g k_r1 hq10) ⟨(Nat.le_of_ble_eq_true rfl), (Nat.le_of_ble_eq_true rfl)⟩ hl.1 (Nat.le_of_ble_eq_true rfl) dX7_passes_10 (fun H locs hz => ?_)
  refine lv_istore (lv' := [(4, .int q10.1), (3, .int q3.1), (0, .ref (ad g 0)), (1, .ref (ad g r1)), (2, .int x2)]) hx hb dX7_passes_13 hl (by decide) rfl (fun ls hl => ?_)
  refine lv_iload_n hx hb dX7_passes_15 rfl (lv_at hl 1 rfl) ?_
  refine lv_iconst (v := (5 : Int32)) hx hb dX7_passes_16 (by decide) ?_
  refine lv_icmp_ne (tgt := 65) hx hb dX7_passes_17 (by decide) (fun c17 => ?_) (fun c17 => ?_)
  · have hE := (if_neg c17).symm.trans hE
    exact w_X7_passes_65 hB  _ _ _ _ _ _ _ _ k_r1 hE hz (lv_sub hl [2, 3, 4, 1, 0] rfl)
  · have hE := (if_pos c17).symm.trans hE
    refine lv_iconst (v := (0 : Int32)) hx hb dX7_passes_20 (by decide) ?_
    refine lv_istore (lv' := [(5, .int (0 : Int32)), (4, .int q10.1), (3, .int q3.1), (0, .ref (ad g 0)), (1, .ref (ad g r1)), (2, .int x2)]) hx hb dX7_passes_21 hl (by decide) rfl (fun ls hl => ?_)
    exact w_X7_passes_23 hB  _ _ _ _ _ _ _ _ _ _ k_r1 hE hz (lv_sub hl [3, 4, 5, 2, 1, 0] rfl)
theorem c_X7_passes (l : Launch) (g : GP) {r1 : Nat} (k_r1 : KD LM r1 92) {x2 : Int32} {V : Mem} {o : Mem} (hE : f_X7_passes r1 x2 V = some o) : CT l g LM yX7_passes cX7_passes 6 none rm_X7_passes [.ref (ad g 0), .ref (ad g r1), .int x2] V none o := by
  refine ct_of (by decide) (Nat.le_of_ble_eq_true rfl) ?_
  intro p e s m args below meth c ls hB hz hl
  exact w_X7_passes hB _ _ _ _ _ _ k_r1 hE hz hl
def rm_X7_countAll : Room := { frames := 2, cells := 0, slots := 0, locals := 48 }
theorem i_X7_173 {p : Program} {l : Launch} {e : Env} {R : Room} {s : State} {m : MethodId} {args : Array Value} {below : List Frame} {meth : Method} {c : Code} {H : Heap} {locs : List Loc} {Q : State → Prop} {cc : ByteArray} {pc : Nat} {ls : Array Slot} {rest : List Value} {g : GP} {V : Mem} {nL : Nat} {ret : Option FieldType} (hB : BX p s m args meth c g LM cc nL RX7 ret) (hz : OK g LM V s H locs) {i : Nat} (hk : KD LM i 6) {a0 : Nat} {a1 : Int32} {V1 : Mem} (hM : CT l g LM yX7_passes cX7_passes 6 none rm_X7_passes [.ref (ad g i), .ref (ad g a0), .int a1] V none V1) (hR : rm_X7_passes.frames + 1 ≤ R.frames ∧ 8 + (6 + 11) + rm_X7_passes.locals ≤ R.locals) (hsz : ls.size = nL) (hrest : (rest.map fun v => v.category).sum ≤ 8) (hdg : decode cc pc = .ok (.invokevirtual 173, 3)) (kk : ∀ (H1 : Heap) (locs1 : List Loc), OK g LM V1 s H1 locs1 → W p l e R s m args below meth c H1 locs1 0 0 Q (F0 m (pc + 3) ls (rest))) : W p l e R s m args below meth c H locs 0 0 Q (F0 m pc ls (.int a1 :: .ref (ad g a0) :: .ref (ad g i) :: rest)) :=
  x_cv (As := [.ref (ad g a0), .int a1]) (n := 2) (T := TX7) (N := 30) hB hz hM hk rfl rfl rfl rfl kw_980 kw_68 kw_977 kw_979 kw_39 (by decide +kernel) rfl hR hsz hrest hdg kk
set_option maxHeartbeats 4000000 in
set_option maxRecDepth 100000 in
theorem w_X7_countAll_38 {p : Program} {l : Launch} {e : Env} {s : State} {m : MethodId} {args : Array Value} {below : List Frame} {meth : Method} {c : Code} {g : GP} (hB : BX p s m args meth c g LM cX7_countAll 4 RX7 none) {o : Mem} {k23 : Nat → Int32 → Mem → Option (Mem)} (hk23 : ∀ (r1 : Nat) (x2 : Int32) (V : Mem) (H : Heap) (locs : List Loc) (ls : Array Slot), KD LM r1 92 → k23 r1 x2 V = some o → OK g LM V s H locs → lv_has ls 4 [(0, .ref (ad g 0)), (1, .ref (ad g r1)), (2, .int x2)] → W p l e rm_X7_countAll s m args below meth c H locs 0 0 (MQ below (QQ g LM none o) args s 0 0 (Ar g LM)) (F0 m 23 ls [])) : ∀ (n : Nat), ∀ (r1 : Nat) (x2 : Int32) (x3 : Int32) (V : Mem) (H : Heap) (locs : List Loc) (ls : Array Slot), KD LM r1 92 → f_X7_countAll_38 k23 n r1 x2 x3 V = some o → OK g LM V s H locs → lv_has ls 4 [(0, .ref (ad g 0)), (1, .ref (ad g r1)), (2, .int x2), (3, .int x3)] → W p l e rm_X7_countAll s m args below meth c H locs 0 0 (MQ below (QQ g LM none o) args s 0 0 (Ar g LM)) (F0 m 38 ls []) := by
  obtain ⟨hx, hb, hml, hown, hT, hr, hlk, hK, hJ, hZ, hN⟩ := id hB
  intro n
  induction n with
  | zero =>
    intro r1 x2 x3 V H locs ls k_r1 hE hz hl
    exact absurd (show (none : Option (Mem)) = some o from hE) (by simp)
  | succ n ih =>
    intro r1 x2 x3 V H locs ls k_r1 hE hz hl
    unfold f_X7_countAll_38 at hE
    refine lv_iload_n hx hb dX7_countAll_38 rfl (lv_at hl 3 rfl) ?_
    refine lv_iconst (v := (3 : Int32)) hx hb dX7_countAll_39 (by decide) ?_
    refine lv_icmp_ge (tgt := 65) hx hb dX7_countAll_40 (by decide) (fun c40 => ?_) (fun c40 => ?_)
    · have hE := (if_pos c40).symm.trans hE
      refine lv_iinc (v := (x2 + 1)) (lv' := [(2, .int (x2 + 1)), (0, .ref (ad g 0)), (1, .ref (ad g r1)), (3, .int x3)]) hx hb dX7_countAll_65 hl (k := 2) rfl rfl (by decide) rfl (fun ls hl => ?_)
      refine lv_goto (tgt := 23) hx hb dX7_countAll_68 (by decide) ?_
      exact hk23 _ _ _ _ _ _ k_r1 hE hz (lv_sub hl [1, 2, 0] rfl)
    · have hE := (if_neg c40).symm.trans hE
      refine lv_aload_n hx hb dX7_countAll_43 rfl (lv_at hl 0 rfl) ?_
      refine g_X7_40 hB hz kdM_0 dX7_countAll_44 ?_
      refine lv_iconst (v := (3 : Int32)) hx hb dX7_countAll_47 (by decide) ?_
      refine lv_iload_n hx hb dX7_countAll_48 rfl (lv_at hl 2 rfl) ?_
      refine lv_imul hx hb dX7_countAll_49 ?_
      refine lv_iload_n hx hb dX7_countAll_50 rfl (lv_at hl 3 rfl) ?_
      refine lv_iadd hx hb dX7_countAll_51 ?_
      refine lv_aload_n hx hb dX7_countAll_52 rfl (lv_at hl 0 rfl) ?_
      refine g_X7_37 hB hz kdM_0 dX7_countAll_53 ?_
      refine lv_iload_n hx hb dX7_countAll_56 rfl (lv_at hl 3 rfl) ?_
      obtain ⟨hi57, hE⟩ := x_chk hE
      refine x_iald (n := 6) hB hz kdM_10 hi57 dX7_countAll_57 ?_
      obtain ⟨hi58, hE⟩ := x_chk hE
      refine x_iast (n := 72) hB hz kdM_11 hi58 dX7_countAll_58 (fun H locs hz => ?_)
      refine lv_iinc (v := (x3 + 1)) (lv' := [(3, .int (x3 + 1)), (0, .ref (ad g 0)), (1, .ref (ad g r1)), (2, .int x2)]) hx hb dX7_countAll_59 hl (k := 3) rfl rfl (by decide) rfl (fun ls hl => ?_)
      refine lv_goto (tgt := 38) hx hb dX7_countAll_62 (by decide) ?_
      exact ih _ _ _ _ _ _ _ k_r1 hE hz (lv_sub hl [1, 2, 3, 0] rfl)

set_option maxHeartbeats 4000000 in
set_option maxRecDepth 100000 in
theorem w_X7_countAll_23 {p : Program} {l : Launch} {e : Env} {s : State} {m : MethodId} {args : Array Value} {below : List Frame} {meth : Method} {c : Code} {g : GP} (hB : BX p s m args meth c g LM cX7_countAll 4 RX7 none) {o : Mem} : ∀ (n : Nat), ∀ (r1 : Nat) (x2 : Int32) (V : Mem) (H : Heap) (locs : List Loc) (ls : Array Slot), KD LM r1 92 → f_X7_countAll_23 n r1 x2 V = some o → OK g LM V s H locs → lv_has ls 4 [(0, .ref (ad g 0)), (1, .ref (ad g r1)), (2, .int x2)] → W p l e rm_X7_countAll s m args below meth c H locs 0 0 (MQ below (QQ g LM none o) args s 0 0 (Ar g LM)) (F0 m 23 ls []) := by
  obtain ⟨hx, hb, hml, hown, hT, hr, hlk, hK, hJ, hZ, hN⟩ := id hB
  intro n
  induction n with
  | zero =>
    intro r1 x2 V H locs ls k_r1 hE hz hl
    exact absurd (show (none : Option (Mem)) = some o from hE) (by simp)
  | succ n ih =>
    intro r1 x2 V H locs ls k_r1 hE hz hl
    unfold f_X7_countAll_23 at hE
    refine lv_iload_n hx hb dX7_countAll_23 rfl (lv_at hl 2 rfl) ?_
    refine lv_aload_n hx hb dX7_countAll_24 rfl (lv_at hl 1 rfl) ?_
    refine lv_iconst (v := (0 : Int32)) hx hb dX7_countAll_25 (by decide) ?_
    obtain ⟨hi26, hE⟩ := x_chk hE
    refine x_iald (n := 76) hB hz k_r1 hi26 dX7_countAll_26 ?_
    refine lv_icmp_ge (tgt := 71) hx hb dX7_countAll_27 (by decide) (fun c27 => ?_) (fun c27 => ?_)
    · have hE := (if_pos c27).symm.trans hE
      exact x_vret hB hz hE dX7_countAll_71
    · have hE := (if_neg c27).symm.trans hE
      refine lv_aload_n hx hb dX7_countAll_30 rfl (lv_at hl 0 rfl) ?_
      refine lv_aload_n hx hb dX7_countAll_31 rfl (lv_at hl 1 rfl) ?_
      refine lv_iload_n hx hb dX7_countAll_32 rfl (lv_at hl 2 rfl) ?_
      obtain ⟨q33, hq33, hE⟩ := x_bind hE
      refine i_X7_173 hB hz kdM_0 (c_X7_passes l g k_r1 hq33) ⟨(Nat.le_of_ble_eq_true rfl), (Nat.le_of_ble_eq_true rfl)⟩ hl.1 (Nat.le_of_ble_eq_true rfl) dX7_countAll_33 (fun H locs hz => ?_)
      refine lv_iconst (v := (0 : Int32)) hx hb dX7_countAll_36 (by decide) ?_
      refine lv_istore_n (lv' := [(3, .int (0 : Int32)), (0, .ref (ad g 0)), (1, .ref (ad g r1)), (2, .int x2)]) hx hb dX7_countAll_37 rfl hl (by decide) rfl (fun ls hl => ?_)
      exact w_X7_countAll_38 hB ih _ _ _ _ _ _ _ _ k_r1 hE hz (lv_sub hl [1, 2, 3, 0] rfl)

set_option maxHeartbeats 4000000 in
set_option maxRecDepth 100000 in
theorem w_X7_countAll_2 {p : Program} {l : Launch} {e : Env} {s : State} {m : MethodId} {args : Array Value} {below : List Frame} {meth : Method} {c : Code} {g : GP} (hB : BX p s m args meth c g LM cX7_countAll 4 RX7 none) {o : Mem} : ∀ (n : Nat), ∀ (r1 : Nat) (x2 : Int32) (V : Mem) (H : Heap) (locs : List Loc) (ls : Array Slot), KD LM r1 92 → f_X7_countAll_2 n r1 x2 V = some o → OK g LM V s H locs → lv_has ls 4 [(0, .ref (ad g 0)), (1, .ref (ad g r1)), (2, .int x2)] → W p l e rm_X7_countAll s m args below meth c H locs 0 0 (MQ below (QQ g LM none o) args s 0 0 (Ar g LM)) (F0 m 2 ls []) := by
  obtain ⟨hx, hb, hml, hown, hT, hr, hlk, hK, hJ, hZ, hN⟩ := id hB
  intro n
  induction n with
  | zero =>
    intro r1 x2 V H locs ls k_r1 hE hz hl
    exact absurd (show (none : Option (Mem)) = some o from hE) (by simp)
  | succ n ih =>
    intro r1 x2 V H locs ls k_r1 hE hz hl
    unfold f_X7_countAll_2 at hE
    refine lv_iload_n hx hb dX7_countAll_2 rfl (lv_at hl 2 rfl) ?_
    refine lv_bipush (v := (6 : Int32)) hx hb dX7_countAll_3 (by decide) ?_
    refine lv_icmp_ge (tgt := 21) hx hb dX7_countAll_5 (by decide) (fun c5 => ?_) (fun c5 => ?_)
    · have hE := (if_pos c5).symm.trans hE
      refine lv_iconst (v := (0 : Int32)) hx hb dX7_countAll_21 (by decide) ?_
      refine lv_istore_n (lv' := [(2, .int (0 : Int32)), (0, .ref (ad g 0)), (1, .ref (ad g r1))]) hx hb dX7_countAll_22 rfl hl (by decide) rfl (fun ls hl => ?_)
      exact w_X7_countAll_23 hB  _ _ _ _ _ _ _ k_r1 hE hz (lv_sub hl [1, 2, 0] rfl)
    · have hE := (if_neg c5).symm.trans hE
      refine lv_aload_n hx hb dX7_countAll_8 rfl (lv_at hl 0 rfl) ?_
      refine lv_iload_n hx hb dX7_countAll_9 rfl (lv_at hl 2 rfl) ?_
      refine lv_iconst (v := (-1 : Int32)) hx hb dX7_countAll_10 (by decide) ?_
      refine lv_iconst (v := (0 : Int32)) hx hb dX7_countAll_11 (by decide) ?_
      obtain ⟨q12, hq12, hE⟩ := x_bind hE
      refine i_X7_169 hB hz kdM_0 (c_X7_become l g  hq12) ⟨(Nat.le_of_ble_eq_true rfl), (Nat.le_of_ble_eq_true rfl)⟩ hl.1 (Nat.le_of_ble_eq_true rfl) dX7_countAll_12 (fun H locs hz => ?_)
      refine lv_iinc (v := (x2 + 1)) (lv' := [(2, .int (x2 + 1)), (0, .ref (ad g 0)), (1, .ref (ad g r1))]) hx hb dX7_countAll_15 hl (k := 2) rfl rfl (by decide) rfl (fun ls hl => ?_)
      refine lv_goto (tgt := 2) hx hb dX7_countAll_18 (by decide) ?_
      exact ih _ _ _ _ _ _ k_r1 hE hz (lv_sub hl [1, 2, 0] rfl)

set_option maxHeartbeats 4000000 in
set_option maxRecDepth 100000 in
theorem w_X7_countAll {p : Program} {l : Launch} {e : Env} {s : State} {m : MethodId} {args : Array Value} {below : List Frame} {meth : Method} {c : Code} {g : GP} (hB : BX p s m args meth c g LM cX7_countAll 4 RX7 none) {o : Mem} : ∀ (r1 : Nat) (V : Mem) (H : Heap) (locs : List Loc) (ls : Array Slot), KD LM r1 92 → f_X7_countAll r1 V = some o → OK g LM V s H locs → lv_has ls 4 [(0, .ref (ad g 0)), (1, .ref (ad g r1))] → W p l e rm_X7_countAll s m args below meth c H locs 0 0 (MQ below (QQ g LM none o) args s 0 0 (Ar g LM)) (F0 m 0 ls []) := by
  obtain ⟨hx, hb, hml, hown, hT, hr, hlk, hK, hJ, hZ, hN⟩ := id hB
  intro r1 V H locs ls k_r1 hE hz hl
  unfold f_X7_countAll at hE
  refine lv_iconst (v := (0 : Int32)) hx hb dX7_countAll_0 (by decide) ?_
  refine lv_istore_n (lv' := [(2, .int (0 : Int32)), (0, .ref (ad g 0)), (1, .ref (ad g r1))]) hx hb dX7_countAll_1 rfl hl (by decide) rfl (fun ls hl => ?_)
  exact w_X7_countAll_2 hB  _ _ _ _ _ _ _ k_r1 hE hz (lv_sub hl [1, 2, 0] rfl)
theorem c_X7_countAll (l : Launch) (g : GP) {r1 : Nat} (k_r1 : KD LM r1 92) {V : Mem} {o : Mem} (hE : f_X7_countAll r1 V = some o) : CT l g LM yX7_countAll cX7_countAll 4 none rm_X7_countAll [.ref (ad g 0), .ref (ad g r1)] V none o := by
  refine ct_of (by decide) (Nat.le_of_ble_eq_true rfl) ?_
  intro p e s m args below meth c ls hB hz hl
  exact w_X7_countAll hB _ _ _ _ _ k_r1 hE hz hl

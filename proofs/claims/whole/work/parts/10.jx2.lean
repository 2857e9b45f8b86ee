def rm_J6_bitCount_0f7a4 : Room := { frames := 0, cells := 0, slots := 0, locals := 0 }
set_option maxHeartbeats 4000000 in
set_option maxRecDepth 100000 in
theorem w_J6_bitCount_0f7a4 {p : Program} {l : Launch} {e : Env} {s : State} {m : MethodId} {args : Array Value} {below : List Frame} {meth : Method} {c : Code} {g : GP} (hB : BX p s m args meth c g LX cJ6_bitCount_0f7a4 1 RJ6 (some .int)) {o : Int32 × Mem} : ∀ (x0 : Int32) (V : Mem) (H : Heap) (locs : List Loc) (ls : Array Slot), f_J6_bitCount_0f7a4 x0 V = some o → OK g LX V s H locs → lv_has ls 1 [(0, .int x0)] → W p l e rm_J6_bitCount_0f7a4 s m args below meth c H locs 0 0 (MQ below (QQ g LX (some (.int o.1)) o.2) args s 0 0 (Ar g LX)) (F0 m 0 ls []) := by
  obtain ⟨hx, hb, hml, hown, hT, hr, hlk, hK, hJ, hZ, hN⟩ := id hB
  intro x0 V H locs ls hE hz hl
  unfold f_J6_bitCount_0f7a4 at hE
  refine lv_iload_n hx hb dJ6_bitCount_0f7a4_0 rfl (lv_at hl 0 rfl) ?_
  refine lv_iload_n hx hb dJ6_bitCount_0f7a4_1 rfl (lv_at hl 0 rfl) ?_
  refine lv_iconst (v := (1 : Int32)) hx hb dJ6_bitCount_0f7a4_2 (by decide) ?_
  refine lv_iushr hx hb dJ6_bitCount_0f7a4_3 rfl ?_
  refine lv_ldcw (v := (1431655765 : Int32)) hx hb hown (hT _ kw_626) dJ6_bitCount_0f7a4_4 ?_
  refine lv_iand hx hb dJ6_bitCount_0f7a4_7 ?_
  refine lv_isub hx hb dJ6_bitCount_0f7a4_8 ?_
  refine lv_istore_n (lv' := [(0, .int (x0 - (((x0).toUInt32 >>> (((1 : Int32)).toUInt32 &&& Int32.toUInt32 31)).toInt32 &&& (1431655765 : Int32))))]) hx hb dJ6_bitCount_0f7a4_9 rfl hl (by decide) rfl (fun ls hl => ?_)
  refine lv_iload_n hx hb dJ6_bitCount_0f7a4_10 rfl (lv_at hl 0 rfl) ?_
  refine lv_ldcw (v := (858993459 : Int32)) hx hb hown (hT _ kw_627) dJ6_bitCount_0f7a4_11 ?_
  refine lv_iand hx hb dJ6_bitCount_0f7a4_14 ?_
  refine lv_iload_n hx hb dJ6_bitCount_0f7a4_15 rfl (lv_at hl 0 rfl) ?_
  refine lv_iconst (v := (2 : Int32)) hx hb dJ6_bitCount_0f7a4_16 (by decide) ?_
  refine lv_iushr hx hb dJ6_bitCount_0f7a4_17 rfl ?_
  refine lv_ldcw (v := (858993459 : Int32)) hx hb hown (hT _ kw_627) dJ6_bitCount_0f7a4_18 ?_
  refine lv_iand hx hb dJ6_bitCount_0f7a4_21 ?_
  refine lv_iadd hx hb dJ6_bitCount_0f7a4_22 ?_
  refine lv_istore_n (lv' := [(0, .int (((x0 - (((x0).toUInt32 >>> (((1 : Int32)).toUInt32 &&& Int32.toUInt32 31)).toInt32 &&& (1431655765 : Int32))) &&& (858993459 : Int32)) + ((((x0 - (((x0).toUInt32 >>> (((1 : Int32)).toUInt32 &&& Int32.toUInt32 31)).toInt32 &&& (1431655765 : Int32)))).toUInt32 >>> (((2 : Int32)).toUInt32 &&& Int32.toUInt32 31)).toInt32 &&& (858993459 : Int32))))]) hx hb dJ6_bitCount_0f7a4_23 rfl hl (by decide) rfl (fun ls hl => ?_)
  refine lv_iload_n hx hb dJ6_bitCount_0f7a4_24 rfl (lv_at hl 0 rfl) ?_
  refine lv_iload_n hx hb dJ6_bitCount_0f7a4_25 rfl (lv_at hl 0 rfl) ?_
  refine lv_iconst (v := (4 : Int32)) hx hb dJ6_bitCount_0f7a4_26 (by decide) ?_
  refine lv_iushr hx hb dJ6_bitCount_0f7a4_27 rfl ?_
  refine lv_iadd hx hb dJ6_bitCount_0f7a4_28 ?_
  refine lv_ldcw (v := (252645135 : Int32)) hx hb hown (hT _ kw_628) dJ6_bitCount_0f7a4_29 ?_
  refine lv_iand hx hb dJ6_bitCount_0f7a4_32 ?_
  refine lv_istore_n (lv' := [(0, .int (((((x0 - (((x0).toUInt32 >>> (((1 : Int32)).toUInt32 &&& Int32.toUInt32 31)).toInt32 &&& (1431655765 : Int32))) &&& (858993459 : Int32)) + ((((x0 - (((x0).toUInt32 >>> (((1 : Int32)).toUInt32 &&& Int32.toUInt32 31)).toInt32 &&& (1431655765 : Int32)))).toUInt32 >>> (((2 : Int32)).toUInt32 &&& Int32.toUInt32 31)).toInt32 &&& (858993459 : Int32))) + (((((x0 - (((x0).toUInt32 >>> (((1 : Int32)).toUInt32 &&& Int32.toUInt32 31)).toInt32 &&& (1431655765 : Int32))) &&& (858993459 : Int32)) + ((((x0 - (((x0).toUInt32 >>> (((1 : Int32)).toUInt32 &&& Int32.toUInt32 31)).toInt32 &&& (1431655765 : Int32)))).toUInt32 >>> (((2 : Int32)).toUInt32 &&& Int32.toUInt32 31)).toInt32 &&& (858993459 : Int32)))).toUInt32 >>> (((4 : Int32)).toUInt32 &&& Int32.toUInt32 31)).toInt32) &&& (252645135 : Int32)))]) hx hb dJ6_bitCount_0f7a4_33 rfl hl (by decide) rfl (fun ls hl => ?_)
  refine lv_iload_n hx hb dJ6_bitCount_0f7a4_34 rfl (lv_at hl 0 rfl) ?_
  refine lv_iload_n hx hb dJ6_bitCount_0f7a4_35 rfl (lv_at hl 0 rfl) ?_
  refine lv_bipush (v := (8 : Int32)) hx hb dJ6_bitCount_0f7a4_36 (by decide) ?_
  refine lv_iushr hx hb dJ6_bitCount_0f7a4_38 rfl ?_
  refine lv_iadd hx hb dJ6_bitCount_0f7a4_39 ?_
  refine lv_istore_n (lv' := [(0, .int ((((((x0 - (((x0).toUInt32 >>> (((1 : Int32)).toUInt32 &&& Int32.toUInt32 31)).toInt32 &&& (1431655765 : Int32))) &&& (858993459 : Int32)) + ((((x0 - (((x0).toUInt32 >>> (((1 : Int32)).toUInt32 &&& Int32.toUInt32 31)).toInt32 &&& (1431655765 : Int32)))).toUInt32 >>> (((2 : Int32)).toUInt32 &&& Int32.toUInt32 31)).toInt32 &&& (858993459 : Int32))) + (((((x0 - (((x0).toUInt32 >>> (((1 : Int32)).toUInt32 &&& Int32.toUInt32 31)).toInt32 &&& (1431655765 : Int32))) &&& (858993459 : Int32)) + ((((x0 - (((x0).toUInt32 >>> (((1 : Int32)).toUInt32 &&& Int32.toUInt32 31)).toInt32 &&& (1431655765 : Int32)))).toUInt32 >>> (((2 : Int32)).toUInt32 &&& Int32.toUInt32 31)).toInt32 &&& (858993459 : Int32)))).toUInt32 >>> (((4 : Int32)).toUInt32 &&& Int32.toUInt32 31)).toInt32) &&& (252645135 : Int32)) + (((((((x0 - (((x0).toUInt32 >>> (((1 : Int32)).toUInt32 &&& Int32.toUInt32 31)).toInt32 &&& (1431655765 : Int32))) &&& (858993459 : Int32)) + ((((x0 - (((x0).toUInt32 >>> (((1 : Int32)).toUInt32 &&& Int32.toUInt32 31)).toInt32 &&& (1431655765 : Int32)))).toUInt32 >>> (((2 : Int32)).toUInt32 &&& Int32.toUInt32 31)).toInt32 &&& (858993459 : Int32))) + (((((x0 - (((x0).toUInt32 >>> (((1 : Int32)).toUInt32 &&& Int32.toUInt32 31)).toInt32 &&& (1431655765 : Int32))) &&& (858993459 : Int32)) + ((((x0 - (((x0).toUInt32 >>> (((1 : Int32)).toUInt32 &&& Int32.toUInt32 31)).toInt32 &&& (1431655765 : Int32)))).toUInt32 >>> (((2 : Int32)).toUInt32 &&& Int32.toUInt32 31)).toInt32 &&& (858993459 : Int32)))).toUInt32 >>> (((4 : Int32)).toUInt32 &&& Int32.toUInt32 31)).toInt32) &&& (252645135 : Int32))).toUInt32 >>> (((8 : Int32)).toUInt32 &&& Int32.toUInt32 31)).toInt32))]) hx hb dJ6_bitCount_0f7a4_40 rfl hl (by decide) rfl (fun ls hl => ?_)
  refine lv_iload_n hx hb dJ6_bitCount_0f7a4_41 rfl (lv_at hl 0 rfl) ?_
  refine lv_iload_n hx hb dJ6_bitCount_0f7a4_42 rfl (lv_at hl 0 rfl) ?_
  refine lv_bipush (v := (16 : Int32)) hx hb dJ6_bitCount_0f7a4_43 (by decide) ?_
  refine lv_iushr hx hb dJ6_bitCount_0f7a4_45 rfl ?_
  refine lv_iadd hx hb dJ6_bitCount_0f7a4_46 ?_
  refine lv_istore_n (lv' := [(0, .int (((((((x0 - (((x0).toUInt32 >>> (((1 : Int32)).toUInt32 &&& Int32.toUInt32 31)).toInt32 &&& (1431655765 : Int32))) &&& (858993459 : Int32)) + ((((x0 - (((x0).toUInt32 >>> (((1 : Int32)).toUInt32 &&& Int32.toUInt32 31)).toInt32 &&& (1431655765 : Int32)))).toUInt32 >>> (((2 : Int32)).toUInt32 &&& Int32.toUInt32 31)).toInt32 &&& (858993459 : Int32))) + (((((x0 - (((x0).toUInt32 >>> (((1 : Int32)).toUInt32 &&& Int32.toUInt32 31)).toInt32 &&& (1431655765 : Int32))) &&& (858993459 : Int32)) + ((((x0 - (((x0).toUInt32 >>> (((1 : Int32)).toUInt32 &&& Int32.toUInt32 31)).toInt32 &&& (1431655765 : Int32)))).toUInt32 >>> (((2 : Int32)).toUInt32 &&& Int32.toUInt32 31)).toInt32 &&& (858993459 : Int32)))).toUInt32 >>> (((4 : Int32)).toUInt32 &&& Int32.toUInt32 31)).toInt32) &&& (252645135 : Int32)) + (((((((x0 - (((x0).toUInt32 >>> (((1 : Int32)).toUInt32 &&& Int32.toUInt32 31)).toInt32 &&& (1431655765 : Int32))) &&& (858993459 : Int32)) + ((((x0 - (((x0).toUInt32 >>> (((1 : Int32)).toUInt32 &&& Int32.toUInt32 31)).toInt32 &&& (1431655765 : Int32)))).toUInt32 >>> (((2 : Int32)).toUInt32 &&& Int32.toUInt32 31)).toInt32 &&& (858993459 : Int32))) + (((((x0 - (((x0).toUInt32 >>> (((1 : Int32)).toUInt32 &&& Int32.toUInt32 31)).toInt32 &&& (1431655765 : Int32))) &&& (858993459 : Int32)) + ((((x0 - (((x0).toUInt32 >>> (((1 : Int32)).toUInt32 &&& Int32.toUInt32 31)).toInt32 &&& (1431655765 : Int32)))).toUInt32 >>> (((2 : Int32)).toUInt32 &&& Int32.toUInt32 31)).toInt32 &&& (858993459 : Int32)))).toUInt32 >>> (((4 : Int32)).toUInt32 &&& Int32.toUInt32 31)).toInt32) &&& (252645135 : Int32))).toUInt32 >>> (((8 : Int32)).toUInt32 &&& Int32.toUInt32 31)).toInt32) + ((((((((x0 - (((x0).toUInt32 >>> (((1 : Int32)).toUInt32 &&& Int32.toUInt32 31)).toInt32 &&& (1431655765 : Int32))) &&& (858993459 : Int32)) + ((((x0 - (((x0).toUInt32 >>> (((1 : Int32)).toUInt32 &&& Int32.toUInt32 31)).toInt32 &&& (1431655765 : Int32)))).toUInt32 >>> (((2 : Int32)).toUInt32 &&& Int32.toUInt32 31)).toInt32 &&& (858993459 : Int32))) + (((((x0 - (((x0).toUInt32 >>> (((1 : Int32)).toUInt32 &&& Int32.toUInt32 31)).toInt32 &&& (1431655765 : Int32))) &&& (858993459 : Int32)) + ((((x0 - (((x0).toUInt32 >>> (((1 : Int32)).toUInt32 &&& Int32.toUInt32 31)).toInt32 &&& (1431655765 : Int32)))).toUInt32 >>> (((2 : Int32)).toUInt32 &&& Int32.toUInt32 31)).toInt32 &&& (858993459 : Int32)))).toUInt32 >>> (((4 : Int32)).toUInt32 &&& Int32.toUInt32 31)).toInt32) &&& (252645135 : Int32)) + (((((((x0 - (((x0).toUInt32 >>> (((1 : Int32)).toUInt32 &&& Int32.toUInt32 31)).toInt32 &&& (1431655765 : Int32))) &&& (858993459 : Int32)) + ((((x0 - (((x0).toUInt32 >>> (((1 : Int32)).toUInt32 &&& Int32.toUInt32 31)).toInt32 &&& (1431655765 : Int32)))).toUInt32 >>> (((2 : Int32)).toUInt32 &&& Int32.toUInt32 31)).toInt32 &&& (858993459 : Int32))) + (((((x0 - (((x0).toUInt32 >>> (((1 : Int32)).toUInt32 &&& Int32.toUInt32 31)).toInt32 &&& (1431655765 : Int32))) &&& (858993459 : Int32)) + ((((x0 - (((x0).toUInt32 >>> (((1 : Int32)).toUInt32 &&& Int32.toUInt32 31)).toInt32 &&& (1431655765 : Int32)))).toUInt32 >>> (((2 : Int32)).toUInt32 &&& Int32.toUInt32 31)).toInt32 &&& (858993459 : Int32)))).toUInt32 >>> (((4 : Int32)).toUInt32 &&& Int32.toUInt32 31)).toInt32) &&& (252645135 : Int32))).toUInt32 >>> (((8 : Int32)).toUInt32 &&& Int32.toUInt32 31)).toInt32)).toUInt32 >>> (((16 : Int32)).toUInt32 &&& Int32.toUInt32 31)).toInt32))]) hx hb dJ6_bitCount_0f7a4_47 rfl hl (by decide) rfl (fun ls hl => ?_)
  refine lv_iload_n hx hb dJ6_bitCount_0f7a4_48 rfl (lv_at hl 0 rfl) ?_
  refine lv_bipush (v := (63 : Int32)) hx hb dJ6_bitCount_0f7a4_49 (by decide) ?_
  refine lv_iand hx hb dJ6_bitCount_0f7a4_51 ?_
  exact x_iret hB hz hE dJ6_bitCount_0f7a4_52
theorem c_J6_bitCount_0f7a4 (l : Launch) (g : GP) {x0 : Int32} {V : Mem} {o : Int32 × Mem} (hE : f_J6_bitCount_0f7a4 x0 V = some o) : CT l g LX yJ6_bitCount_0f7a4 cJ6_bitCount_0f7a4 1 (some .int) rm_J6_bitCount_0f7a4 [.int x0] V (some (.int o.1)) o.2 := by
  refine ct_of (by decide) (Nat.le_of_ble_eq_true rfl) ?_
  intro p e s m args below meth c ls hB hz hl
  exact w_J6_bitCount_0f7a4 hB _ _ _ _ _  hE hz hl
def rm_J7_fill_53178 : Room := { frames := 0, cells := 0, slots := 0, locals := 0 }
set_option maxHeartbeats 4000000 in
set_option maxRecDepth 100000 in
theorem w_J7_fill_53178_5 {p : Program} {l : Launch} {e : Env} {s : State} {m : MethodId} {args : Array Value} {below : List Frame} {meth : Method} {c : Code} {g : GP} (hB : BX p s m args meth c g LX cJ7_fill_53178 4 RJ7 none) {o : Mem} : ∀ (n : Nat), ∀ (r0 : Nat) (x1 : Int32) (x2 : Int32) (x3 : Int32) (V : Mem) (H : Heap) (locs : List Loc) (ls : Array Slot), KD LX r0 56 → f_J7_fill_53178_5 n r0 x1 x2 x3 V = some o → OK g LX V s H locs → lv_has ls 4 [(0, .ref (ad g r0)), (1, .int x1), (2, .int x2), (3, .int x3)] → W p l e rm_J7_fill_53178 s m args below meth c H locs 0 0 (MQ below (QQ g LX none o) args s 0 0 (Ar g LX)) (F0 m 5 ls []) := by
  obtain ⟨hx, hb, hml, hown, hT, hr, hlk, hK, hJ, hZ, hN⟩ := id hB
  intro n
  induction n with
  | zero =>
    intro r0 x1 x2 x3 V H locs ls k_r0 hE hz hl
    exact absurd (show (none : Option (Mem)) = some o from hE) (by simp)
  | succ n ih =>
    intro r0 x1 x2 x3 V H locs ls k_r0 hE hz hl
    unfold f_J7_fill_53178_5 at hE
    refine lv_iload_n hx hb dJ7_fill_53178_5 rfl (lv_at hl 2 rfl) ?_
    refine lv_iload_n hx hb dJ7_fill_53178_6 rfl (lv_at hl 3 rfl) ?_
    refine lv_icmp_ge (tgt := 20) hx hb dJ7_fill_53178_7 (by decide) (fun c7 => ?_) (fun c7 => ?_)
    · have hE := (if_pos c7).symm.trans hE
      exact x_vret hB hz hE dJ7_fill_53178_20
    · have hE := (if_neg c7).symm.trans hE
      refine lv_aload_n hx hb dJ7_fill_53178_10 rfl (lv_at hl 0 rfl) ?_
      refine lv_iload_n hx hb dJ7_fill_53178_11 rfl (lv_at hl 2 rfl) ?_
      refine lv_iload_n hx hb dJ7_fill_53178_12 rfl (lv_at hl 1 rfl) ?_
      obtain ⟨hi13, hE⟩ := x_chk hE
      refine x_iast (n := 40) hB hz k_r0 hi13 dJ7_fill_53178_13 (fun H locs hz => ?_)
      refine lv_iinc (v := (x2 + 1)) (lv' := [(2, .int (x2 + 1)), (0, .ref (ad g r0)), (1, .int x1), (3, .int x3)]) hx hb dJ7_fill_53178_14 hl (k := 2) rfl rfl (by decide) rfl (fun ls hl => ?_)
      refine lv_goto (tgt := 5) hx hb dJ7_fill_53178_17 (by decide) ?_
      exact ih _ _ _ _ _ _ _ _ k_r0 hE hz (lv_sub hl [1, 2, 0, 3] rfl)

set_option maxHeartbeats 4000000 in
set_option maxRecDepth 100000 in
theorem w_J7_fill_53178 {p : Program} {l : Launch} {e : Env} {s : State} {m : MethodId} {args : Array Value} {below : List Frame} {meth : Method} {c : Code} {g : GP} (hB : BX p s m args meth c g LX cJ7_fill_53178 4 RJ7 none) {o : Mem} : ∀ (r0 : Nat) (x1 : Int32) (V : Mem) (H : Heap) (locs : List Loc) (ls : Array Slot), KD LX r0 56 → f_J7_fill_53178 r0 x1 V = some o → OK g LX V s H locs → lv_has ls 4 [(0, .ref (ad g r0)), (1, .int x1)] → W p l e rm_J7_fill_53178 s m args below meth c H locs 0 0 (MQ below (QQ g LX none o) args s 0 0 (Ar g LX)) (F0 m 0 ls []) := by
  obtain ⟨hx, hb, hml, hown, hT, hr, hlk, hK, hJ, hZ, hN⟩ := id hB
  intro r0 x1 V H locs ls k_r0 hE hz hl
  unfold f_J7_fill_53178 at hE
  refine lv_iconst (v := (0 : Int32)) hx hb dJ7_fill_53178_0 (by decide) ?_
  refine lv_istore_n (lv' := [(2, .int (0 : Int32)), (0, .ref (ad g r0)), (1, .int x1)]) hx hb dJ7_fill_53178_1 rfl hl (by decide) rfl (fun ls hl => ?_)
  refine lv_aload_n hx hb dJ7_fill_53178_2 rfl (lv_at hl 1 rfl) ?_
  refine x_alen (n := 40) (v := (40 : Int32)) hB hz k_r0 (by decide) dJ7_fill_53178_3 ?_
  refine lv_istore_n (lv' := [(3, .int (40 : Int32)), (2, .int (0 : Int32)), (0, .ref (ad g r0)), (1, .int x1)]) hx hb dJ7_fill_53178_4 rfl hl (by decide) rfl (fun ls hl => ?_)
  exact w_J7_fill_53178_5 hB  _ _ _ _ _ _ _ _ _ k_r0 hE hz (lv_sub hl [2, 3, 1, 0] rfl)
theorem c_J7_fill_53178 (l : Launch) (g : GP) {r0 : Nat} (k_r0 : KD LX r0 56) {x1 : Int32} {V : Mem} {o : Mem} (hE : f_J7_fill_53178 r0 x1 V = some o) : CT l g LX yJ7_fill_53178 cJ7_fill_53178 4 none rm_J7_fill_53178 [.ref (ad g r0), .int x1] V none o := by
  refine ct_of (by decide) (Nat.le_of_ble_eq_true rfl) ?_
  intro p e s m args below meth c ls hB hz hl
  exact w_J7_fill_53178 hB _ _ _ _ _ _ k_r0 hE hz hl
def rm_X2_isMissing : Room := { frames := 0, cells := 0, slots := 0, locals := 0 }
set_option maxHeartbeats 4000000 in
set_option maxRecDepth 100000 in
theorem w_X2_isMissing {p : Program} {l : Launch} {e : Env} {s : State} {m : MethodId} {args : Array Value} {below : List Frame} {meth : Method} {c : Code} {g : GP} (hB : BX p s m args meth c g LX cX2_isMissing 1 RX2 (some .boolean)) {z : Nat} (k_z : KD LX z 1) {o : Int32 × Mem} : ∀ (V : Mem) (H : Heap) (locs : List Loc) (ls : Array Slot), f_X2_isMissing z V = some o → OK g LX V s H locs → lv_has ls 1 [(0, .ref (ad g z))] → W p l e rm_X2_isMissing s m args below meth c H locs 0 0 (MQ below (QQ g LX (some (.int o.1)) o.2) args s 0 0 (Ar g LX)) (F0 m 0 ls []) := by
  obtain ⟨hx, hb, hml, hown, hT, hr, hlk, hK, hJ, hZ, hN⟩ := id hB
  intro V H locs ls hE hz hl
  unfold f_X2_isMissing at hE
  refine lv_aload_n hx hb dX2_isMissing_0 rfl (lv_at hl 0 rfl) ?_
  refine g_X2_15 hB hz k_z dX2_isMissing_1 ?_
  refine lv_iconst (v := (-1 : Int32)) hx hb dX2_isMissing_4 (by decide) ?_
  refine lv_icmp_ne (tgt := 12) hx hb dX2_isMissing_5 (by decide) (fun c5 => ?_) (fun c5 => ?_)
  · have hE := (if_neg c5).symm.trans hE
    refine lv_iconst (v := (0 : Int32)) hx hb dX2_isMissing_12 (by decide) ?_
    exact x_zret hB hz hE (by decide) dX2_isMissing_13
  · have hE := (if_pos c5).symm.trans hE
    refine lv_iconst (v := (1 : Int32)) hx hb dX2_isMissing_8 (by decide) ?_
    refine lv_goto (tgt := 13) hx hb dX2_isMissing_9 (by decide) ?_
    exact x_zret hB hz hE (by decide) dX2_isMissing_13
theorem c_X2_isMissing (l : Launch) (g : GP) {z : Nat} (k_z : KD LX z 1) {V : Mem} {o : Int32 × Mem} (hE : f_X2_isMissing z V = some o) : CT l g LX yX2_isMissing cX2_isMissing 1 (some .boolean) rm_X2_isMissing [.ref (ad g z)] V (some (.int o.1)) o.2 := by
  refine ct_of (by decide) (Nat.le_of_ble_eq_true rfl) ?_
  intro p e s m args below meth c ls hB hz hl
  exact w_X2_isMissing hB k_z  _ _ _ _  hE hz hl
def rm_X2_become : Room := { frames := 1, cells := 0, slots := 0, locals := 23 }
theorem i_X2_22 {p : Program} {l : Launch} {e : Env} {R : Room} {s : State} {m : MethodId} {args : Array Value} {below : List Frame} {meth : Method} {c : Code} {H : Heap} {locs : List Loc} {Q : State → Prop} {cc : ByteArray} {pc : Nat} {ls : Array Slot} {rest : List Value} {g : GP} {V : Mem} {nL : Nat} {ret : Option FieldType} (hB : BX p s m args meth c g LX cc nL RX2 ret) (hz : OK g LX V s H locs) {a0 : Nat} {a1 : Int32} {V1 : Mem} (hM : CT l g LX yJ7_fill_53178 cJ7_fill_53178 4 none rm_J7_fill_53178 [.ref (ad g a0), .int a1] V none V1) (hR : rm_J7_fill_53178.frames + 1 ≤ R.frames ∧ 8 + (4 + 11) + rm_J7_fill_53178.locals ≤ R.locals) (hsz : ls.size = nL) (hrest : (rest.map fun v => v.category).sum ≤ 8) (hdg : decode cc pc = .ok (.invokestatic 22, 3)) (kk : ∀ (H1 : Heap) (locs1 : List Loc), OK g LX V1 s H1 locs1 → W p l e R s m args below meth c H1 locs1 0 0 Q (F0 m (pc + 3) ls (rest))) : W p l e R s m args below meth c H locs 0 0 Q (F0 m pc ls (.int a1 :: .ref (ad g a0) :: rest)) :=
  x_cs (As := [.ref (ad g a0), .int a1]) (n := 2) hB hz hM rfl rfl kw_276 kw_69 kw_274 kw_275 (by decide +kernel) rfl hR hsz hrest hdg kk
set_option maxHeartbeats 4000000 in
set_option maxRecDepth 100000 in
theorem w_X2_become {p : Program} {l : Launch} {e : Env} {s : State} {m : MethodId} {args : Array Value} {below : List Frame} {meth : Method} {c : Code} {g : GP} (hB : BX p s m args meth c g LX cX2_become 3 RX2 none) {z : Nat} (k_z : KD LX z 1) {o : Mem} : ∀ (x1 : Int32) (x2 : Int32) (V : Mem) (H : Heap) (locs : List Loc) (ls : Array Slot), f_X2_become z x1 x2 V = some o → OK g LX V s H locs → lv_has ls 3 [(0, .ref (ad g z)), (1, .int x1), (2, .int x2)] → W p l e rm_X2_become s m args below meth c H locs 0 0 (MQ below (QQ g LX none o) args s 0 0 (Ar g LX)) (F0 m 0 ls []) := by
  obtain ⟨hx, hb, hml, hown, hT, hr, hlk, hK, hJ, hZ, hN⟩ := id hB
  intro x1 x2 V H locs ls hE hz hl
  unfold f_X2_become at hE
  refine lv_aload_n hx hb dX2_become_0 rfl (lv_at hl 0 rfl) ?_
  refine lv_iload_n hx hb dX2_become_1 rfl (lv_at hl 1 rfl) ?_
  refine p_X2_15 hB hz k_z dX2_become_2 (fun H locs hz => ?_)
  refine lv_aload_n hx hb dX2_become_5 rfl (lv_at hl 0 rfl) ?_
  refine lv_iload_n hx hb dX2_become_6 rfl (lv_at hl 2 rfl) ?_
  refine p_X2_19 hB hz k_z dX2_become_7 (fun H locs hz => ?_)
  refine lv_aload_n hx hb dX2_become_10 rfl (lv_at hl 0 rfl) ?_
  refine g_X2_9 hB hz k_z dX2_become_11 ?_
  refine lv_iconst (v := (0 : Int32)) hx hb dX2_become_14 (by decide) ?_
  obtain ⟨q15, hq15, hE⟩ := x_bind hE
  refine i_X2_22 hB hz (c_J7_fill_53178 l g (kd_row k_z) hq15) ⟨(Nat.le_of_ble_eq_true rfl), (Nat.le_of_ble_eq_true rfl)⟩ hl.1 (Nat.le_of_ble_eq_true rfl) dX2_become_15 (fun H locs hz => ?_)
  exact x_vret hB hz hE dX2_become_18
theorem c_X2_become (l : Launch) (g : GP) {z : Nat} (k_z : KD LX z 1) {x1 : Int32} {x2 : Int32} {V : Mem} {o : Mem} (hE : f_X2_become z x1 x2 V = some o) : CT l g LX yX2_become cX2_become 3 none rm_X2_become [.ref (ad g z), .int x1, .int x2] V none o := by
  refine ct_of (by decide) (Nat.le_of_ble_eq_true rfl) ?_
  intro p e s m args below meth c ls hB hz hl
  exact w_X2_become hB k_z _ _ _ _ _ _  hE hz hl
def rm_X2_holds : Room := { frames := 0, cells := 0, slots := 0, locals := 0 }
set_option maxHeartbeats 4000000 in
set_option maxRecDepth 100000 in
theorem w_X2_holds {p : Program} {l : Launch} {e : Env} {s : State} {m : MethodId} {args : Array Value} {below : List Frame} {meth : Method} {c : Code} {g : GP} (hB : BX p s m args meth c g LX cX2_holds 3 RX2 (some .boolean)) {z : Nat} (k_z : KD LX z 1) {o : Int32 × Mem} : ∀ (x1 : Int32) (x2 : Int32) (V : Mem) (H : Heap) (locs : List Loc) (ls : Array Slot), f_X2_holds z x1 x2 V = some o → OK g LX V s H locs → lv_has ls 3 [(0, .ref (ad g z)), (1, .int x1), (2, .int x2)] → W p l e rm_X2_holds s m args below meth c H locs 0 0 (MQ below (QQ g LX (some (.int o.1)) o.2) args s 0 0 (Ar g LX)) (F0 m 0 ls []) := by
  obtain ⟨hx, hb, hml, hown, hT, hr, hlk, hK, hJ, hZ, hN⟩ := id hB
  intro x1 x2 V H locs ls hE hz hl
  unfold f_X2_holds at hE
  refine lv_iload_n hx hb dX2_holds_0 rfl (lv_at hl 1 rfl) ?_
  refine lv_if_lt (tgt := 22) hx hb dX2_holds_1 (by decide) (fun c1 => ?_) (fun c1 => ?_)
  · have hE := (if_pos c1).symm.trans hE
    refine lv_iconst (v := (0 : Int32)) hx hb dX2_holds_22 (by decide) ?_
    exact x_zret hB hz hE (by decide) dX2_holds_23
  · have hE := (if_neg c1).symm.trans hE
    refine lv_iload_n hx hb dX2_holds_4 rfl (lv_at hl 2 rfl) ?_
    refine lv_if_lt (tgt := 22) hx hb dX2_holds_5 (by decide) (fun c5 => ?_) (fun c5 => ?_)
    · have hE := (if_pos c5).symm.trans hE
      refine lv_iconst (v := (0 : Int32)) hx hb dX2_holds_22 (by decide) ?_
      exact x_zret hB hz hE (by decide) dX2_holds_23
    · have hE := (if_neg c5).symm.trans hE
      refine lv_iload_n hx hb dX2_holds_8 rfl (lv_at hl 1 rfl) ?_
      refine lv_aload_n hx hb dX2_holds_9 rfl (lv_at hl 0 rfl) ?_
      refine g_X2_19 hB hz k_z dX2_holds_10 ?_
      refine lv_iload_n hx hb dX2_holds_13 rfl (lv_at hl 2 rfl) ?_
      refine lv_isub hx hb dX2_holds_14 ?_
      refine lv_icmp_gt (tgt := 22) hx hb dX2_holds_15 (by decide) (fun c15 => ?_) (fun c15 => ?_)
      · have hE := (if_pos c15).symm.trans hE
        refine lv_iconst (v := (0 : Int32)) hx hb dX2_holds_22 (by decide) ?_
        exact x_zret hB hz hE (by decide) dX2_holds_23
      · have hE := (if_neg c15).symm.trans hE
        refine lv_iconst (v := (1 : Int32)) hx hb dX2_holds_18 (by decide) ?_
        refine lv_goto (tgt := 23) hx hb dX2_holds_19 (by decide) ?_
        exact x_zret hB hz hE (by decide) dX2_holds_23
theorem c_X2_holds (l : Launch) (g : GP) {z : Nat} (k_z : KD LX z 1) {x1 : Int32} {x2 : Int32} {V : Mem} {o : Int32 × Mem} (hE : f_X2_holds z x1 x2 V = some o) : CT l g LX yX2_holds cX2_holds 3 (some .boolean) rm_X2_holds [.ref (ad g z), .int x1, .int x2] V (some (.int o.1)) o.2 := by
  refine ct_of (by decide) (Nat.le_of_ble_eq_true rfl) ?_
  intro p e s m args below meth c ls hB hz hl
  exact w_X2_holds hB k_z _ _ _ _ _ _  hE hz hl
def rm_X2_findingAt : Room := { frames := 1, cells := 0, slots := 0, locals := 22 }
theorem i_X2_28 {p : Program} {l : Launch} {e : Env} {R : Room} {s : State} {m : MethodId} {args : Array Value} {below : List Frame} {meth : Method} {c : Code} {H : Heap} {locs : List Loc} {Q : State → Prop} {cc : ByteArray} {pc : Nat} {ls : Array Slot} {rest : List Value} {g : GP} {V : Mem} {nL : Nat} {ret : Option FieldType} (hB : BX p s m args meth c g LX cc nL RX2 ret) (hz : OK g LX V s H locs) {i : Nat} (hk : KD LX i 1) {r : Int32} {V1 : Mem} (hM : CT l g LX yX2_isMissing cX2_isMissing 1 (some .boolean) rm_X2_isMissing [.ref (ad g i)] V (some (.int r)) V1) (hR : rm_X2_isMissing.frames + 1 ≤ R.frames ∧ 8 + (1 + 11) + rm_X2_isMissing.locals ≤ R.locals) (hsz : ls.size = nL) (hrest : (rest.map fun v => v.category).sum ≤ 8) (hdg : decode cc pc = .ok (.invokevirtual 28, 3)) (kk : ∀ (H1 : Heap) (locs1 : List Loc), OK g LX V1 s H1 locs1 → W p l e R s m args below meth c H1 locs1 0 0 Q (F0 m (pc + 3) ls (.int r :: rest))) : W p l e R s m args below meth c H locs 0 0 Q (F0 m pc ls (.ref (ad g i) :: rest)) :=
  x_cv (As := []) (n := 0) (T := TX2) (N := 3) hB hz hM hk rfl rfl rfl rfl kw_292 kw_67 kw_289 kw_290 kw_291 (by decide +kernel) rfl hR hsz hrest hdg kk
theorem i_X2_32 {p : Program} {l : Launch} {e : Env} {R : Room} {s : State} {m : MethodId} {args : Array Value} {below : List Frame} {meth : Method} {c : Code} {H : Heap} {locs : List Loc} {Q : State → Prop} {cc : ByteArray} {pc : Nat} {ls : Array Slot} {rest : List Value} {g : GP} {V : Mem} {nL : Nat} {ret : Option FieldType} (hB : BX p s m args meth c g LX cc nL RX2 ret) (hz : OK g LX V s H locs) {i : Nat} (hk : KD LX i 1) {a0 : Int32} {a1 : Int32} {r : Int32} {V1 : Mem} (hM : CT l g LX yX2_holds cX2_holds 3 (some .boolean) rm_X2_holds [.ref (ad g i), .int a0, .int a1] V (some (.int r)) V1) (hR : rm_X2_holds.frames + 1 ≤ R.frames ∧ 8 + (3 + 11) + rm_X2_holds.locals ≤ R.locals) (hsz : ls.size = nL) (hrest : (rest.map fun v => v.category).sum ≤ 8) (hdg : decode cc pc = .ok (.invokevirtual 32, 3)) (kk : ∀ (H1 : Heap) (locs1 : List Loc), OK g LX V1 s H1 locs1 → W p l e R s m args below meth c H1 locs1 0 0 Q (F0 m (pc + 3) ls (.int r :: rest))) : W p l e R s m args below meth c H locs 0 0 Q (F0 m pc ls (.int a1 :: .int a0 :: .ref (ad g i) :: rest)) :=
  x_cv (As := [.int a0, .int a1]) (n := 2) (T := TX2) (N := 3) hB hz hM hk rfl rfl rfl rfl kw_296 kw_67 kw_293 kw_294 kw_295 (by decide +kernel) rfl hR hsz hrest hdg kk
set_option maxHeartbeats 4000000 in
set_option maxRecDepth 100000 in
theorem w_X2_findingAt {p : Program} {l : Launch} {e : Env} {s : State} {m : MethodId} {args : Array Value} {below : List Frame} {meth : Method} {c : Code} {g : GP} (hB : BX p s m args meth c g LX cX2_findingAt 3 RX2 (some .int)) {z : Nat} (k_z : KD LX z 1) {o : Int32 × Mem} : ∀ (x1 : Int32) (x2 : Int32) (V : Mem) (H : Heap) (locs : List Loc) (ls : Array Slot), f_X2_findingAt z x1 x2 V = some o → OK g LX V s H locs → lv_has ls 3 [(0, .ref (ad g z)), (1, .int x1), (2, .int x2)] → W p l e rm_X2_findingAt s m args below meth c H locs 0 0 (MQ below (QQ g LX (some (.int o.1)) o.2) args s 0 0 (Ar g LX)) (F0 m 0 ls []) := by
  obtain ⟨hx, hb, hml, hown, hT, hr, hlk, hK, hJ, hZ, hN⟩ := id hB
  intro x1 x2 V H locs ls hE hz hl
  unfold f_X2_findingAt at hE
  refine lv_aload_n hx hb dX2_findingAt_0 rfl (lv_at hl 0 rfl) ?_
  obtain ⟨q1, hq1, hE⟩ := x_bind hE
  refine i_X2_28 hB hz k_z (c_X2_isMissing l g k_z hq1) ⟨(Nat.le_of_ble_eq_true rfl), (Nat.le_of_ble_eq_true rfl)⟩ hl.1 (Nat.le_of_ble_eq_true rfl) dX2_findingAt_1 (fun H locs hz => ?_)
  refine lv_if_eq (tgt := 9) hx hb dX2_findingAt_4 (by decide) (fun c4 => ?_) (fun c4 => ?_)
  · have hE := (if_pos c4).symm.trans hE
    refine lv_aload_n hx hb dX2_findingAt_9 rfl (lv_at hl 0 rfl) ?_
    refine lv_iload_n hx hb dX2_findingAt_10 rfl (lv_at hl 1 rfl) ?_
    refine lv_iload_n hx hb dX2_findingAt_11 rfl (lv_at hl 2 rfl) ?_
    obtain ⟨q12, hq12, hE⟩ := x_bind hE
    refine i_X2_32 hB hz k_z (c_X2_holds l g k_z hq12) ⟨(Nat.le_of_ble_eq_true rfl), (Nat.le_of_ble_eq_true rfl)⟩ hl.1 (Nat.le_of_ble_eq_true rfl) dX2_findingAt_12 (fun H locs hz => ?_)
    refine lv_if_eq (tgt := 22) hx hb dX2_findingAt_15 (by decide) (fun c15 => ?_) (fun c15 => ?_)
    · have hE := (if_pos c15).symm.trans hE
      refine lv_iconst (v := (2 : Int32)) hx hb dX2_findingAt_22 (by decide) ?_
      exact x_iret hB hz hE dX2_findingAt_23
    · have hE := (if_neg c15).symm.trans hE
      refine lv_iconst (v := (0 : Int32)) hx hb dX2_findingAt_18 (by decide) ?_
      refine lv_goto (tgt := 23) hx hb dX2_findingAt_19 (by decide) ?_
      exact x_iret hB hz hE dX2_findingAt_23
  · have hE := (if_neg c4).symm.trans hE
    refine lv_iconst (v := (1 : Int32)) hx hb dX2_findingAt_7 (by decide) ?_
    exact x_iret hB hz hE dX2_findingAt_8
theorem c_X2_findingAt (l : Launch) (g : GP) {z : Nat} (k_z : KD LX z 1) {x1 : Int32} {x2 : Int32} {V : Mem} {o : Int32 × Mem} (hE : f_X2_findingAt z x1 x2 V = some o) : CT l g LX yX2_findingAt cX2_findingAt 3 (some .int) rm_X2_findingAt [.ref (ad g z), .int x1, .int x2] V (some (.int o.1)) o.2 := by
  refine ct_of (by decide) (Nat.le_of_ble_eq_true rfl) ?_
  intro p e s m args below meth c ls hB hz hl
  exact w_X2_findingAt hB k_z _ _ _ _ _ _  hE hz hl
def rm_X2_narrowed : Room := { frames := 0, cells := 0, slots := 0, locals := 0 }
set_option maxHeartbeats 4000000 in
set_option maxRecDepth 100000 in
theorem w_X2_narrowed {p : Program} {l : Launch} {e : Env} {s : State} {m : MethodId} {args : Array Value} {below : List Frame} {meth : Method} {c : Code} {g : GP} (hB : BX p s m args meth c g LX cX2_narrowed 2 RX2 (some .int)) {z : Nat} (k_z : KD LX z 1) {o : Int32 × Mem} : ∀ (x1 : Int32) (V : Mem) (H : Heap) (locs : List Loc) (ls : Array Slot), f_X2_narrowed z x1 V = some o → OK g LX V s H locs → lv_has ls 2 [(0, .ref (ad g z)), (1, .int x1)] → W p l e rm_X2_narrowed s m args below meth c H locs 0 0 (MQ below (QQ g LX (some (.int o.1)) o.2) args s 0 0 (Ar g LX)) (F0 m 0 ls []) := by
  obtain ⟨hx, hb, hml, hown, hT, hr, hlk, hK, hJ, hZ, hN⟩ := id hB
  intro x1 V H locs ls hE hz hl
  unfold f_X2_narrowed at hE
  refine lv_aload_n hx hb dX2_narrowed_0 rfl (lv_at hl 0 rfl) ?_
  refine g_X2_15 hB hz k_z dX2_narrowed_1 ?_
  by_cases c4_0 : (V z 1) = (0 : Int32)
  · have hE := (if_pos c4_0).symm.trans hE
    refine lv_lookup (tgt := 32) hx hb dX2_narrowed_4 (by decide) (by rw [c4_0]; try rfl) (by decide) ?_
    refine lv_iload_n hx hb dX2_narrowed_32 rfl (lv_at hl 1 rfl) ?_
    refine lv_i2b hx hb dX2_narrowed_33 rfl ?_
    exact x_iret hB hz hE dX2_narrowed_34
  have hE := (if_neg c4_0).symm.trans hE
  by_cases c4_1 : (V z 1) = (1 : Int32)
  · have hE := (if_pos c4_1).symm.trans hE
    refine lv_lookup (tgt := 35) hx hb dX2_narrowed_4 (by decide) (by rw [c4_1]; try rfl) (by decide) ?_
    refine lv_iload_n hx hb dX2_narrowed_35 rfl (lv_at hl 1 rfl) ?_
    refine lv_i2s hx hb dX2_narrowed_36 rfl ?_
    exact x_iret hB hz hE dX2_narrowed_37
  have hE := (if_neg c4_1).symm.trans hE
  have nc4_0 := x_nei c4_0 (k := 0) (by decide)
  have nc4_1 := x_nei c4_1 (k := 1) (by decide)
  refine lv_lookup (off := 34) (tgt := 38) hx hb dX2_narrowed_4 (by decide) (by simp [Op.lookupswitch.offset, Ne.symm nc4_0, Ne.symm nc4_1]) (by decide) ?_
  refine lv_iload_n hx hb dX2_narrowed_38 rfl (lv_at hl 1 rfl) ?_
  exact x_iret hB hz hE dX2_narrowed_39
theorem c_X2_narrowed (l : Launch) (g : GP) {z : Nat} (k_z : KD LX z 1) {x1 : Int32} {V : Mem} {o : Int32 × Mem} (hE : f_X2_narrowed z x1 V = some o) : CT l g LX yX2_narrowed cX2_narrowed 2 (some .int) rm_X2_narrowed [.ref (ad g z), .int x1] V (some (.int o.1)) o.2 := by
  refine ct_of (by decide) (Nat.le_of_ble_eq_true rfl) ?_
  intro p e s m args below meth c ls hB hz hl
  exact w_X2_narrowed hB k_z _ _ _ _ _  hE hz hl
def rm_X1_standAt : Room := { frames := 0, cells := 0, slots := 0, locals := 0 }
set_option maxHeartbeats 4000000 in
set_option maxRecDepth 100000 in
theorem w_X1_standAt_8 {p : Program} {l : Launch} {e : Env} {s : State} {m : MethodId} {args : Array Value} {below : List Frame} {meth : Method} {c : Code} {g : GP} (hB : BX p s m args meth c g LX cX1_standAt 4 RX1 none) {o : Mem} : ∀ (n : Nat), ∀ (r0 : Nat) (x3 : Int32) (V : Mem) (H : Heap) (locs : List Loc) (ls : Array Slot), KD LX r0 22 → f_X1_standAt_8 n r0 x3 V = some o → OK g LX V s H locs → lv_has ls 4 [(0, .ref (ad g r0)), (3, .int x3)] → W p l e rm_X1_standAt s m args below meth c H locs 0 0 (MQ below (QQ g LX none o) args s 0 0 (Ar g LX)) (F0 m 8 ls []) := by
  obtain ⟨hx, hb, hml, hown, hT, hr, hlk, hK, hJ, hZ, hN⟩ := id hB
  intro n
  induction n with
  | zero =>
    intro r0 x3 V H locs ls k_r0 hE hz hl
    exact absurd (show (none : Option (Mem)) = some o from hE) (by simp)
  | succ n ih =>
    intro r0 x3 V H locs ls k_r0 hE hz hl
    unfold f_X1_standAt_8 at hE
    refine lv_iload_n hx hb dX1_standAt_8 rfl (lv_at hl 1 rfl) ?_
    refine lv_iconst (v := (3 : Int32)) hx hb dX1_standAt_9 (by decide) ?_
    refine lv_icmp_ge (tgt := 23) hx hb dX1_standAt_10 (by decide) (fun c10 => ?_) (fun c10 => ?_)
    · have hE := (if_pos c10).symm.trans hE
      exact x_vret hB hz hE dX1_standAt_23
    · have hE := (if_neg c10).symm.trans hE
      refine lv_aload_n hx hb dX1_standAt_13 rfl (lv_at hl 0 rfl) ?_
      refine lv_iload_n hx hb dX1_standAt_14 rfl (lv_at hl 1 rfl) ?_
      refine lv_iconst (v := (0 : Int32)) hx hb dX1_standAt_15 (by decide) ?_
      obtain ⟨hi16, hE⟩ := x_chk hE
      refine x_iast (n := 6) hB hz k_r0 hi16 dX1_standAt_16 (fun H locs hz => ?_)
      refine lv_iinc (v := (x3 + 1)) (lv' := [(3, .int (x3 + 1)), (0, .ref (ad g r0))]) hx hb dX1_standAt_17 hl (k := 1) rfl rfl (by decide) rfl (fun ls hl => ?_)
      refine lv_goto (tgt := 8) hx hb dX1_standAt_20 (by decide) ?_
      exact ih _ _ _ _ _ _ k_r0 hE hz (lv_sub hl [1, 0] rfl)

set_option maxHeartbeats 4000000 in
set_option maxRecDepth 100000 in
theorem w_X1_standAt {p : Program} {l : Launch} {e : Env} {s : State} {m : MethodId} {args : Array Value} {below : List Frame} {meth : Method} {c : Code} {g : GP} (hB : BX p s m args meth c g LX cX1_standAt 4 RX1 none) {o : Mem} : ∀ (r0 : Nat) (x1 : Int32) (x2 : Int32) (V : Mem) (H : Heap) (locs : List Loc) (ls : Array Slot), KD LX r0 22 → f_X1_standAt r0 x1 x2 V = some o → OK g LX V s H locs → lv_has ls 4 [(0, .ref (ad g r0)), (1, .int x1), (2, .int x2)] → W p l e rm_X1_standAt s m args below meth c H locs 0 0 (MQ below (QQ g LX none o) args s 0 0 (Ar g LX)) (F0 m 0 ls []) := by
  obtain ⟨hx, hb, hml, hown, hT, hr, hlk, hK, hJ, hZ, hN⟩ := id hB
  intro r0 x1 x2 V H locs ls k_r0 hE hz hl
  unfold f_X1_standAt at hE
  refine lv_aload_n hx hb dX1_standAt_0 rfl (lv_at hl 0 rfl) ?_
  refine lv_iload_n hx hb dX1_standAt_1 rfl (lv_at hl 1 rfl) ?_
  refine lv_iload_n hx hb dX1_standAt_2 rfl (lv_at hl 2 rfl) ?_
  obtain ⟨hi3, hE⟩ := x_chk hE
  refine x_iast (n := 6) hB hz k_r0 hi3 dX1_standAt_3 (fun H locs hz => ?_)
  refine lv_iload_n hx hb dX1_standAt_4 rfl (lv_at hl 1 rfl) ?_
  refine lv_iconst (v := (1 : Int32)) hx hb dX1_standAt_5 (by decide) ?_
  refine lv_iadd hx hb dX1_standAt_6 ?_
  refine lv_istore_n (lv' := [(3, .int (x1 + (1 : Int32))), (0, .ref (ad g r0)), (1, .int x1), (2, .int x2)]) hx hb dX1_standAt_7 rfl hl (by decide) rfl (fun ls hl => ?_)
  exact w_X1_standAt_8 hB  _ _ _ _ _ _ _ k_r0 hE hz (lv_sub hl [1, 0] rfl)
theorem c_X1_standAt (l : Launch) (g : GP) {r0 : Nat} (k_r0 : KD LX r0 22) {x1 : Int32} {x2 : Int32} {V : Mem} {o : Mem} (hE : f_X1_standAt r0 x1 x2 V = some o) : CT l g LX yX1_standAt cX1_standAt 4 none rm_X1_standAt [.ref (ad g r0), .int x1, .int x2] V none o := by
  refine ct_of (by decide) (Nat.le_of_ble_eq_true rfl) ?_
  intro p e s m args below meth c ls hB hz hl
  exact w_X1_standAt hB _ _ _ _ _ _ _ k_r0 hE hz hl
def rm_X1_over : Room := { frames := 1, cells := 0, slots := 0, locals := 100 }
theorem i_X1_11 {p : Program} {l : Launch} {e : Env} {R : Room} {s : State} {m : MethodId} {args : Array Value} {below : List Frame} {meth : Method} {c : Code} {H : Heap} {locs : List Loc} {Q : State → Prop} {cc : ByteArray} {pc : Nat} {ls : Array Slot} {rest : List Value} {g : GP} {V : Mem} {nL : Nat} {ret : Option FieldType} (hB : BX p s m args meth c g LX cc nL RX1 ret) (hz : OK g LX V s H locs) {a0 : Nat} {a1 : Int32} {a2 : Int32} {V1 : Mem} (hM : CT l g LX yX1_standAt cX1_standAt 4 none rm_X1_standAt [.ref (ad g a0), .int a1, .int a2] V none V1) (hR : rm_X1_standAt.frames + 1 ≤ R.frames ∧ 8 + (4 + 11) + rm_X1_standAt.locals ≤ R.locals) (hsz : ls.size = nL) (hrest : (rest.map fun v => v.category).sum ≤ 8) (hdg : decode cc pc = .ok (.invokestatic 11, 3)) (kk : ∀ (H1 : Heap) (locs1 : List Loc), OK g LX V1 s H1 locs1 → W p l e R s m args below meth c H1 locs1 0 0 Q (F0 m (pc + 3) ls (rest))) : W p l e R s m args below meth c H locs 0 0 Q (F0 m pc ls (.int a2 :: .int a1 :: .ref (ad g a0) :: rest)) :=
  x_cs (As := [.ref (ad g a0), .int a1, .int a2]) (n := 3) hB hz hM rfl rfl kw_481 kw_72 kw_479 kw_480 (by decide +kernel) rfl hR hsz hrest hdg kk
set_option maxHeartbeats 4000000 in
set_option maxRecDepth 100000 in
theorem w_X1_over {p : Program} {l : Launch} {e : Env} {s : State} {m : MethodId} {args : Array Value} {below : List Frame} {meth : Method} {c : Code} {g : GP} (hB : BX p s m args meth c g LX cX1_over 4 RX1 none) {o : Mem} : ∀ (r0 : Nat) (x1 : Int32) (x2 : Int32) (x3 : Int32) (V : Mem) (H : Heap) (locs : List Loc) (ls : Array Slot), KD LX r0 22 → f_X1_over r0 x1 x2 x3 V = some o → OK g LX V s H locs → lv_has ls 4 [(0, .ref (ad g r0)), (1, .int x1), (2, .int x2), (3, .int x3)] → W p l e rm_X1_over s m args below meth c H locs 0 0 (MQ below (QQ g LX none o) args s 0 0 (Ar g LX)) (F0 m 0 ls []) := by
  obtain ⟨hx, hb, hml, hown, hT, hr, hlk, hK, hJ, hZ, hN⟩ := id hB
  intro r0 x1 x2 x3 V H locs ls k_r0 hE hz hl
  unfold f_X1_over at hE
  refine lv_iload_n hx hb dX1_over_0 rfl (lv_at hl 1 rfl) ?_
  by_cases c1_1 : x1 = (1 : Int32)
  · have hE := (if_pos c1_1).symm.trans hE
    refine lv_tableIn (tgt := 36) hx hb dX1_over_1 (by rw [c1_1]; decide) (by rw [c1_1]; decide) (by rw [c1_1]; rfl) (by decide) ?_
    refine lv_aload_n hx hb dX1_over_36 rfl (lv_at hl 0 rfl) ?_
    refine lv_iload_n hx hb dX1_over_37 rfl (lv_at hl 2 rfl) ?_
    refine lv_aload_n hx hb dX1_over_38 rfl (lv_at hl 0 rfl) ?_
    refine lv_iload_n hx hb dX1_over_39 rfl (lv_at hl 2 rfl) ?_
    obtain ⟨hi40, hE⟩ := x_chk hE
    refine x_iald (n := 6) hB hz k_r0 hi40 dX1_over_40 ?_
    refine lv_iconst (v := (1 : Int32)) hx hb dX1_over_41 (by decide) ?_
    refine lv_iadd hx hb dX1_over_42 ?_
    obtain ⟨q43, hq43, hE⟩ := x_bind hE
    refine i_X1_11 hB hz (c_X1_standAt l g k_r0 hq43) ⟨(Nat.le_of_ble_eq_true rfl), (Nat.le_of_ble_eq_true rfl)⟩ hl.1 (Nat.le_of_ble_eq_true rfl) dX1_over_43 (fun H locs hz => ?_)
    refine lv_goto (tgt := 96) hx hb dX1_over_46 (by decide) ?_
    exact x_vret hB hz hE dX1_over_96
  have hE := (if_neg c1_1).symm.trans hE
  by_cases c1_2 : x1 = (2 : Int32)
  · have hE := (if_pos c1_2).symm.trans hE
    refine lv_tableIn (tgt := 49) hx hb dX1_over_1 (by rw [c1_2]; decide) (by rw [c1_2]; decide) (by rw [c1_2]; rfl) (by decide) ?_
    refine lv_aload_n hx hb dX1_over_49 rfl (lv_at hl 0 rfl) ?_
    refine lv_iload_n hx hb dX1_over_50 rfl (lv_at hl 2 rfl) ?_
    refine lv_iload_n hx hb dX1_over_51 rfl (lv_at hl 3 rfl) ?_
    obtain ⟨q52, hq52, hE⟩ := x_bind hE
    refine i_X1_11 hB hz (c_X1_standAt l g k_r0 hq52) ⟨(Nat.le_of_ble_eq_true rfl), (Nat.le_of_ble_eq_true rfl)⟩ hl.1 (Nat.le_of_ble_eq_true rfl) dX1_over_52 (fun H locs hz => ?_)
    refine lv_goto (tgt := 96) hx hb dX1_over_55 (by decide) ?_
    exact x_vret hB hz hE dX1_over_96
  have hE := (if_neg c1_2).symm.trans hE
  by_cases c1_3 : x1 = (3 : Int32)
  · have hE := (if_pos c1_3).symm.trans hE
    refine lv_tableIn (tgt := 58) hx hb dX1_over_1 (by rw [c1_3]; decide) (by rw [c1_3]; decide) (by rw [c1_3]; rfl) (by decide) ?_
    refine lv_aload_n hx hb dX1_over_58 rfl (lv_at hl 0 rfl) ?_
    refine lv_iconst (v := (3 : Int32)) hx hb dX1_over_59 (by decide) ?_
    refine lv_aload_n hx hb dX1_over_60 rfl (lv_at hl 0 rfl) ?_
    refine lv_iconst (v := (0 : Int32)) hx hb dX1_over_61 (by decide) ?_
    refine lv_iconst (v := (3 : Int32)) hx hb dX1_over_62 (by decide) ?_
    obtain ⟨hi63, hE⟩ := x_chk hE
    refine x_copy (n0 := 6) (n1 := 6) hB hz k_r0 k_r0 hi63 hl.1 kw_482 kw_309 kw_308 kw_70 (Nat.le_of_ble_eq_true rfl) (Nat.le_of_ble_eq_true rfl) dX1_over_63 (fun H locs hz => ?_)
    refine lv_aload_n hx hb dX1_over_66 rfl (lv_at hl 0 rfl) ?_
    refine lv_iload_n hx hb dX1_over_67 rfl (lv_at hl 2 rfl) ?_
    refine lv_aload_n hx hb dX1_over_68 rfl (lv_at hl 0 rfl) ?_
    refine lv_iload_n hx hb dX1_over_69 rfl (lv_at hl 2 rfl) ?_
    obtain ⟨hi70, hE⟩ := x_chk hE
    refine x_iald (n := 6) hB hz k_r0 hi70 dX1_over_70 ?_
    refine lv_iconst (v := (1 : Int32)) hx hb dX1_over_71 (by decide) ?_
    refine lv_iadd hx hb dX1_over_72 ?_
    obtain ⟨q73, hq73, hE⟩ := x_bind hE
    refine i_X1_11 hB hz (c_X1_standAt l g k_r0 hq73) ⟨(Nat.le_of_ble_eq_true rfl), (Nat.le_of_ble_eq_true rfl)⟩ hl.1 (Nat.le_of_ble_eq_true rfl) dX1_over_73 (fun H locs hz => ?_)
    refine lv_goto (tgt := 96) hx hb dX1_over_76 (by decide) ?_
    exact x_vret hB hz hE dX1_over_96
  have hE := (if_neg c1_3).symm.trans hE
  by_cases c1_4 : x1 = (4 : Int32)
  · have hE := (if_pos c1_4).symm.trans hE
    refine lv_tableIn (tgt := 96) hx hb dX1_over_1 (by rw [c1_4]; decide) (by rw [c1_4]; decide) (by rw [c1_4]; rfl) (by decide) ?_
    exact x_vret hB hz hE dX1_over_96
  have hE := (if_neg c1_4).symm.trans hE
  by_cases c1_5 : x1 = (5 : Int32)
  · have hE := (if_pos c1_5).symm.trans hE
    refine lv_tableIn (tgt := 79) hx hb dX1_over_1 (by rw [c1_5]; decide) (by rw [c1_5]; decide) (by rw [c1_5]; rfl) (by decide) ?_
    refine lv_aload_n hx hb dX1_over_79 rfl (lv_at hl 0 rfl) ?_
    refine lv_iconst (v := (0 : Int32)) hx hb dX1_over_80 (by decide) ?_
    refine lv_aload_n hx hb dX1_over_81 rfl (lv_at hl 0 rfl) ?_
    refine lv_iconst (v := (3 : Int32)) hx hb dX1_over_82 (by decide) ?_
    refine lv_iconst (v := (3 : Int32)) hx hb dX1_over_83 (by decide) ?_
    obtain ⟨hi84, hE⟩ := x_chk hE
    refine x_copy (n0 := 6) (n1 := 6) hB hz k_r0 k_r0 hi84 hl.1 kw_482 kw_309 kw_308 kw_70 (Nat.le_of_ble_eq_true rfl) (Nat.le_of_ble_eq_true rfl) dX1_over_84 (fun H locs hz => ?_)
    refine lv_aload_n hx hb dX1_over_87 rfl (lv_at hl 0 rfl) ?_
    refine lv_iconst (v := (0 : Int32)) hx hb dX1_over_88 (by decide) ?_
    refine lv_iconst (v := (0 : Int32)) hx hb dX1_over_89 (by decide) ?_
    obtain ⟨q90, hq90, hE⟩ := x_bind hE
    refine i_X1_11 hB hz (c_X1_standAt l g k_r0 hq90) ⟨(Nat.le_of_ble_eq_true rfl), (Nat.le_of_ble_eq_true rfl)⟩ hl.1 (Nat.le_of_ble_eq_true rfl) dX1_over_90 (fun H locs hz => ?_)
    refine lv_goto (tgt := 96) hx hb dX1_over_93 (by decide) ?_
    exact x_vret hB hz hE dX1_over_96
  have hE := (if_neg c1_5).symm.trans hE
  have nc1_1 := x_nei c1_1 (k := 1) (by decide)
  have nc1_2 := x_nei c1_2 (k := 2) (by decide)
  have nc1_3 := x_nei c1_3 (k := 3) (by decide)
  have nc1_4 := x_nei c1_4 (k := 4) (by decide)
  have nc1_5 := x_nei c1_5 (k := 5) (by decide)
  refine lv_tableOut (tgt := 96) hx hb dX1_over_1 (by omega) (by decide) ?_
  exact x_vret hB hz hE dX1_over_96
theorem c_X1_over (l : Launch) (g : GP) {r0 : Nat} (k_r0 : KD LX r0 22) {x1 : Int32} {x2 : Int32} {x3 : Int32} {V : Mem} {o : Mem} (hE : f_X1_over r0 x1 x2 x3 V = some o) : CT l g LX yX1_over cX1_over 4 none rm_X1_over [.ref (ad g r0), .int x1, .int x2, .int x3] V none o := by
  refine ct_of (by decide) (Nat.le_of_ble_eq_true rfl) ?_
  intro p e s m args below meth c ls hB hz hl
  exact w_X1_over hB _ _ _ _ _ _ _ _ k_r0 hE hz hl
def rm_X1_toThemselves : Room := { frames := 0, cells := 0, slots := 0, locals := 0 }
set_option maxHeartbeats 4000000 in
set_option maxRecDepth 100000 in
theorem w_X1_toThemselves_2 {p : Program} {l : Launch} {e : Env} {s : State} {m : MethodId} {args : Array Value} {below : List Frame} {meth : Method} {c : Code} {g : GP} (hB : BX p s m args meth c g LX cX1_toThemselves 2 RX1 none) {o : Mem} : ∀ (n : Nat), ∀ (r0 : Nat) (x1 : Int32) (V : Mem) (H : Heap) (locs : List Loc) (ls : Array Slot), KD LX r0 22 → f_X1_toThemselves_2 n r0 x1 V = some o → OK g LX V s H locs → lv_has ls 2 [(0, .ref (ad g r0)), (1, .int x1)] → W p l e rm_X1_toThemselves s m args below meth c H locs 0 0 (MQ below (QQ g LX none o) args s 0 0 (Ar g LX)) (F0 m 2 ls []) := by
  obtain ⟨hx, hb, hml, hown, hT, hr, hlk, hK, hJ, hZ, hN⟩ := id hB
  intro n
  induction n with
  | zero =>
    intro r0 x1 V H locs ls k_r0 hE hz hl
    exact absurd (show (none : Option (Mem)) = some o from hE) (by simp)
  | succ n ih =>
    intro r0 x1 V H locs ls k_r0 hE hz hl
    unfold f_X1_toThemselves_2 at hE
    refine lv_iload_n hx hb dX1_toThemselves_2 rfl (lv_at hl 1 rfl) ?_
    refine lv_bipush (v := (6 : Int32)) hx hb dX1_toThemselves_3 (by decide) ?_
    refine lv_icmp_ge (tgt := 24) hx hb dX1_toThemselves_5 (by decide) (fun c5 => ?_) (fun c5 => ?_)
    · have hE := (if_pos c5).symm.trans hE
      exact x_vret hB hz hE dX1_toThemselves_24
    · have hE := (if_neg c5).symm.trans hE
      refine lv_aload_n hx hb dX1_toThemselves_8 rfl (lv_at hl 0 rfl) ?_
      refine lv_iload_n hx hb dX1_toThemselves_9 rfl (lv_at hl 1 rfl) ?_
      refine lv_iload_n hx hb dX1_toThemselves_10 rfl (lv_at hl 1 rfl) ?_
      refine lv_iconst (v := (1 : Int32)) hx hb dX1_toThemselves_11 (by decide) ?_
      refine lv_iadd hx hb dX1_toThemselves_12 ?_
      refine lv_sipush (v := (1000 : Int32)) hx hb dX1_toThemselves_13 (by decide) ?_
      refine lv_imul hx hb dX1_toThemselves_16 ?_
      obtain ⟨hi17, hE⟩ := x_chk hE
      refine x_iast (n := 6) hB hz k_r0 hi17 dX1_toThemselves_17 (fun H locs hz => ?_)
      refine lv_iinc (v := (x1 + 1)) (lv' := [(1, .int (x1 + 1)), (0, .ref (ad g r0))]) hx hb dX1_toThemselves_18 hl (k := 1) rfl rfl (by decide) rfl (fun ls hl => ?_)
      refine lv_goto (tgt := 2) hx hb dX1_toThemselves_21 (by decide) ?_
      exact ih _ _ _ _ _ _ k_r0 hE hz (lv_sub hl [1, 0] rfl)

set_option maxHeartbeats 4000000 in
set_option maxRecDepth 100000 in
theorem w_X1_toThemselves {p : Program} {l : Launch} {e : Env} {s : State} {m : MethodId} {args : Array Value} {below : List Frame} {meth : Method} {c : Code} {g : GP} (hB : BX p s m args meth c g LX cX1_toThemselves 2 RX1 none) {o : Mem} : ∀ (r0 : Nat) (V : Mem) (H : Heap) (locs : List Loc) (ls : Array Slot), KD LX r0 22 → f_X1_toThemselves r0 V = some o → OK g LX V s H locs → lv_has ls 2 [(0, .ref (ad g r0))] → W p l e rm_X1_toThemselves s m args below meth c H locs 0 0 (MQ below (QQ g LX none o) args s 0 0 (Ar g LX)) (F0 m 0 ls []) := by
  obtain ⟨hx, hb, hml, hown, hT, hr, hlk, hK, hJ, hZ, hN⟩ := id hB
  intro r0 V H locs ls k_r0 hE hz hl
  unfold f_X1_toThemselves at hE
  refine lv_iconst (v := (0 : Int32)) hx hb dX1_toThemselves_0 (by decide) ?_
  refine lv_istore_n (lv' := [(1, .int (0 : Int32)), (0, .ref (ad g r0))]) hx hb dX1_toThemselves_1 rfl hl (by decide) rfl (fun ls hl => ?_)
  exact w_X1_toThemselves_2 hB  _ _ _ _ _ _ _ k_r0 hE hz (lv_sub hl [1, 0] rfl)
theorem c_X1_toThemselves (l : Launch) (g : GP) {r0 : Nat} (k_r0 : KD LX r0 22) {V : Mem} {o : Mem} (hE : f_X1_toThemselves r0 V = some o) : CT l g LX yX1_toThemselves cX1_toThemselves 2 none rm_X1_toThemselves [.ref (ad g r0)] V none o := by
  refine ct_of (by decide) (Nat.le_of_ble_eq_true rfl) ?_
  intro p e s m args below meth c ls hB hz hl
  exact w_X1_toThemselves hB _ _ _ _ _ k_r0 hE hz hl
def rm_X1_sourceOf : Room := { frames := 0, cells := 0, slots := 0, locals := 0 }
set_option maxHeartbeats 4000000 in
set_option maxRecDepth 100000 in
theorem w_X1_sourceOf {p : Program} {l : Launch} {e : Env} {s : State} {m : MethodId} {args : Array Value} {below : List Frame} {meth : Method} {c : Code} {g : GP} (hB : BX p s m args meth c g LX cX1_sourceOf 1 RX1 (some .int)) {o : Int32 × Mem} : ∀ (x0 : Int32) (V : Mem) (H : Heap) (locs : List Loc) (ls : Array Slot), f_X1_sourceOf x0 V = some o → OK g LX V s H locs → lv_has ls 1 [(0, .int x0)] → W p l e rm_X1_sourceOf s m args below meth c H locs 0 0 (MQ below (QQ g LX (some (.int o.1)) o.2) args s 0 0 (Ar g LX)) (F0 m 0 ls []) := by
  obtain ⟨hx, hb, hml, hown, hT, hr, hlk, hK, hJ, hZ, hN⟩ := id hB
  intro x0 V H locs ls hE hz hl
  unfold f_X1_sourceOf at hE
  refine lv_iload_n hx hb dX1_sourceOf_0 rfl (lv_at hl 0 rfl) ?_
  refine lv_sipush (v := (1000 : Int32)) hx hb dX1_sourceOf_1 (by decide) ?_
  refine lv_idiv hx hb dX1_sourceOf_4 (by decide) ?_
  refine lv_iconst (v := (1 : Int32)) hx hb dX1_sourceOf_5 (by decide) ?_
  refine lv_isub hx hb dX1_sourceOf_6 ?_
  exact x_iret hB hz hE dX1_sourceOf_7
theorem c_X1_sourceOf (l : Launch) (g : GP) {x0 : Int32} {V : Mem} {o : Int32 × Mem} (hE : f_X1_sourceOf x0 V = some o) : CT l g LX yX1_sourceOf cX1_sourceOf 1 (some .int) rm_X1_sourceOf [.int x0] V (some (.int o.1)) o.2 := by
  refine ct_of (by decide) (Nat.le_of_ble_eq_true rfl) ?_
  intro p e s m args below meth c ls hB hz hl
  exact w_X1_sourceOf hB _ _ _ _ _  hE hz hl
def rm_X1_amountOf : Room := { frames := 0, cells := 0, slots := 0, locals := 0 }
set_option maxHeartbeats 4000000 in
set_option maxRecDepth 100000 in
theorem w_X1_amountOf {p : Program} {l : Launch} {e : Env} {s : State} {m : MethodId} {args : Array Value} {below : List Frame} {meth : Method} {c : Code} {g : GP} (hB : BX p s m args meth c g LX cX1_amountOf 1 RX1 (some .int)) {o : Int32 × Mem} : ∀ (x0 : Int32) (V : Mem) (H : Heap) (locs : List Loc) (ls : Array Slot), f_X1_amountOf x0 V = some o → OK g LX V s H locs → lv_has ls 1 [(0, .int x0)] → W p l e rm_X1_amountOf s m args below meth c H locs 0 0 (MQ below (QQ g LX (some (.int o.1)) o.2) args s 0 0 (Ar g LX)) (F0 m 0 ls []) := by
  obtain ⟨hx, hb, hml, hown, hT, hr, hlk, hK, hJ, hZ, hN⟩ := id hB
  intro x0 V H locs ls hE hz hl
  unfold f_X1_amountOf at hE
  refine lv_iload_n hx hb dX1_amountOf_0 rfl (lv_at hl 0 rfl) ?_
  refine lv_sipush (v := (1000 : Int32)) hx hb dX1_amountOf_1 (by decide) ?_
  refine lv_irem hx hb dX1_amountOf_4 (by decide) ?_
  exact x_iret hB hz hE dX1_amountOf_5
theorem c_X1_amountOf (l : Launch) (g : GP) {x0 : Int32} {V : Mem} {o : Int32 × Mem} (hE : f_X1_amountOf x0 V = some o) : CT l g LX yX1_amountOf cX1_amountOf 1 (some .int) rm_X1_amountOf [.int x0] V (some (.int o.1)) o.2 := by
  refine ct_of (by decide) (Nat.le_of_ble_eq_true rfl) ?_
  intro p e s m args below meth c ls hB hz hl
  exact w_X1_amountOf hB _ _ _ _ _  hE hz hl

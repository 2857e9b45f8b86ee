theorem kc_63 : Cond.initialized RX5 ∈ lw_g := mg 63 (by decide +kernel) (by decide +kernel)
theorem kc_64 : Cond.initialized RX3 ∈ lw_g := mg 64 (by decide +kernel) (by decide +kernel)
theorem kc_65 : Cond.initialized RX0 ∈ lw_g := mg 65 (by decide +kernel) (by decide +kernel)
theorem kc_66 : Cond.initialized RX4 ∈ lw_g := mg 66 (by decide +kernel) (by decide +kernel)
theorem kc_67 : Cond.initialized RX2 ∈ lw_g := mg 67 (by decide +kernel) (by decide +kernel)
theorem kc_79 : Cond.methodLink RX6 3 objectInit ∈ lw_g := mg 79 (by decide +kernel) (by decide +kernel)
theorem kc_82 : Cond.classLink RX6 9 RX2 ∈ lw_g := mg 82 (by decide +kernel) (by decide +kernel)
theorem kc_84 : Cond.classLink RX6 15 RX5 ∈ lw_g := mg 84 (by decide +kernel) (by decide +kernel)
theorem kc_85 : Cond.instantiable RX5 7 ∈ lw_g := mg 85 (by decide +kernel) (by decide +kernel)
theorem kc_87 : Cond.instanceMethod yX5_init ∈ lw_g := mg 87 (by decide +kernel) (by decide +kernel)
theorem kc_88 : Cond.code yX5_init cX5_init 1 none ∈ lw_g := mg 88 (by decide +kernel) (by decide +kernel)
theorem kc_116 : Cond.classLink RX6 22 RX3 ∈ lw_g := mg 116 (by decide +kernel) (by decide +kernel)
theorem kc_117 : Cond.instantiable RX3 7 ∈ lw_g := mg 117 (by decide +kernel) (by decide +kernel)
theorem kc_119 : Cond.instanceMethod yX3_init ∈ lw_g := mg 119 (by decide +kernel) (by decide +kernel)
theorem kc_120 : Cond.code yX3_init cX3_init 1 none ∈ lw_g := mg 120 (by decide +kernel) (by decide +kernel)
theorem kc_155 : Cond.classLink RX6 36 RX0 ∈ lw_g := mg 155 (by decide +kernel) (by decide +kernel)
theorem kc_156 : Cond.instantiable RX0 3 ∈ lw_g := mg 156 (by decide +kernel) (by decide +kernel)
theorem kc_158 : Cond.instanceMethod yX0_init ∈ lw_g := mg 158 (by decide +kernel) (by decide +kernel)
theorem kc_159 : Cond.code yX0_init cX0_init 1 none ∈ lw_g := mg 159 (by decide +kernel) (by decide +kernel)
theorem kc_173 : Cond.classLink RX6 43 RX4 ∈ lw_g := mg 173 (by decide +kernel) (by decide +kernel)
theorem kc_175 : Cond.instantiable RX4 2 ∈ lw_g := mg 175 (by decide +kernel) (by decide +kernel)
theorem kc_177 : Cond.instanceMethod yX4_init ∈ lw_g := mg 177 (by decide +kernel) (by decide +kernel)
theorem kc_178 : Cond.code yX4_init cX4_init 1 none ∈ lw_g := mg 178 (by decide +kernel) (by decide +kernel)
theorem kc_191 : Cond.instantiable RX2 3 ∈ lw_g := mg 191 (by decide +kernel) (by decide +kernel)
theorem kc_193 : Cond.instanceMethod yX2_init ∈ lw_g := mg 193 (by decide +kernel) (by decide +kernel)
theorem kc_194 : Cond.code yX2_init cX2_init 1 none ∈ lw_g := mg 194 (by decide +kernel) (by decide +kernel)
theorem kc_211 : Cond.fieldLink RX6 11 "CountedLists" "rows" "[LCountedLists$Row;" ∈ lw_g := mg 211 (by decide +kernel) (by decide +kernel)
theorem kc_212 : Cond.fieldLink RX6 18 "CountedLists" "tape" "LCountedLists$Tape;" ∈ lw_g := mg 212 (by decide +kernel) (by decide +kernel)
theorem kc_213 : Cond.fieldLink RX6 25 "CountedLists" "now" "LCountedLists$Sheet;" ∈ lw_g := mg 213 (by decide +kernel) (by decide +kernel)
theorem kc_214 : Cond.fieldLink RX6 29 "CountedLists" "trial" "LCountedLists$Sheet;" ∈ lw_g := mg 214 (by decide +kernel) (by decide +kernel)
theorem kc_215 : Cond.fieldLink RX6 32 "CountedLists" "images" "[LCountedLists$Sheet;" ∈ lw_g := mg 215 (by decide +kernel) (by decide +kernel)
theorem kc_216 : Cond.fieldLink RX6 39 "CountedLists" "acts" "LCountedLists$Acts;" ∈ lw_g := mg 216 (by decide +kernel) (by decide +kernel)
theorem kc_217 : Cond.fieldLink RX6 45 "CountedLists" "signs" "[LCountedLists$Signs;" ∈ lw_g := mg 217 (by decide +kernel) (by decide +kernel)
theorem kc_218 : Cond.fieldLink RX6 50 "CountedLists" "trialSigns" "LCountedLists$Signs;" ∈ lw_g := mg 218 (by decide +kernel) (by decide +kernel)
theorem kc_219 : Cond.fieldLink RX6 54 "CountedLists" "trialCells" "[I" ∈ lw_g := mg 219 (by decide +kernel) (by decide +kernel)
theorem kc_220 : Cond.fieldLink RX6 58 "CountedLists" "restarts" "[I" ∈ lw_g := mg 220 (by decide +kernel) (by decide +kernel)
theorem kc_221 : Cond.fieldLink RX6 61 "CountedLists" "traced" "[I" ∈ lw_g := mg 221 (by decide +kernel) (by decide +kernel)
theorem kc_222 : Cond.fieldLink RX6 64 "CountedLists" "tracedCount" "I" ∈ lw_g := mg 222 (by decide +kernel) (by decide +kernel)
theorem kc_223 : Cond.fieldLink RX6 68 "CountedLists" "latestFinding" "I" ∈ lw_g := mg 223 (by decide +kernel) (by decide +kernel)
theorem kc_224 : Cond.fieldLink RX6 71 "CountedLists" "latestFault" "I" ∈ lw_g := mg 224 (by decide +kernel) (by decide +kernel)
/-! The class's own constructor. -/
def rm_X6_init : Room := { frames := 2, cells := 224, slots := 2366, locals := 32 }
def V0X : Mem := fun i => vk (LX.1 i)
def fsX (g : GP) : List Value := [.ref (ad g 1), .ref (ad g 2), .ref (ad g 4), .ref (ad g 35), .ref (ad g 66), .ref (ad g 67), .ref (ad g 93), .ref (ad g 94), .ref (ad g 96), .ref (ad g 97), .ref (ad g 98), .int 0, .int 0, .int 0]
def lf (g : GP) (a b j : Nat) : Nat → Option Nat := fun k => if k < j then some (ad g (a + b * k)) else none
theorem lf_up (g : GP) (a b j : Nat) : va_up (lf g a b j) j (some (ad g (a + b * j))) = lf g a b (j + 1) := by
  funext k
  unfold va_up lf
  by_cases e : k = j
  · rw [if_pos e, if_pos (by omega), e]
  · rw [if_neg e]
    by_cases e2 : k < j
    · rw [if_pos e2, if_pos (by omega)]
    · rw [if_neg e2, if_neg (by omega)]
theorem lf_0 (g : GP) (a b : Nat) : lf g a b 0 = fun _ => none := by
  funext k
  exact if_neg (by omega)
theorem dfX0 : ∀ j, j < 3 → defaultValue (tyX0 j) = vp_V [.null, .int 0, .int 0] j := by
  intro j hj
  rcases (show j = 0 ∨ j = 1 ∨ j = 2 by omega) with rfl | rfl | rfl <;> rfl
theorem dfX2 : ∀ j, j < 3 → defaultValue (tyX2 j) = vp_V [.null, .int 0, .int 0] j := by
  intro j hj
  rcases (show j = 0 ∨ j = 1 ∨ j = 2 by omega) with rfl | rfl | rfl <;> rfl
theorem dfX3 : ∀ j, j < 7 → defaultValue (tyX3 j) = vp_V [.null, .null, .null, .null, .int 0, .null, .int 0] j := by
  intro j hj
  rcases (show j = 0 ∨ j = 1 ∨ j = 2 ∨ j = 3 ∨ j = 4 ∨ j = 5 ∨ j = 6 by omega) with rfl | rfl | rfl | rfl | rfl | rfl | rfl <;> rfl
theorem dfX4 : ∀ j, j < 2 → defaultValue (tyX4 j) = vp_V [.null, .int 0] j := by
  intro j hj
  rcases (show j = 0 ∨ j = 1 by omega) with rfl | rfl <;> rfl
theorem dfX5 : ∀ j, j < 7 → defaultValue (tyX5 j) = vp_V [.null, .int 0, .int 0, .int 0, .int 0, .int 0, .int 0] j := by
  intro j hj
  rcases (show j = 0 ∨ j = 1 ∨ j = 2 ∨ j = 3 ∨ j = 4 ∨ j = 5 ∨ j = 6 by omega) with rfl | rfl | rfl | rfl | rfl | rfl | rfl <;> rfl
theorem nk_X2 : ∀ j, j < 8 → ∀ k, k < 2 → (LX.1 (99 + 2 * j + k) = kRw k ∧ 99 + 2 * j + k ≠ 1 ∧ 99 + 2 * j + k ≠ 66 ∧ 99 + 2 * j + k ≠ 93) := by decide +kernel
set_option maxHeartbeats 4000000 in
set_option maxRecDepth 100000 in
theorem xl1 {p : Program} {l : Launch} {e : Env} {s : State} {m : MethodId} {args : Array Value} {below : List Frame} {meth : Method} {c : Code} {Q : State → Prop} {g : GP} (hg : ∀ i, ad g i = ad g 0 + i) (hB : BZ p s m args c g cX6_init 2 RX6)
    (kk : ∀ (H : Heap) (locs : List Loc) (ls : Array Slot), YZ g 115 (fsX g) (lf g 99 2 8) (fun _ => none) (fun _ => none) s H locs → lv_has ls 2 [(0, .ref (ad g 0)), (1, .int (nI 8))] → W p l e rm_X6_init s m args below meth c H locs 114 1252 Q (F0 m 150 ls [])) : ∀ (d j : Nat) (H : Heap) (locs : List Loc) (ls : Array Slot), j + d = 8 → YZ g (99 + 2 * j) (fsX g) (lf g 99 2 j) (fun _ => none) (fun _ => none) s H locs → lv_has ls 2 [(0, .ref (ad g 0)), (1, .int (nI j))] → W p l e rm_X6_init s m args below meth c H locs (98 + 2 * j) (908 + 43 * j) Q (F0 m 125 ls []) := by
  obtain ⟨hx, hb, hml, hown, hT, hCK, -⟩ := id hB
  intro d
  induction d with
  | zero =>
    intro j H locs ls hj hz hl
    have e : j = 8 := by omega
    subst e
    refine lv_iload_n hx hb dX6_init_125 rfl (lv_at hl 1 rfl) ?_
    refine lv_bipush (v := (8 : Int32)) hx hb dX6_init_126 (by decide) ?_
    refine lv_icmp_ge (tgt := 150) hx hb dX6_init_128 (by decide) (fun c1 => ?_) (fun c1 => absurd (by decide) c1)
    exact kk H locs ls hz hl
  | succ d ih =>
    intro j H locs ls hj hz hl
    have hj8 : j < 8 := by omega
    refine lv_iload_n hx hb dX6_init_125 rfl (lv_at hl 1 rfl) ?_
    refine lv_bipush (v := (8 : Int32)) hx hb dX6_init_126 (by decide) ?_
    refine lv_icmp_ge (tgt := 150) hx hb dX6_init_128 (by decide) (fun c1 => absurd c1 (by show ¬ nI 8 ≤ nI j; rw [nle (by omega) (by omega)]; omega)) (fun c1 => ?_)
    refine lv_aload_n hx hb dX6_init_131 rfl (lv_at hl 0 rfl) ?_
    refine y_get (v := .ref (ad g 1)) hB hz (by omega) 0 (by decide) kc_211 rfl dX6_init_132 ?_
    refine lv_iload_n hx hb dX6_init_135 rfl (lv_at hl 1 rfl) ?_
    refine y_obj (n := 99 + 2 * j) (C := RX2) (T := TX2) (N := 3) (ci := 1) (dfs := [.null, .int 0, .int 0]) (mc := 1) (ms := 40) (rest := [.int (nI j), .ref (ad g 1)]) hB hz (by omega) (c_X2_init l hg) (nk_X2 j hj8) inX2g tyX2 tyX2_ok kc_82 kc_191 kc_67 rfl dfX2 rfl rfl (by simp [cnw]) rfl rfl kc_194 kc_193 (by decide +kernel) ⟨(Nat.le_of_ble_eq_true rfl), (Nat.le_of_ble_eq_true rfl)⟩ ⟨by show 98 + 2 * j + 1 + 1 ≤ 224; omega, by show 908 + 43 * j + 3 + 40 ≤ 2366; omega⟩ hl.1 (Nat.le_of_ble_eq_true rfl) dX6_init_136 dX6_init_139 dX6_init_140 (fun H locs hz => ?_)
    refine y_s1 (v := 99 + 2 * j) (j := j) hB hz (by omega) (by omega) ⟨(nk_X2 j hj8 0 (by omega)).1, by omega, by omega, by omega, by omega⟩ hj8 dX6_init_143 (fun H locs hz => ?_)
    rw [lf_up] at hz
    refine lv_iinc (v := nI (j + 1)) (lv' := [(1, .int (nI (j + 1))), (0, .ref (ad g 0))]) hx hb dX6_init_144 hl (k := 1) rfl (nI_add j 1) (by decide) rfl (fun ls hl => ?_)
    refine lv_goto (tgt := 125) hx hb dX6_init_147 (by decide) ?_
    refine W.widen (k := 98 + 2 * (j + 1)) (n := 908 + 43 * (j + 1)) (by omega) (by omega) ?_
    exact ih (j + 1) H locs ls (by omega) (by rw [show 99 + 2 * (j + 1) = 99 + 2 * j + 2 by omega]; exact hz) (lv_sub hl [1, 0] rfl)
theorem nk_X3 : ∀ j, j < 2 → ∀ k, k < 31 → (LX.1 (115 + 31 * j + k) = kSh k ∧ 115 + 31 * j + k ≠ 1 ∧ 115 + 31 * j + k ≠ 66 ∧ 115 + 31 * j + k ≠ 93) := by decide +kernel
set_option maxHeartbeats 4000000 in
set_option maxRecDepth 100000 in
theorem xl2 {p : Program} {l : Launch} {e : Env} {s : State} {m : MethodId} {args : Array Value} {below : List Frame} {meth : Method} {c : Code} {Q : State → Prop} {g : GP} (hg : ∀ i, ad g i = ad g 0 + i) (hB : BZ p s m args c g cX6_init 2 RX6)
    (kk : ∀ (H : Heap) (locs : List Loc) (ls : Array Slot), YZ g 177 (fsX g) (lf g 99 2 8) (lf g 115 31 2) (fun _ => none) s H locs → lv_has ls 2 [(0, .ref (ad g 0)), (1, .int (nI 2))] → W p l e rm_X6_init s m args below meth c H locs 176 1766 Q (F0 m 176 ls [])) : ∀ (d j : Nat) (H : Heap) (locs : List Loc) (ls : Array Slot), j + d = 2 → YZ g (115 + 31 * j) (fsX g) (lf g 99 2 8) (lf g 115 31 j) (fun _ => none) s H locs → lv_has ls 2 [(0, .ref (ad g 0)), (1, .int (nI j))] → W p l e rm_X6_init s m args below meth c H locs (114 + 31 * j) (1252 + 257 * j) Q (F0 m 152 ls []) := by
  obtain ⟨hx, hb, hml, hown, hT, hCK, -⟩ := id hB
  intro d
  induction d with
  | zero =>
    intro j H locs ls hj hz hl
    have e : j = 2 := by omega
    subst e
    refine lv_iload_n hx hb dX6_init_152 rfl (lv_at hl 1 rfl) ?_
    refine lv_iconst (v := (2 : Int32)) hx hb dX6_init_153 (by decide) ?_
    refine lv_icmp_ge (tgt := 176) hx hb dX6_init_154 (by decide) (fun c1 => ?_) (fun c1 => absurd (by decide) c1)
    exact kk H locs ls hz hl
  | succ d ih =>
    intro j H locs ls hj hz hl
    have hj8 : j < 2 := by omega
    refine lv_iload_n hx hb dX6_init_152 rfl (lv_at hl 1 rfl) ?_
    refine lv_iconst (v := (2 : Int32)) hx hb dX6_init_153 (by decide) ?_
    refine lv_icmp_ge (tgt := 176) hx hb dX6_init_154 (by decide) (fun c1 => absurd c1 (by show ¬ nI 2 ≤ nI j; rw [nle (by omega) (by omega)]; omega)) (fun c1 => ?_)
    refine lv_aload_n hx hb dX6_init_157 rfl (lv_at hl 0 rfl) ?_
    refine y_get (v := .ref (ad g 66)) hB hz (by omega) 4 (by decide) kc_215 rfl dX6_init_158 ?_
    refine lv_iload_n hx hb dX6_init_161 rfl (lv_at hl 1 rfl) ?_
    refine y_obj (n := 115 + 31 * j) (C := RX3) (T := TX3) (N := 7) (ci := 2) (dfs := [.null, .null, .null, .null, .int 0, .null, .int 0]) (mc := 30) (ms := 250) (rest := [.int (nI j), .ref (ad g 66)]) hB hz (by omega) (c_X3_init l hg) (nk_X3 j hj8) inX3g tyX3 tyX3_ok kc_116 kc_117 kc_64 rfl dfX3 rfl rfl (by simp [cnw]) rfl rfl kc_120 kc_119 (by decide +kernel) ⟨(Nat.le_of_ble_eq_true rfl), (Nat.le_of_ble_eq_true rfl)⟩ ⟨by show 114 + 31 * j + 1 + 30 ≤ 224; omega, by show 1252 + 257 * j + 7 + 250 ≤ 2366; omega⟩ hl.1 (Nat.le_of_ble_eq_true rfl) dX6_init_162 dX6_init_165 dX6_init_166 (fun H locs hz => ?_)
    refine y_s2 (v := 115 + 31 * j) (j := j) hB hz (by omega) (by omega) ⟨(nk_X3 j hj8 0 (by omega)).1, by omega, by omega, by omega, by omega⟩ hj8 dX6_init_169 (fun H locs hz => ?_)
    rw [lf_up] at hz
    refine lv_iinc (v := nI (j + 1)) (lv' := [(1, .int (nI (j + 1))), (0, .ref (ad g 0))]) hx hb dX6_init_170 hl (k := 1) rfl (nI_add j 1) (by decide) rfl (fun ls hl => ?_)
    refine lv_goto (tgt := 152) hx hb dX6_init_173 (by decide) ?_
    refine W.widen (k := 114 + 31 * (j + 1)) (n := 1252 + 257 * (j + 1)) (by omega) (by omega) ?_
    exact ih (j + 1) H locs ls (by omega) (by rw [show 115 + 31 * (j + 1) = 115 + 31 * j + 31 by omega]; exact hz) (lv_sub hl [1, 0] rfl)
theorem nk_X4 : ∀ j, j < 24 → ∀ k, k < 2 → (LX.1 (177 + 2 * j + k) = kSg k ∧ 177 + 2 * j + k ≠ 1 ∧ 177 + 2 * j + k ≠ 66 ∧ 177 + 2 * j + k ≠ 93) := by decide +kernel
set_option maxHeartbeats 4000000 in
set_option maxRecDepth 100000 in
theorem xl3 {p : Program} {l : Launch} {e : Env} {s : State} {m : MethodId} {args : Array Value} {below : List Frame} {meth : Method} {c : Code} {Q : State → Prop} {g : GP} (hg : ∀ i, ad g i = ad g 0 + i) (hB : BZ p s m args c g cX6_init 2 RX6)
    (kk : ∀ (H : Heap) (locs : List Loc) (ls : Array Slot), YZ g 225 (fsX g) (lf g 99 2 8) (lf g 115 31 2) (lf g 177 2 24) s H locs → lv_has ls 2 [(0, .ref (ad g 0)), (1, .int (nI 24))] → W p l e rm_X6_init s m args below meth c H locs 224 2366 Q (F0 m 203 ls [])) : ∀ (d j : Nat) (H : Heap) (locs : List Loc) (ls : Array Slot), j + d = 24 → YZ g (177 + 2 * j) (fsX g) (lf g 99 2 8) (lf g 115 31 2) (lf g 177 2 j) s H locs → lv_has ls 2 [(0, .ref (ad g 0)), (1, .int (nI j))] → W p l e rm_X6_init s m args below meth c H locs (176 + 2 * j) (1766 + 25 * j) Q (F0 m 178 ls []) := by
  obtain ⟨hx, hb, hml, hown, hT, hCK, -⟩ := id hB
  intro d
  induction d with
  | zero =>
    intro j H locs ls hj hz hl
    have e : j = 24 := by omega
    subst e
    refine lv_iload_n hx hb dX6_init_178 rfl (lv_at hl 1 rfl) ?_
    refine lv_bipush (v := (24 : Int32)) hx hb dX6_init_179 (by decide) ?_
    refine lv_icmp_ge (tgt := 203) hx hb dX6_init_181 (by decide) (fun c1 => ?_) (fun c1 => absurd (by decide) c1)
    exact kk H locs ls hz hl
  | succ d ih =>
    intro j H locs ls hj hz hl
    have hj8 : j < 24 := by omega
    refine lv_iload_n hx hb dX6_init_178 rfl (lv_at hl 1 rfl) ?_
    refine lv_bipush (v := (24 : Int32)) hx hb dX6_init_179 (by decide) ?_
    refine lv_icmp_ge (tgt := 203) hx hb dX6_init_181 (by decide) (fun c1 => absurd c1 (by show ¬ nI 24 ≤ nI j; rw [nle (by omega) (by omega)]; omega)) (fun c1 => ?_)
    refine lv_aload_n hx hb dX6_init_184 rfl (lv_at hl 0 rfl) ?_
    refine y_get (v := .ref (ad g 93)) hB hz (by omega) 6 (by decide) kc_217 rfl dX6_init_185 ?_
    refine lv_iload_n hx hb dX6_init_188 rfl (lv_at hl 1 rfl) ?_
    refine y_obj (n := 177 + 2 * j) (C := RX4) (T := TX4) (N := 2) (ci := 3) (dfs := [.null, .int 0]) (mc := 1) (ms := 23) (rest := [.int (nI j), .ref (ad g 93)]) hB hz (by omega) (c_X4_init l hg) (nk_X4 j hj8) inX4g tyX4 tyX4_ok kc_173 kc_175 kc_66 rfl dfX4 rfl rfl (by simp [cnw]) rfl rfl kc_178 kc_177 (by decide +kernel) ⟨(Nat.le_of_ble_eq_true rfl), (Nat.le_of_ble_eq_true rfl)⟩ ⟨by show 176 + 2 * j + 1 + 1 ≤ 224; omega, by show 1766 + 25 * j + 2 + 23 ≤ 2366; omega⟩ hl.1 (Nat.le_of_ble_eq_true rfl) dX6_init_189 dX6_init_192 dX6_init_193 (fun H locs hz => ?_)
    refine y_s3 (v := 177 + 2 * j) (j := j) hB hz (by omega) (by omega) ⟨(nk_X4 j hj8 0 (by omega)).1, by omega, by omega, by omega, by omega⟩ hj8 dX6_init_196 (fun H locs hz => ?_)
    rw [lf_up] at hz
    refine lv_iinc (v := nI (j + 1)) (lv' := [(1, .int (nI (j + 1))), (0, .ref (ad g 0))]) hx hb dX6_init_197 hl (k := 1) rfl (nI_add j 1) (by decide) rfl (fun ls hl => ?_)
    refine lv_goto (tgt := 178) hx hb dX6_init_200 (by decide) ?_
    refine W.widen (k := 176 + 2 * (j + 1)) (n := 1766 + 25 * (j + 1)) (by omega) (by omega) ?_
    exact ih (j + 1) H locs ls (by omega) (by rw [show 177 + 2 * (j + 1) = 177 + 2 * j + 2 by omega]; exact hz) (lv_sub hl [1, 0] rfl)
def QXI (g : GP) : Array Value → State → Outcome → State → Prop := va_Qv (fun _ : Unit => True) (fun _ t => va_P g.1 zcls (zW g LX V0X) t.heap ∧ t.heap.size = ad g 0 + 225) (FR g)
theorem ref_at {D : va_G} {a N : Nat} {cA : ClassId} {f f' : Nat → Option Nat} {H : Heap} (h : va_at D zcls (a, .inl (cA, N, qr f)) H) (hf : ∀ j, j < N → f j = f' j) : va_at D zcls (a, .inl (cA, N, qr f')) H := by
  show H[a]? = some (vp_cell cA (N, qr f'))
  have h1 : H[a]? = some (vp_cell cA (N, qr f)) := h
  rw [h1]
  unfold qr
  rw [vp_cell_q, vp_cell_q]
  unfold arrV
  congr 3
  funext j
  show va_rf (f j.val) = va_rf (f' j.val)
  rw [hf j.val j.isLt]
theorem yz_end {g : GP} {s : State} {H : Heap} {locs : List Loc} (hz : YZ g 225 (fsX g) (lf g 99 2 8) (lf g 115 31 2) (lf g 177 2 24) s H locs) : va_P g.1 zcls (zW g LX V0X) H ∧ H.size = ad g 0 + 225 := by
  obtain ⟨E, ⟨⟨h1, h2⟩, h3⟩, a1, a2, a3, a4, a5⟩ := hz
  refine ⟨fun k q hq => ?_, h1⟩
  obtain ⟨k1, k2⟩ := zW_ad hq
  have k1 : k < 225 := k1
  rw [zW_k ⟨k1, rfl⟩] at hq
  cases hq
  have hc := h2 k k1
  by_cases c0 : k = 0
  · subst c0
    rw [a1] at hc
    exact hc
  by_cases c1 : k = 1
  · subst c1
    rw [a2 (by omega)] at hc
    exact ref_at hc (fun j hj => if_pos hj)
  by_cases c2 : k = 66
  · subst c2
    rw [a3 (by omega)] at hc
    exact ref_at hc (fun j hj => if_pos hj)
  by_cases c3 : k = 93
  · subst c3
    rw [a4 (by omega)] at hc
    exact ref_at hc (fun j hj => if_pos hj)
  rw [a5 k k1 c0 c1 c2 c3] at hc
  exact hc
set_option maxHeartbeats 8000000 in
set_option maxRecDepth 100000 in
theorem c_X6_init (l : Launch) {g : GP} (hg : ∀ i, ad g i = ad g 0 + i) {E : Nat → va_E} (hE : E 0 = .inr (5, [.null, .null, .null, .null, .null, .null, .null, .null, .null, .null, .null, .int 0, .int 0, .int 0])) : Met l yX6_init (wy yX6_init cX6_init 2 none) rm_X6_init (va_Pc [.ref (ad g 0)] (fun U => ZR g 1 E U.heap ∧ CK g U)) (QXI g) 224 2366 (FR g) := by
  refine Met.ofW (cc := cX6_init) (maxL := 2) (ret := none) (by decide) rfl ?_
  intro p e s m args below meth c s₁ B hml hv
  obtain ⟨hargs, hZ, hCK⟩ := hv
  subst hargs
  have hts := atoms_spec (ws := wy yX6_init cX6_init 2 none) B.pre
  have hown : s.vm.findClass RX6 = some m.cls := findClass_of_methodNamed B.named
  have hl := lv_entry [.ref (ad g 0)] (n := 2) (Nat.le_of_ble_eq_true rfl)
  rw [lg_entry_eq]
  have hr := B.returns
  have hlk := B.notSynchronized
  have hnm : meth.name = "<init>" := (name_of_methodNamed B.named B.method).1
  have hB : BZ p s m [Value.ref (ad g 0)].toArray c g cX6_init 2 RX6 := ⟨B.exec, B.bytes, hml, hown, fun w hw => hts w (List.mem_cons_of_mem _ hw), hCK, hg⟩
  have hz : YZ g 1 [.null, .null, .null, .null, .null, .null, .null, .null, .null, .null, .null, .int 0, .int 0, .int 0] (fun _ => none) (fun _ => none) (fun _ => none) s s.heap [] := ⟨E, ⟨hZ, va_S.rf⟩, hE, fun q => absurd q (by omega), fun q => absurd q (by omega), fun q => absurd q (by omega), fun i hi q0 => absurd hi (by omega)⟩
  generalize (lg_sl [Value.ref (ad g 0)] ++ List.replicate (2 - (lg_sl [Value.ref (ad g 0)]).length) Slot.unset).toArray = ls at hl ⊢
  have hl : lv_has ls 2 [(0, .ref (ad g 0))] := hl
  obtain ⟨hx, hb, -, -, hT, -, -⟩ := id hB
  refine lv_aload_n hx hb dX6_init_0 rfl (lv_at hl 0 rfl) ?_
  refine W.objInit hx hb hown (hT _ kc_79) (hT _ kc_80) (hT _ kc_81) rfl (by rw [hml]; exact hl.1) rfl dX6_init_1 (Nat.le_of_ble_eq_true rfl) (Nat.le_of_ble_eq_true rfl) ?_
  refine lv_aload_n hx hb dX6_init_4 rfl (lv_at hl 0 rfl) ?_
  refine lv_bipush (v := (8 : Int32)) hx hb dX6_init_5 (by decide) ?_
  refine y_n1 hB hz kc_82 (Nat.le_of_ble_eq_true rfl) (Nat.le_of_ble_eq_true rfl) dX6_init_7 (fun H hz => ?_)
  refine y_putF (v := .ref (ad g 1)) (ty := .array (.object RX2)) hB hnm hz (by decide) 0 (by decide) kc_211 rfl rfl (by decide +kernel) rfl rfl (Nat.le_of_ble_eq_true rfl) dX6_init_10 (fun H locs hz => ?_)
  have hz : YZ g 2 [.ref (ad g 1), .null, .null, .null, .null, .null, .null, .null, .null, .null, .null, .int 0, .int 0, .int 0] (fun _ => none) (fun _ => none) (fun _ => none) s H locs := hz
  refine lv_aload_n hx hb dX6_init_13 rfl (lv_at hl 0 rfl) ?_
  have hk2 : ∀ k, k < 2 → (LX.1 (2 + k) = kTp k ∧ 2 + k ≠ 1 ∧ 2 + k ≠ 66 ∧ 2 + k ≠ 93) := by decide +kernel
  refine y_obj (n := 2) (C := RX5) (T := TX5) (N := 7) (ci := 4) (dfs := [.null, .int 0, .int 0, .int 0, .int 0, .int 0, .int 0]) (mc := 1) (ms := 130) (rest := [.ref (ad g 0)]) hB hz (by decide) (c_X5_init l hg) hk2 inX5g tyX5 tyX5_ok kc_84 kc_85 kc_63 rfl dfX5 rfl rfl (by simp [cnw]) rfl rfl kc_88 kc_87 (by decide +kernel) ⟨(Nat.le_of_ble_eq_true rfl), (Nat.le_of_ble_eq_true rfl)⟩ ⟨(Nat.le_of_ble_eq_true rfl), (Nat.le_of_ble_eq_true rfl)⟩ hl.1 (Nat.le_of_ble_eq_true rfl) dX6_init_14 dX6_init_17 dX6_init_18 (fun H locs hz => ?_)
  refine y_putF (v := .ref (ad g 2)) (ty := .object RX5) hB hnm hz (by decide) 1 (by decide) kc_212 rfl rfl (by decide +kernel) rfl rfl (Nat.le_of_ble_eq_true rfl) dX6_init_21 (fun H locs hz => ?_)
  have hz : YZ g 4 [.ref (ad g 1), .ref (ad g 2), .null, .null, .null, .null, .null, .null, .null, .null, .null, .int 0, .int 0, .int 0] (fun _ => none) (fun _ => none) (fun _ => none) s H locs := hz
  refine lv_aload_n hx hb dX6_init_24 rfl (lv_at hl 0 rfl) ?_
  have hk4 : ∀ k, k < 31 → (LX.1 (4 + k) = kSh k ∧ 4 + k ≠ 1 ∧ 4 + k ≠ 66 ∧ 4 + k ≠ 93) := by decide +kernel
  refine y_obj (n := 4) (C := RX3) (T := TX3) (N := 7) (ci := 2) (dfs := [.null, .null, .null, .null, .int 0, .null, .int 0]) (mc := 30) (ms := 250) (rest := [.ref (ad g 0)]) hB hz (by decide) (c_X3_init l hg) hk4 inX3g tyX3 tyX3_ok kc_116 kc_117 kc_64 rfl dfX3 rfl rfl (by simp [cnw]) rfl rfl kc_120 kc_119 (by decide +kernel) ⟨(Nat.le_of_ble_eq_true rfl), (Nat.le_of_ble_eq_true rfl)⟩ ⟨(Nat.le_of_ble_eq_true rfl), (Nat.le_of_ble_eq_true rfl)⟩ hl.1 (Nat.le_of_ble_eq_true rfl) dX6_init_25 dX6_init_28 dX6_init_29 (fun H locs hz => ?_)
  refine y_putF (v := .ref (ad g 4)) (ty := .object RX3) hB hnm hz (by decide) 2 (by decide) kc_213 rfl rfl (by decide +kernel) rfl rfl (Nat.le_of_ble_eq_true rfl) dX6_init_32 (fun H locs hz => ?_)
  have hz : YZ g 35 [.ref (ad g 1), .ref (ad g 2), .ref (ad g 4), .null, .null, .null, .null, .null, .null, .null, .null, .int 0, .int 0, .int 0] (fun _ => none) (fun _ => none) (fun _ => none) s H locs := hz
  refine lv_aload_n hx hb dX6_init_35 rfl (lv_at hl 0 rfl) ?_
  have hk35 : ∀ k, k < 31 → (LX.1 (35 + k) = kSh k ∧ 35 + k ≠ 1 ∧ 35 + k ≠ 66 ∧ 35 + k ≠ 93) := by decide +kernel
  refine y_obj (n := 35) (C := RX3) (T := TX3) (N := 7) (ci := 2) (dfs := [.null, .null, .null, .null, .int 0, .null, .int 0]) (mc := 30) (ms := 250) (rest := [.ref (ad g 0)]) hB hz (by decide) (c_X3_init l hg) hk35 inX3g tyX3 tyX3_ok kc_116 kc_117 kc_64 rfl dfX3 rfl rfl (by simp [cnw]) rfl rfl kc_120 kc_119 (by decide +kernel) ⟨(Nat.le_of_ble_eq_true rfl), (Nat.le_of_ble_eq_true rfl)⟩ ⟨(Nat.le_of_ble_eq_true rfl), (Nat.le_of_ble_eq_true rfl)⟩ hl.1 (Nat.le_of_ble_eq_true rfl) dX6_init_36 dX6_init_39 dX6_init_40 (fun H locs hz => ?_)
  refine y_putF (v := .ref (ad g 35)) (ty := .object RX3) hB hnm hz (by decide) 3 (by decide) kc_214 rfl rfl (by decide +kernel) rfl rfl (Nat.le_of_ble_eq_true rfl) dX6_init_43 (fun H locs hz => ?_)
  have hz : YZ g 66 [.ref (ad g 1), .ref (ad g 2), .ref (ad g 4), .ref (ad g 35), .null, .null, .null, .null, .null, .null, .null, .int 0, .int 0, .int 0] (fun _ => none) (fun _ => none) (fun _ => none) s H locs := hz
  refine lv_aload_n hx hb dX6_init_46 rfl (lv_at hl 0 rfl) ?_
  refine lv_iconst (v := (2 : Int32)) hx hb dX6_init_47 (by decide) ?_
  refine y_n2 hB hz kc_116 (Nat.le_of_ble_eq_true rfl) (Nat.le_of_ble_eq_true rfl) dX6_init_48 (fun H hz => ?_)
  refine y_putF (v := .ref (ad g 66)) (ty := .array (.object RX3)) hB hnm hz (by decide) 4 (by decide) kc_215 rfl rfl (by decide +kernel) rfl rfl (Nat.le_of_ble_eq_true rfl) dX6_init_51 (fun H locs hz => ?_)
  have hz : YZ g 67 [.ref (ad g 1), .ref (ad g 2), .ref (ad g 4), .ref (ad g 35), .ref (ad g 66), .null, .null, .null, .null, .null, .null, .int 0, .int 0, .int 0] (fun _ => none) (fun _ => none) (fun _ => none) s H locs := hz
  refine lv_aload_n hx hb dX6_init_54 rfl (lv_at hl 0 rfl) ?_
  have hk67 : ∀ k, k < 26 → (LX.1 (67 + k) = kAc k ∧ 67 + k ≠ 1 ∧ 67 + k ≠ 66 ∧ 67 + k ≠ 93) := by decide +kernel
  refine y_obj (n := 67) (C := RX0) (T := TX0) (N := 3) (ci := 0) (dfs := [.null, .int 0, .int 0]) (mc := 25) (ms := 168) (rest := [.ref (ad g 0)]) hB hz (by decide) (c_X0_init l hg) hk67 inX0g tyX0 tyX0_ok kc_155 kc_156 kc_65 rfl dfX0 rfl rfl (by simp [cnw]) rfl rfl kc_159 kc_158 (by decide +kernel) ⟨(Nat.le_of_ble_eq_true rfl), (Nat.le_of_ble_eq_true rfl)⟩ ⟨(Nat.le_of_ble_eq_true rfl), (Nat.le_of_ble_eq_true rfl)⟩ hl.1 (Nat.le_of_ble_eq_true rfl) dX6_init_55 dX6_init_58 dX6_init_59 (fun H locs hz => ?_)
  refine y_putF (v := .ref (ad g 67)) (ty := .object RX0) hB hnm hz (by decide) 5 (by decide) kc_216 rfl rfl (by decide +kernel) rfl rfl (Nat.le_of_ble_eq_true rfl) dX6_init_62 (fun H locs hz => ?_)
  have hz : YZ g 93 [.ref (ad g 1), .ref (ad g 2), .ref (ad g 4), .ref (ad g 35), .ref (ad g 66), .ref (ad g 67), .null, .null, .null, .null, .null, .int 0, .int 0, .int 0] (fun _ => none) (fun _ => none) (fun _ => none) s H locs := hz
  refine lv_aload_n hx hb dX6_init_65 rfl (lv_at hl 0 rfl) ?_
  refine lv_bipush (v := (24 : Int32)) hx hb dX6_init_66 (by decide) ?_
  refine y_n3 hB hz kc_173 (Nat.le_of_ble_eq_true rfl) (Nat.le_of_ble_eq_true rfl) dX6_init_68 (fun H hz => ?_)
  refine y_putF (v := .ref (ad g 93)) (ty := .array (.object RX4)) hB hnm hz (by decide) 6 (by decide) kc_217 rfl rfl (by decide +kernel) rfl rfl (Nat.le_of_ble_eq_true rfl) dX6_init_71 (fun H locs hz => ?_)
  have hz : YZ g 94 [.ref (ad g 1), .ref (ad g 2), .ref (ad g 4), .ref (ad g 35), .ref (ad g 66), .ref (ad g 67), .ref (ad g 93), .null, .null, .null, .null, .int 0, .int 0, .int 0] (fun _ => none) (fun _ => none) (fun _ => none) s H locs := hz
  refine lv_aload_n hx hb dX6_init_74 rfl (lv_at hl 0 rfl) ?_
  have hk94 : ∀ k, k < 2 → (LX.1 (94 + k) = kSg k ∧ 94 + k ≠ 1 ∧ 94 + k ≠ 66 ∧ 94 + k ≠ 93) := by decide +kernel
  refine y_obj (n := 94) (C := RX4) (T := TX4) (N := 2) (ci := 3) (dfs := [.null, .int 0]) (mc := 1) (ms := 23) (rest := [.ref (ad g 0)]) hB hz (by decide) (c_X4_init l hg) hk94 inX4g tyX4 tyX4_ok kc_173 kc_175 kc_66 rfl dfX4 rfl rfl (by simp [cnw]) rfl rfl kc_178 kc_177 (by decide +kernel) ⟨(Nat.le_of_ble_eq_true rfl), (Nat.le_of_ble_eq_true rfl)⟩ ⟨(Nat.le_of_ble_eq_true rfl), (Nat.le_of_ble_eq_true rfl)⟩ hl.1 (Nat.le_of_ble_eq_true rfl) dX6_init_75 dX6_init_78 dX6_init_79 (fun H locs hz => ?_)
  refine y_putF (v := .ref (ad g 94)) (ty := .object RX4) hB hnm hz (by decide) 7 (by decide) kc_218 rfl rfl (by decide +kernel) rfl rfl (Nat.le_of_ble_eq_true rfl) dX6_init_82 (fun H locs hz => ?_)
  have hz : YZ g 96 [.ref (ad g 1), .ref (ad g 2), .ref (ad g 4), .ref (ad g 35), .ref (ad g 66), .ref (ad g 67), .ref (ad g 93), .ref (ad g 94), .null, .null, .null, .int 0, .int 0, .int 0] (fun _ => none) (fun _ => none) (fun _ => none) s H locs := hz
  refine lv_aload_n hx hb dX6_init_85 rfl (lv_at hl 0 rfl) ?_
  refine lv_bipush (v := (6 : Int32)) hx hb dX6_init_86 (by decide) ?_
  refine y_arr (n := 96) (N := 6) hB hz (by decide) ⟨by decide +kernel, by decide, by decide, by decide⟩ kc_115 (by decide) (by decide) (Nat.le_of_ble_eq_true rfl) (Nat.le_of_ble_eq_true rfl) (Nat.le_of_ble_eq_true rfl) dX6_init_88 (fun H hz => ?_)
  refine y_putF (v := .ref (ad g 96)) (ty := .array .int) hB hnm hz (by decide) 8 (by decide) kc_219 rfl rfl (by decide +kernel) rfl rfl (Nat.le_of_ble_eq_true rfl) dX6_init_90 (fun H locs hz => ?_)
  have hz : YZ g 97 [.ref (ad g 1), .ref (ad g 2), .ref (ad g 4), .ref (ad g 35), .ref (ad g 66), .ref (ad g 67), .ref (ad g 93), .ref (ad g 94), .ref (ad g 96), .null, .null, .int 0, .int 0, .int 0] (fun _ => none) (fun _ => none) (fun _ => none) s H locs := hz
  refine lv_aload_n hx hb dX6_init_93 rfl (lv_at hl 0 rfl) ?_
  refine lv_iconst (v := (5 : Int32)) hx hb dX6_init_94 (by decide) ?_
  refine y_arr (n := 97) (N := 5) hB hz (by decide) ⟨by decide +kernel, by decide, by decide, by decide⟩ kc_115 (by decide) (by decide) (Nat.le_of_ble_eq_true rfl) (Nat.le_of_ble_eq_true rfl) (Nat.le_of_ble_eq_true rfl) dX6_init_95 (fun H hz => ?_)
  refine y_putF (v := .ref (ad g 97)) (ty := .array .int) hB hnm hz (by decide) 9 (by decide) kc_220 rfl rfl (by decide +kernel) rfl rfl (Nat.le_of_ble_eq_true rfl) dX6_init_97 (fun H locs hz => ?_)
  have hz : YZ g 98 [.ref (ad g 1), .ref (ad g 2), .ref (ad g 4), .ref (ad g 35), .ref (ad g 66), .ref (ad g 67), .ref (ad g 93), .ref (ad g 94), .ref (ad g 96), .ref (ad g 97), .null, .int 0, .int 0, .int 0] (fun _ => none) (fun _ => none) (fun _ => none) s H locs := hz
  refine lv_aload_n hx hb dX6_init_100 rfl (lv_at hl 0 rfl) ?_
  refine lv_bipush (v := (16 : Int32)) hx hb dX6_init_101 (by decide) ?_
  refine y_arr (n := 98) (N := 16) hB hz (by decide) ⟨by decide +kernel, by decide, by decide, by decide⟩ kc_115 (by decide) (by decide) (Nat.le_of_ble_eq_true rfl) (Nat.le_of_ble_eq_true rfl) (Nat.le_of_ble_eq_true rfl) dX6_init_103 (fun H hz => ?_)
  refine y_putF (v := .ref (ad g 98)) (ty := .array .int) hB hnm hz (by decide) 10 (by decide) kc_221 rfl rfl (by decide +kernel) rfl rfl (Nat.le_of_ble_eq_true rfl) dX6_init_105 (fun H locs hz => ?_)
  have hz : YZ g 99 [.ref (ad g 1), .ref (ad g 2), .ref (ad g 4), .ref (ad g 35), .ref (ad g 66), .ref (ad g 67), .ref (ad g 93), .ref (ad g 94), .ref (ad g 96), .ref (ad g 97), .ref (ad g 98), .int 0, .int 0, .int 0] (fun _ => none) (fun _ => none) (fun _ => none) s H locs := hz
  refine lv_aload_n hx hb dX6_init_108 rfl (lv_at hl 0 rfl) ?_
  refine lv_iconst (v := (0 : Int32)) hx hb dX6_init_109 (by decide) ?_
  refine y_put (v := .int (0 : Int32)) (ty := .int) hB hz (by decide) 11 (by decide) kc_222 rfl (by decide +kernel) rfl rfl (Nat.le_of_ble_eq_true rfl) dX6_init_110 (fun H locs hz => ?_)
  have hz : YZ g 99 [.ref (ad g 1), .ref (ad g 2), .ref (ad g 4), .ref (ad g 35), .ref (ad g 66), .ref (ad g 67), .ref (ad g 93), .ref (ad g 94), .ref (ad g 96), .ref (ad g 97), .ref (ad g 98), .int (0 : Int32), .int 0, .int 0] (fun _ => none) (fun _ => none) (fun _ => none) s H locs := hz
  refine lv_aload_n hx hb dX6_init_113 rfl (lv_at hl 0 rfl) ?_
  refine lv_iconst (v := (0 : Int32)) hx hb dX6_init_114 (by decide) ?_
  refine y_put (v := .int (0 : Int32)) (ty := .int) hB hz (by decide) 12 (by decide) kc_223 rfl (by decide +kernel) rfl rfl (Nat.le_of_ble_eq_true rfl) dX6_init_115 (fun H locs hz => ?_)
  have hz : YZ g 99 [.ref (ad g 1), .ref (ad g 2), .ref (ad g 4), .ref (ad g 35), .ref (ad g 66), .ref (ad g 67), .ref (ad g 93), .ref (ad g 94), .ref (ad g 96), .ref (ad g 97), .ref (ad g 98), .int (0 : Int32), .int (0 : Int32), .int 0] (fun _ => none) (fun _ => none) (fun _ => none) s H locs := hz
  refine lv_aload_n hx hb dX6_init_118 rfl (lv_at hl 0 rfl) ?_
  refine lv_iconst (v := (0 : Int32)) hx hb dX6_init_119 (by decide) ?_
  refine y_put (v := .int (0 : Int32)) (ty := .int) hB hz (by decide) 13 (by decide) kc_224 rfl (by decide +kernel) rfl rfl (Nat.le_of_ble_eq_true rfl) dX6_init_120 (fun H locs hz => ?_)
  have hz : YZ g 99 [.ref (ad g 1), .ref (ad g 2), .ref (ad g 4), .ref (ad g 35), .ref (ad g 66), .ref (ad g 67), .ref (ad g 93), .ref (ad g 94), .ref (ad g 96), .ref (ad g 97), .ref (ad g 98), .int (0 : Int32), .int (0 : Int32), .int (0 : Int32)] (fun _ => none) (fun _ => none) (fun _ => none) s H locs := hz
  refine lv_iconst (v := (0 : Int32)) hx hb dX6_init_123 (by decide) ?_
  refine lv_istore_n (lv' := [(1, .int (nI 0)), (0, .ref (ad g 0))]) hx hb dX6_init_124 rfl hl (by decide) rfl (fun ls hl => ?_)
  have hz : YZ g (99 + 2 * 0) (fsX g) (lf g 99 2 0) (fun _ => none) (fun _ => none) s H locs := by rw [lf_0]; exact hz
  refine W.widen (k := 98 + 2 * 0) (n := 908 + 43 * 0) (by decide) (by decide) ?_
  refine xl1 hg hB (fun H locs ls hz hl => ?_) 8 0 H locs ls rfl hz (lv_sub hl [1, 0] rfl)
  refine lv_iconst (v := (0 : Int32)) hx hb dX6_init_150 (by decide) ?_
  refine lv_istore_n (lv' := [(1, .int (nI 0)), (0, .ref (ad g 0))]) hx hb dX6_init_151 rfl hl (by decide) rfl (fun ls hl => ?_)
  have hz : YZ g (115 + 31 * 0) (fsX g) (lf g 99 2 8) (lf g 115 31 0) (fun _ => none) s H locs := by rw [lf_0]; exact hz
  refine W.widen (k := 114 + 31 * 0) (n := 1252 + 257 * 0) (by decide) (by decide) ?_
  refine xl2 hg hB (fun H locs ls hz hl => ?_) 2 0 H locs ls rfl hz (lv_sub hl [1, 0] rfl)
  refine lv_iconst (v := (0 : Int32)) hx hb dX6_init_176 (by decide) ?_
  refine lv_istore_n (lv' := [(1, .int (nI 0)), (0, .ref (ad g 0))]) hx hb dX6_init_177 rfl hl (by decide) rfl (fun ls hl => ?_)
  have hz : YZ g (177 + 2 * 0) (fsX g) (lf g 99 2 8) (lf g 115 31 2) (lf g 177 2 0) s H locs := by rw [lf_0]; exact hz
  refine W.widen (k := 176 + 2 * 0) (n := 1766 + 25 * 0) (by decide) (by decide) ?_
  refine xl3 hg hB (fun H locs ls hz hl => ?_) 24 0 H locs ls rfl hz (lv_sub hl [1, 0] rfl)
  have hS : va_S (FR g) s.heap H locs := by obtain ⟨E, hz, -⟩ := hz; exact hz.2
  exact W.vret hx hb hr (fun t ht hW => ⟨⟨(), rfl, trivial, by rw [ht]; exact (yz_end hz).1, by rw [ht]; exact (yz_end hz).2⟩, hS.F ht⟩) hS.2.2 dX6_init_203

theorem kc_80 : Cond.instanceMethod objectInit ∈ lw_g := mg 80 (by decide +kernel) (by decide +kernel)
theorem kc_81 : Cond.code objectInit ⟨#[0xb1]⟩ 1 none ∈ lw_g := mg 81 (by decide +kernel) (by decide +kernel)
theorem kc_89 : Cond.methodLink RX5 3 objectInit ∈ lw_g := mg 89 (by decide +kernel) (by decide +kernel)
theorem kc_90 : Cond.fieldLink RX5 9 "CountedLists$Tape" "bytes" "[I" ∈ lw_g := mg 90 (by decide +kernel) (by decide +kernel)
theorem kc_92 : Cond.fieldLink RX5 15 "CountedLists$Tape" "length" "I" ∈ lw_g := mg 92 (by decide +kernel) (by decide +kernel)
theorem kc_94 : Cond.fieldLink RX5 19 "CountedLists$Tape" "place" "I" ∈ lw_g := mg 94 (by decide +kernel) (by decide +kernel)
theorem kc_96 : Cond.fieldLink RX5 22 "CountedLists$Tape" "next" "I" ∈ lw_g := mg 96 (by decide +kernel) (by decide +kernel)
theorem kc_97 : Cond.fieldLink RX5 25 "CountedLists$Tape" "token" "I" ∈ lw_g := mg 97 (by decide +kernel) (by decide +kernel)
theorem kc_98 : Cond.fieldLink RX5 28 "CountedLists$Tape" "value" "I" ∈ lw_g := mg 98 (by decide +kernel) (by decide +kernel)
theorem kc_99 : Cond.fieldLink RX5 31 "CountedLists$Tape" "wrong" "I" ∈ lw_g := mg 99 (by decide +kernel) (by decide +kernel)
theorem kc_115 : Cond.arrayClass .int ∈ lw_g := mg 115 (by decide +kernel) (by decide +kernel)
theorem kc_121 : Cond.methodLink RX3 3 objectInit ∈ lw_g := mg 121 (by decide +kernel) (by decide +kernel)
theorem kc_122 : Cond.classLink RX3 28 "[[I" ∈ lw_g := mg 122 (by decide +kernel) (by decide +kernel)
theorem kc_124 : Cond.fieldLink RX3 9 "CountedLists$Sheet" "styles" "[I" ∈ lw_g := mg 124 (by decide +kernel) (by decide +kernel)
theorem kc_128 : Cond.fieldLink RX3 15 "CountedLists$Sheet" "kinds" "[I" ∈ lw_g := mg 128 (by decide +kernel) (by decide +kernel)
theorem kc_130 : Cond.fieldLink RX3 18 "CountedLists$Sheet" "levels" "[I" ∈ lw_g := mg 130 (by decide +kernel) (by decide +kernel)
theorem kc_132 : Cond.fieldLink RX3 21 "CountedLists$Sheet" "starts" "[I" ∈ lw_g := mg 132 (by decide +kernel) (by decide +kernel)
theorem kc_134 : Cond.fieldLink RX3 24 "CountedLists$Sheet" "size" "I" ∈ lw_g := mg 134 (by decide +kernel) (by decide +kernel)
theorem kc_137 : Cond.fieldLink RX3 30 "CountedLists$Sheet" "cells" "[[I" ∈ lw_g := mg 137 (by decide +kernel) (by decide +kernel)
theorem kc_138 : Cond.fieldLink RX3 33 "CountedLists$Sheet" "counted" "I" ∈ lw_g := mg 138 (by decide +kernel) (by decide +kernel)
theorem kc_160 : Cond.methodLink RX0 3 objectInit ∈ lw_g := mg 160 (by decide +kernel) (by decide +kernel)
theorem kc_161 : Cond.classLink RX0 9 "[[I" ∈ lw_g := mg 161 (by decide +kernel) (by decide +kernel)
theorem kc_162 : Cond.fieldLink RX0 11 "CountedLists$Acts" "kept" "[[I" ∈ lw_g := mg 162 (by decide +kernel) (by decide +kernel)
theorem kc_163 : Cond.fieldLink RX0 16 "CountedLists$Acts" "oldest" "I" ∈ lw_g := mg 163 (by decide +kernel) (by decide +kernel)
theorem kc_164 : Cond.fieldLink RX0 20 "CountedLists$Acts" "size" "I" ∈ lw_g := mg 164 (by decide +kernel) (by decide +kernel)
theorem kc_179 : Cond.methodLink RX4 3 objectInit ∈ lw_g := mg 179 (by decide +kernel) (by decide +kernel)
theorem kc_180 : Cond.fieldLink RX4 9 "CountedLists$Signs" "codes" "[C" ∈ lw_g := mg 180 (by decide +kernel) (by decide +kernel)
theorem kc_182 : Cond.fieldLink RX4 15 "CountedLists$Signs" "length" "I" ∈ lw_g := mg 182 (by decide +kernel) (by decide +kernel)
theorem kc_190 : Cond.arrayClass .char ∈ lw_g := mg 190 (by decide +kernel) (by decide +kernel)
theorem kc_195 : Cond.methodLink RX2 3 objectInit ∈ lw_g := mg 195 (by decide +kernel) (by decide +kernel)
theorem kc_196 : Cond.fieldLink RX2 9 "CountedLists$Row" "items" "[I" ∈ lw_g := mg 196 (by decide +kernel) (by decide +kernel)
theorem kc_200 : Cond.fieldLink RX2 15 "CountedLists$Row" "lane" "I" ∈ lw_g := mg 200 (by decide +kernel) (by decide +kernel)
theorem kc_202 : Cond.fieldLink RX2 19 "CountedLists$Row" "size" "I" ∈ lw_g := mg 202 (by decide +kernel) (by decide +kernel)
def rm_X2_init : Room := { frames := 1, cells := 1, slots := 40, locals := 12 }
set_option maxHeartbeats 4000000 in
set_option maxRecDepth 100000 in
theorem c_X2_init (l : Launch) {g : GP} (hg : ∀ i, ad g i = ad g 0 + i) : CC l g yX2_init cX2_init 1 rm_X2_init 1 [.null, .int 0, .int 0] kRw 2 := by
  refine cc_of hg (by decide) rfl (by decide) ?_
  intro n E hE p e s m args below meth c ls hB hnm hr hlk hz hl
  have hB : BZ p s m args c g cX2_init 1 RX2 := hB
  obtain ⟨hx, hb, hml, hown, hT, hCK, -⟩ := id hB
  refine lv_aload_n hx hb dX2_init_0 rfl (lv_at hl 0 rfl) ?_
  refine W.objInit hx hb hown (hT _ kc_195) (hT _ kc_80) (hT _ kc_81) rfl (by rw [hml]; exact hl.1) rfl dX2_init_1 (Nat.le_of_ble_eq_true rfl) (Nat.le_of_ble_eq_true rfl) ?_
  refine lv_aload_n hx hb dX2_init_4 rfl (lv_at hl 0 rfl) ?_
  refine lv_bipush (v := (40 : Int32)) hx hb dX2_init_5 (by decide) ?_
  refine z_newa (N := 40) (t0 := 0) (atype := .int) (ty := .int) (a0 := (40, .inl (fun _ => 0))) hB hz rfl rfl (fun h => h) kc_115 (fun _ => rfl) (by decide) (by decide) (Nat.le_of_ble_eq_true rfl) (Nat.le_of_ble_eq_true rfl) (Nat.le_of_ble_eq_true rfl) dX2_init_7 (fun H hz => ?_)
  refine z_putF (i := n) (C := RX2) (T := TX2) (N := 3) (ci := 1) (v := .ref (ad g (n + 1))) (ty := .array .int) (fs := [.null, .int 0, .int 0]) hB hnm hz (by omega) (by simp (disch := omega) only [UP_ne, UP_eq, hE] <;> rfl) rfl inX2g tyX2 tyX2_ok nmX2 0 (by decide) kc_196 rfl rfl (by decide +kernel) rfl rfl (Nat.le_of_ble_eq_true rfl) dX2_init_9 (fun H locs hz => ?_)
  refine lv_aload_n hx hb dX2_init_12 rfl (lv_at hl 0 rfl) ?_
  refine lv_iconst (v := (-1 : Int32)) hx hb dX2_init_13 (by decide) ?_
  refine z_put (i := n) (C := RX2) (T := TX2) (N := 3) (ci := 1) (v := .int (-1 : Int32)) (ty := .int) (fs := [.ref (ad g (n + 1)), .int 0, .int 0]) hB hz (by omega) (by simp (disch := omega) only [UP_ne, UP_eq, hE] <;> rfl) rfl inX2g tyX2 tyX2_ok nmX2 1 (by decide) kc_200 rfl (by decide +kernel) rfl rfl (Nat.le_of_ble_eq_true rfl) dX2_init_14 (fun H locs hz => ?_)
  refine lv_aload_n hx hb dX2_init_17 rfl (lv_at hl 0 rfl) ?_
  refine lv_iconst (v := (0 : Int32)) hx hb dX2_init_18 (by decide) ?_
  refine z_put (i := n) (C := RX2) (T := TX2) (N := 3) (ci := 1) (v := .int (0 : Int32)) (ty := .int) (fs := [.ref (ad g (n + 1)), .int (-1 : Int32), .int 0]) hB hz (by omega) (by simp (disch := omega) only [UP_ne, UP_eq, hE] <;> rfl) rfl inX2g tyX2 tyX2_ok nmX2 2 (by decide) kc_202 rfl (by decide +kernel) rfl rfl (Nat.le_of_ble_eq_true rfl) dX2_init_19 (fun H locs hz => ?_)
  exact z_ret (len := 2) hB hr hlk hz (fun k hk => by simp (disch := omega) only [UP_ne, UP_eq]) (fun k hk => by
    rcases (show k = 0 ∨ k = 1 by omega) with rfl | rfl
    · simp (disch := omega) only [UP_ne, UP_eq, Nat.add_zero]
      rfl
    · simp (disch := omega) only [UP_ne, UP_eq]
      rfl) dX2_init_22
def rm_X5_init : Room := { frames := 1, cells := 1, slots := 130, locals := 12 }
set_option maxHeartbeats 4000000 in
set_option maxRecDepth 100000 in
theorem c_X5_init (l : Launch) {g : GP} (hg : ∀ i, ad g i = ad g 0 + i) : CC l g yX5_init cX5_init 1 rm_X5_init 4 [.null, .int 0, .int 0, .int 0, .int 0, .int 0, .int 0] kTp 2 := by
  refine cc_of hg (by decide) rfl (by decide) ?_
  intro n E hE p e s m args below meth c ls hB hnm hr hlk hz hl
  have hB : BZ p s m args c g cX5_init 1 RX5 := hB
  obtain ⟨hx, hb, hml, hown, hT, hCK, -⟩ := id hB
  refine lv_aload_n hx hb dX5_init_0 rfl (lv_at hl 0 rfl) ?_
  refine W.objInit hx hb hown (hT _ kc_89) (hT _ kc_80) (hT _ kc_81) rfl (by rw [hml]; exact hl.1) rfl dX5_init_1 (Nat.le_of_ble_eq_true rfl) (Nat.le_of_ble_eq_true rfl) ?_
  refine lv_aload_n hx hb dX5_init_4 rfl (lv_at hl 0 rfl) ?_
  refine lv_sipush (v := (130 : Int32)) hx hb dX5_init_5 (by decide) ?_
  refine z_newa (N := 130) (t0 := 0) (atype := .int) (ty := .int) (a0 := (130, .inl (fun _ => 0))) hB hz rfl rfl (fun h => h) kc_115 (fun _ => rfl) (by decide) (by decide) (Nat.le_of_ble_eq_true rfl) (Nat.le_of_ble_eq_true rfl) (Nat.le_of_ble_eq_true rfl) dX5_init_8 (fun H hz => ?_)
  refine z_putF (i := n) (C := RX5) (T := TX5) (N := 7) (ci := 4) (v := .ref (ad g (n + 1))) (ty := .array .int) (fs := [.null, .int 0, .int 0, .int 0, .int 0, .int 0, .int 0]) hB hnm hz (by omega) (by simp (disch := omega) only [UP_ne, UP_eq, hE] <;> rfl) rfl inX5g tyX5 tyX5_ok nmX5 0 (by decide) kc_90 rfl rfl (by decide +kernel) rfl rfl (Nat.le_of_ble_eq_true rfl) dX5_init_10 (fun H locs hz => ?_)
  refine lv_aload_n hx hb dX5_init_13 rfl (lv_at hl 0 rfl) ?_
  refine lv_iconst (v := (0 : Int32)) hx hb dX5_init_14 (by decide) ?_
  refine z_put (i := n) (C := RX5) (T := TX5) (N := 7) (ci := 4) (v := .int (0 : Int32)) (ty := .int) (fs := [.ref (ad g (n + 1)), .int 0, .int 0, .int 0, .int 0, .int 0, .int 0]) hB hz (by omega) (by simp (disch := omega) only [UP_ne, UP_eq, hE] <;> rfl) rfl inX5g tyX5 tyX5_ok nmX5 1 (by decide) kc_92 rfl (by decide +kernel) rfl rfl (Nat.le_of_ble_eq_true rfl) dX5_init_15 (fun H locs hz => ?_)
  refine lv_aload_n hx hb dX5_init_18 rfl (lv_at hl 0 rfl) ?_
  refine lv_iconst (v := (0 : Int32)) hx hb dX5_init_19 (by decide) ?_
  refine z_put (i := n) (C := RX5) (T := TX5) (N := 7) (ci := 4) (v := .int (0 : Int32)) (ty := .int) (fs := [.ref (ad g (n + 1)), .int (0 : Int32), .int 0, .int 0, .int 0, .int 0, .int 0]) hB hz (by omega) (by simp (disch := omega) only [UP_ne, UP_eq, hE] <;> rfl) rfl inX5g tyX5 tyX5_ok nmX5 2 (by decide) kc_94 rfl (by decide +kernel) rfl rfl (Nat.le_of_ble_eq_true rfl) dX5_init_20 (fun H locs hz => ?_)
  refine lv_aload_n hx hb dX5_init_23 rfl (lv_at hl 0 rfl) ?_
  refine lv_iconst (v := (0 : Int32)) hx hb dX5_init_24 (by decide) ?_
  refine z_put (i := n) (C := RX5) (T := TX5) (N := 7) (ci := 4) (v := .int (0 : Int32)) (ty := .int) (fs := [.ref (ad g (n + 1)), .int (0 : Int32), .int (0 : Int32), .int 0, .int 0, .int 0, .int 0]) hB hz (by omega) (by simp (disch := omega) only [UP_ne, UP_eq, hE] <;> rfl) rfl inX5g tyX5 tyX5_ok nmX5 3 (by decide) kc_96 rfl (by decide +kernel) rfl rfl (Nat.le_of_ble_eq_true rfl) dX5_init_25 (fun H locs hz => ?_)
  refine lv_aload_n hx hb dX5_init_28 rfl (lv_at hl 0 rfl) ?_
  refine lv_iconst (v := (0 : Int32)) hx hb dX5_init_29 (by decide) ?_
  refine z_put (i := n) (C := RX5) (T := TX5) (N := 7) (ci := 4) (v := .int (0 : Int32)) (ty := .int) (fs := [.ref (ad g (n + 1)), .int (0 : Int32), .int (0 : Int32), .int (0 : Int32), .int 0, .int 0, .int 0]) hB hz (by omega) (by simp (disch := omega) only [UP_ne, UP_eq, hE] <;> rfl) rfl inX5g tyX5 tyX5_ok nmX5 4 (by decide) kc_97 rfl (by decide +kernel) rfl rfl (Nat.le_of_ble_eq_true rfl) dX5_init_30 (fun H locs hz => ?_)
  refine lv_aload_n hx hb dX5_init_33 rfl (lv_at hl 0 rfl) ?_
  refine lv_iconst (v := (0 : Int32)) hx hb dX5_init_34 (by decide) ?_
  refine z_put (i := n) (C := RX5) (T := TX5) (N := 7) (ci := 4) (v := .int (0 : Int32)) (ty := .int) (fs := [.ref (ad g (n + 1)), .int (0 : Int32), .int (0 : Int32), .int (0 : Int32), .int (0 : Int32), .int 0, .int 0]) hB hz (by omega) (by simp (disch := omega) only [UP_ne, UP_eq, hE] <;> rfl) rfl inX5g tyX5 tyX5_ok nmX5 5 (by decide) kc_98 rfl (by decide +kernel) rfl rfl (Nat.le_of_ble_eq_true rfl) dX5_init_35 (fun H locs hz => ?_)
  refine lv_aload_n hx hb dX5_init_38 rfl (lv_at hl 0 rfl) ?_
  refine lv_iconst (v := (0 : Int32)) hx hb dX5_init_39 (by decide) ?_
  refine z_put (i := n) (C := RX5) (T := TX5) (N := 7) (ci := 4) (v := .int (0 : Int32)) (ty := .int) (fs := [.ref (ad g (n + 1)), .int (0 : Int32), .int (0 : Int32), .int (0 : Int32), .int (0 : Int32), .int (0 : Int32), .int 0]) hB hz (by omega) (by simp (disch := omega) only [UP_ne, UP_eq, hE] <;> rfl) rfl inX5g tyX5 tyX5_ok nmX5 6 (by decide) kc_99 rfl (by decide +kernel) rfl rfl (Nat.le_of_ble_eq_true rfl) dX5_init_40 (fun H locs hz => ?_)
  exact z_ret (len := 2) hB hr hlk hz (fun k hk => by simp (disch := omega) only [UP_ne, UP_eq]) (fun k hk => by
    rcases (show k = 0 ∨ k = 1 by omega) with rfl | rfl
    · simp (disch := omega) only [UP_ne, UP_eq, Nat.add_zero]
      rfl
    · simp (disch := omega) only [UP_ne, UP_eq]
      rfl) dX5_init_43
def rm_X4_init : Room := { frames := 1, cells := 1, slots := 23, locals := 12 }
set_option maxHeartbeats 4000000 in
set_option maxRecDepth 100000 in
theorem c_X4_init (l : Launch) {g : GP} (hg : ∀ i, ad g i = ad g 0 + i) : CC l g yX4_init cX4_init 1 rm_X4_init 3 [.null, .int 0] kSg 2 := by
  refine cc_of hg (by decide) rfl (by decide) ?_
  intro n E hE p e s m args below meth c ls hB hnm hr hlk hz hl
  have hB : BZ p s m args c g cX4_init 1 RX4 := hB
  obtain ⟨hx, hb, hml, hown, hT, hCK, -⟩ := id hB
  refine lv_aload_n hx hb dX4_init_0 rfl (lv_at hl 0 rfl) ?_
  refine W.objInit hx hb hown (hT _ kc_179) (hT _ kc_80) (hT _ kc_81) rfl (by rw [hml]; exact hl.1) rfl dX4_init_1 (Nat.le_of_ble_eq_true rfl) (Nat.le_of_ble_eq_true rfl) ?_
  refine lv_aload_n hx hb dX4_init_4 rfl (lv_at hl 0 rfl) ?_
  refine lv_bipush (v := (23 : Int32)) hx hb dX4_init_5 (by decide) ?_
  refine z_newa (N := 23) (t0 := 1) (atype := .char) (ty := .char) (a0 := (23, .inl (fun _ => 0))) hB hz rfl rfl (fun h => h) kc_190 (fun _ => rfl) (by decide) (by decide) (Nat.le_of_ble_eq_true rfl) (Nat.le_of_ble_eq_true rfl) (Nat.le_of_ble_eq_true rfl) dX4_init_7 (fun H hz => ?_)
  refine z_putF (i := n) (C := RX4) (T := TX4) (N := 2) (ci := 3) (v := .ref (ad g (n + 1))) (ty := .array .char) (fs := [.null, .int 0]) hB hnm hz (by omega) (by simp (disch := omega) only [UP_ne, UP_eq, hE] <;> rfl) rfl inX4g tyX4 tyX4_ok nmX4 0 (by decide) kc_180 rfl rfl (by decide +kernel) rfl rfl (Nat.le_of_ble_eq_true rfl) dX4_init_9 (fun H locs hz => ?_)
  refine lv_aload_n hx hb dX4_init_12 rfl (lv_at hl 0 rfl) ?_
  refine lv_iconst (v := (0 : Int32)) hx hb dX4_init_13 (by decide) ?_
  refine z_put (i := n) (C := RX4) (T := TX4) (N := 2) (ci := 3) (v := .int (0 : Int32)) (ty := .int) (fs := [.ref (ad g (n + 1)), .int 0]) hB hz (by omega) (by simp (disch := omega) only [UP_ne, UP_eq, hE] <;> rfl) rfl inX4g tyX4 tyX4_ok nmX4 1 (by decide) kc_182 rfl (by decide +kernel) rfl rfl (Nat.le_of_ble_eq_true rfl) dX4_init_14 (fun H locs hz => ?_)
  exact z_ret (len := 2) hB hr hlk hz (fun k hk => by simp (disch := omega) only [UP_ne, UP_eq]) (fun k hk => by
    rcases (show k = 0 ∨ k = 1 by omega) with rfl | rfl
    · simp (disch := omega) only [UP_ne, UP_eq, Nat.add_zero]
      rfl
    · simp (disch := omega) only [UP_ne, UP_eq]
      rfl) dX4_init_17
def rm_X0_init : Room := { frames := 1, cells := 25, slots := 168, locals := 12 }
set_option maxHeartbeats 4000000 in
set_option maxRecDepth 100000 in
theorem c_X0_init (l : Launch) {g : GP} (hg : ∀ i, ad g i = ad g 0 + i) : CC l g yX0_init cX0_init 1 rm_X0_init 0 [.null, .int 0, .int 0] kAc 26 := by
  refine cc_of hg (by decide) rfl (by decide) ?_
  intro n E hE p e s m args below meth c ls hB hnm hr hlk hz hl
  have hB : BZ p s m args c g cX0_init 1 RX0 := hB
  obtain ⟨hx, hb, hml, hown, hT, hCK, -⟩ := id hB
  refine lv_aload_n hx hb dX0_init_0 rfl (lv_at hl 0 rfl) ?_
  refine W.objInit hx hb hown (hT _ kc_160) (hT _ kc_80) (hT _ kc_81) rfl (by rw [hml]; exact hl.1) rfl dX0_init_1 (Nat.le_of_ble_eq_true rfl) (Nat.le_of_ble_eq_true rfl) ?_
  refine lv_aload_n hx hb dX0_init_4 rfl (lv_at hl 0 rfl) ?_
  refine lv_bipush (v := (24 : Int32)) hx hb dX0_init_5 (by decide) ?_
  refine lv_bipush (v := (6 : Int32)) hx hb dX0_init_7 (by decide) ?_
  refine z_grid (N := 24) (K := 6) hB hz kc_161 (by decide) (by decide) (by decide) (by decide) (Nat.le_of_ble_eq_true rfl) (Nat.le_of_ble_eq_true rfl) (Nat.le_of_ble_eq_true rfl) (Nat.le_of_ble_eq_true rfl) dX0_init_9 (fun E1 H locs hz q1 q2 q3 => ?_)
  refine z_putF (i := n) (C := RX0) (T := TX0) (N := 3) (ci := 0) (v := .ref (ad g (n + 1))) (ty := .array (.array .int)) (fs := [.null, .int 0, .int 0]) hB hnm hz (by omega) (by simp (disch := omega) only [UP_ne, UP_eq, hE, q1] <;> rfl) rfl inX0g tyX0 tyX0_ok nmX0 0 (by decide) kc_162 rfl rfl (by decide +kernel) rfl rfl (Nat.le_of_ble_eq_true rfl) dX0_init_13 (fun H locs hz => ?_)
  refine lv_aload_n hx hb dX0_init_16 rfl (lv_at hl 0 rfl) ?_
  refine lv_iconst (v := (0 : Int32)) hx hb dX0_init_17 (by decide) ?_
  refine z_put (i := n) (C := RX0) (T := TX0) (N := 3) (ci := 0) (v := .int (0 : Int32)) (ty := .int) (fs := [.ref (ad g (n + 1)), .int 0, .int 0]) hB hz (by omega) (by simp (disch := omega) only [UP_ne, UP_eq, hE, q1] <;> rfl) rfl inX0g tyX0 tyX0_ok nmX0 1 (by decide) kc_163 rfl (by decide +kernel) rfl rfl (Nat.le_of_ble_eq_true rfl) dX0_init_18 (fun H locs hz => ?_)
  refine lv_aload_n hx hb dX0_init_21 rfl (lv_at hl 0 rfl) ?_
  refine lv_iconst (v := (0 : Int32)) hx hb dX0_init_22 (by decide) ?_
  refine z_put (i := n) (C := RX0) (T := TX0) (N := 3) (ci := 0) (v := .int (0 : Int32)) (ty := .int) (fs := [.ref (ad g (n + 1)), .int (0 : Int32), .int 0]) hB hz (by omega) (by simp (disch := omega) only [UP_ne, UP_eq, hE, q1] <;> rfl) rfl inX0g tyX0 tyX0_ok nmX0 2 (by decide) kc_164 rfl (by decide +kernel) rfl rfl (Nat.le_of_ble_eq_true rfl) dX0_init_23 (fun H locs hz => ?_)
  exact z_ret (len := 26) hB hr hlk hz (fun k hk => by simp (disch := omega) only [UP_ne, UP_eq, q1]) (fun k hk => by
    rcases (show k = 0 ∨ k = 1 ∨ 2 ≤ k by omega) with rfl | rfl | h
    · simp (disch := omega) only [UP_ne, UP_eq, Nat.add_zero]
      rfl
    · simp (disch := omega) only [UP_ne, UP_eq]
      rw [q2]
      rfl
    · obtain ⟨j, rfl⟩ : ∃ j, k = 2 + j := ⟨k - 2, by omega⟩
      have e0 : kAc (2 + j) = 22 := by unfold kAc; rw [if_neg (by omega), if_neg (by omega)]
      simp (disch := omega) only [UP_ne, UP_eq]
      rw [e0, show n + (2 + j) = n + 1 + 1 + j by omega, q3 j (by omega)]
      rfl) dX0_init_26
def rm_X3_init : Room := { frames := 1, cells := 30, slots := 250, locals := 12 }
set_option maxHeartbeats 4000000 in
set_option maxRecDepth 100000 in
theorem c_X3_init (l : Launch) {g : GP} (hg : ∀ i, ad g i = ad g 0 + i) : CC l g yX3_init cX3_init 1 rm_X3_init 2 [.null, .null, .null, .null, .int 0, .null, .int 0] kSh 31 := by
  refine cc_of hg (by decide) rfl (by decide) ?_
  intro n E hE p e s m args below meth c ls hB hnm hr hlk hz hl
  have hB : BZ p s m args c g cX3_init 1 RX3 := hB
  obtain ⟨hx, hb, hml, hown, hT, hCK, -⟩ := id hB
  refine lv_aload_n hx hb dX3_init_0 rfl (lv_at hl 0 rfl) ?_
  refine W.objInit hx hb hown (hT _ kc_121) (hT _ kc_80) (hT _ kc_81) rfl (by rw [hml]; exact hl.1) rfl dX3_init_1 (Nat.le_of_ble_eq_true rfl) (Nat.le_of_ble_eq_true rfl) ?_
  refine lv_aload_n hx hb dX3_init_4 rfl (lv_at hl 0 rfl) ?_
  refine lv_iconst (v := (3 : Int32)) hx hb dX3_init_5 (by decide) ?_
  refine z_newa (N := 3) (t0 := 0) (atype := .int) (ty := .int) (a0 := (3, .inl (fun _ => 0))) hB hz rfl rfl (fun h => h) kc_115 (fun _ => rfl) (by decide) (by decide) (Nat.le_of_ble_eq_true rfl) (Nat.le_of_ble_eq_true rfl) (Nat.le_of_ble_eq_true rfl) dX3_init_6 (fun H hz => ?_)
  refine z_putF (i := n) (C := RX3) (T := TX3) (N := 7) (ci := 2) (v := .ref (ad g (n + 1))) (ty := .array .int) (fs := [.null, .null, .null, .null, .int 0, .null, .int 0]) hB hnm hz (by omega) (by simp (disch := omega) only [UP_ne, UP_eq, hE] <;> rfl) rfl inX3g tyX3 tyX3_ok nmX3 0 (by decide) kc_124 rfl rfl (by decide +kernel) rfl rfl (Nat.le_of_ble_eq_true rfl) dX3_init_8 (fun H locs hz => ?_)
  refine lv_aload_n hx hb dX3_init_11 rfl (lv_at hl 0 rfl) ?_
  refine lv_bipush (v := (24 : Int32)) hx hb dX3_init_12 (by decide) ?_
  refine z_newa (N := 24) (t0 := 0) (atype := .int) (ty := .int) (a0 := (24, .inl (fun _ => 0))) hB hz rfl rfl (fun h => h) kc_115 (fun _ => rfl) (by decide) (by decide) (Nat.le_of_ble_eq_true rfl) (Nat.le_of_ble_eq_true rfl) (Nat.le_of_ble_eq_true rfl) dX3_init_14 (fun H hz => ?_)
  refine z_putF (i := n) (C := RX3) (T := TX3) (N := 7) (ci := 2) (v := .ref (ad g (n + 2))) (ty := .array .int) (fs := [.ref (ad g (n + 1)), .null, .null, .null, .int 0, .null, .int 0]) hB hnm hz (by omega) (by simp (disch := omega) only [UP_ne, UP_eq, hE] <;> rfl) rfl inX3g tyX3 tyX3_ok nmX3 1 (by decide) kc_128 rfl rfl (by decide +kernel) rfl rfl (Nat.le_of_ble_eq_true rfl) dX3_init_16 (fun H locs hz => ?_)
  refine lv_aload_n hx hb dX3_init_19 rfl (lv_at hl 0 rfl) ?_
  refine lv_bipush (v := (24 : Int32)) hx hb dX3_init_20 (by decide) ?_
  refine z_newa (N := 24) (t0 := 0) (atype := .int) (ty := .int) (a0 := (24, .inl (fun _ => 0))) hB hz rfl rfl (fun h => h) kc_115 (fun _ => rfl) (by decide) (by decide) (Nat.le_of_ble_eq_true rfl) (Nat.le_of_ble_eq_true rfl) (Nat.le_of_ble_eq_true rfl) dX3_init_22 (fun H hz => ?_)
  refine z_putF (i := n) (C := RX3) (T := TX3) (N := 7) (ci := 2) (v := .ref (ad g (n + 3))) (ty := .array .int) (fs := [.ref (ad g (n + 1)), .ref (ad g (n + 2)), .null, .null, .int 0, .null, .int 0]) hB hnm hz (by omega) (by simp (disch := omega) only [UP_ne, UP_eq, hE] <;> rfl) rfl inX3g tyX3 tyX3_ok nmX3 2 (by decide) kc_130 rfl rfl (by decide +kernel) rfl rfl (Nat.le_of_ble_eq_true rfl) dX3_init_24 (fun H locs hz => ?_)
  refine lv_aload_n hx hb dX3_init_27 rfl (lv_at hl 0 rfl) ?_
  refine lv_bipush (v := (24 : Int32)) hx hb dX3_init_28 (by decide) ?_
  refine z_newa (N := 24) (t0 := 0) (atype := .int) (ty := .int) (a0 := (24, .inl (fun _ => 0))) hB hz rfl rfl (fun h => h) kc_115 (fun _ => rfl) (by decide) (by decide) (Nat.le_of_ble_eq_true rfl) (Nat.le_of_ble_eq_true rfl) (Nat.le_of_ble_eq_true rfl) dX3_init_30 (fun H hz => ?_)
  refine z_putF (i := n) (C := RX3) (T := TX3) (N := 7) (ci := 2) (v := .ref (ad g (n + 4))) (ty := .array .int) (fs := [.ref (ad g (n + 1)), .ref (ad g (n + 2)), .ref (ad g (n + 3)), .null, .int 0, .null, .int 0]) hB hnm hz (by omega) (by simp (disch := omega) only [UP_ne, UP_eq, hE] <;> rfl) rfl inX3g tyX3 tyX3_ok nmX3 3 (by decide) kc_132 rfl rfl (by decide +kernel) rfl rfl (Nat.le_of_ble_eq_true rfl) dX3_init_32 (fun H locs hz => ?_)
  refine lv_aload_n hx hb dX3_init_35 rfl (lv_at hl 0 rfl) ?_
  refine lv_iconst (v := (0 : Int32)) hx hb dX3_init_36 (by decide) ?_
  refine z_put (i := n) (C := RX3) (T := TX3) (N := 7) (ci := 2) (v := .int (0 : Int32)) (ty := .int) (fs := [.ref (ad g (n + 1)), .ref (ad g (n + 2)), .ref (ad g (n + 3)), .ref (ad g (n + 4)), .int 0, .null, .int 0]) hB hz (by omega) (by simp (disch := omega) only [UP_ne, UP_eq, hE] <;> rfl) rfl inX3g tyX3 tyX3_ok nmX3 4 (by decide) kc_134 rfl (by decide +kernel) rfl rfl (Nat.le_of_ble_eq_true rfl) dX3_init_37 (fun H locs hz => ?_)
  refine lv_aload_n hx hb dX3_init_40 rfl (lv_at hl 0 rfl) ?_
  refine lv_bipush (v := (25 : Int32)) hx hb dX3_init_41 (by decide) ?_
  refine lv_bipush (v := (6 : Int32)) hx hb dX3_init_43 (by decide) ?_
  refine z_grid (N := 25) (K := 6) hB hz kc_122 (by decide) (by decide) (by decide) (by decide) (Nat.le_of_ble_eq_true rfl) (Nat.le_of_ble_eq_true rfl) (Nat.le_of_ble_eq_true rfl) (Nat.le_of_ble_eq_true rfl) dX3_init_45 (fun E1 H locs hz q1 q2 q3 => ?_)
  refine z_putF (i := n) (C := RX3) (T := TX3) (N := 7) (ci := 2) (v := .ref (ad g (n + 5))) (ty := .array (.array .int)) (fs := [.ref (ad g (n + 1)), .ref (ad g (n + 2)), .ref (ad g (n + 3)), .ref (ad g (n + 4)), .int (0 : Int32), .null, .int 0]) hB hnm hz (by omega) (by simp (disch := omega) only [UP_ne, UP_eq, hE, q1] <;> rfl) rfl inX3g tyX3 tyX3_ok nmX3 5 (by decide) kc_137 rfl rfl (by decide +kernel) rfl rfl (Nat.le_of_ble_eq_true rfl) dX3_init_49 (fun H locs hz => ?_)
  refine lv_aload_n hx hb dX3_init_52 rfl (lv_at hl 0 rfl) ?_
  refine lv_iconst (v := (0 : Int32)) hx hb dX3_init_53 (by decide) ?_
  refine z_put (i := n) (C := RX3) (T := TX3) (N := 7) (ci := 2) (v := .int (0 : Int32)) (ty := .int) (fs := [.ref (ad g (n + 1)), .ref (ad g (n + 2)), .ref (ad g (n + 3)), .ref (ad g (n + 4)), .int (0 : Int32), .ref (ad g (n + 5)), .int 0]) hB hz (by omega) (by simp (disch := omega) only [UP_ne, UP_eq, hE, q1] <;> rfl) rfl inX3g tyX3 tyX3_ok nmX3 6 (by decide) kc_138 rfl (by decide +kernel) rfl rfl (Nat.le_of_ble_eq_true rfl) dX3_init_54 (fun H locs hz => ?_)
  exact z_ret (len := 31) hB hr hlk hz (fun k hk => by simp (disch := omega) only [UP_ne, UP_eq, q1]) (fun k hk => by
    rcases (show k = 0 ∨ k = 1 ∨ k = 2 ∨ k = 3 ∨ k = 4 ∨ k = 5 ∨ 6 ≤ k by omega) with rfl | rfl | rfl | rfl | rfl | rfl | h
    · simp (disch := omega) only [UP_ne, UP_eq, Nat.add_zero]
      rfl
    · simp (disch := omega) only [UP_ne, UP_eq, q1]
      rfl
    · simp (disch := omega) only [UP_ne, UP_eq, q1]
      rfl
    · simp (disch := omega) only [UP_ne, UP_eq, q1]
      rfl
    · simp (disch := omega) only [UP_ne, UP_eq, q1]
      rfl
    · simp (disch := omega) only [UP_ne, UP_eq]
      rw [q2]
      rfl
    · obtain ⟨j, rfl⟩ : ∃ j, k = 6 + j := ⟨k - 6, by omega⟩
      have e0 : kSh (6 + j) = 22 := by unfold kSh; rw [if_neg (by omega), if_neg (by omega), if_neg (by omega), if_neg (by omega)]
      simp (disch := omega) only [UP_ne, UP_eq]
      rw [e0, show n + (6 + j) = n + 1 + 1 + 1 + 1 + 1 + 1 + j by omega, q3 j (by omega)]
      rfl) dX3_init_57

/-! Roman numerals, numerals, labels. -/
def vl (k : Nat) : Nat := [50, 40, 10, 9, 5, 4, 1].getD k 1
def sg (k : Nat) : List Nat := [[108], [120, 108], [120], [105, 120], [118], [105, 118], [105]].getD k []
def romX : Nat → Nat → Nat → List Nat
  | 0, _, _ => []
  | d + 1, k, r => rp (r / vl k) (sg k) ++ romX d (k + 1) (r % vl k)
theorem romX_eq : ∀ v, v ≤ 44 → romX 7 0 v = rom v := by
  intro v hv
  have h := List.all_eq_true.mp (show (List.range 45).all (fun v => decide (romX 7 0 v = rom v)) = true by decide) v (List.mem_range.mpr (by omega))
  exact of_decide_eq_true h
theorem rom_st {V : Mem} {z n k rest : Nat} {K : Int32 → Int32 → Mem → Option Mem} {L : List Nat} (hk : k < 7) (hr : vl k ≤ rest) (hr2 : rest < 1000) (hL : L.length + (sg k).length ≤ 23) : f_X4_addRoman_12 z K (n + 1) (nI rest) (nI k) (wx V z L) = f_X4_addRoman_12 z K n (nI (rest - vl k)) (nI k) (wx V z (L ++ sg k)) := by
  have i7 : ib (nI k) 7 = true := ibt (by omega) (by omega)
  have ev : tba 4 k = nI (vl k) := by rcases (show k = 0 ∨ k = 1 ∨ k = 2 ∨ k = 3 ∨ k = 4 ∨ k = 5 ∨ k = 6 by omega) with rfl | rfl | rfl | rfl | rfl | rfl | rfl <;> rfl
  have hv : vl k < 1000 := by omega
  rw [f_X4_addRoman_12, if_pos i7, ncl (by omega), ev, if_neg (by rw [nlt (by omega) (by omega)]; omega)]
  simp only [if_pos i7]
  have one : ∀ c, c < 65536 → tba 5 k = nI c → tba 6 k = 0 → sg k = [c] → ((f_X4_add z (tba 5 k) (wx V z L)).bind fun q27 => if tba 6 k = 0 then f_X4_addRoman_47 z (f_X4_addRoman_12 z K n) (nI rest) (nI k) q27 else (f_X4_add z (tba 6 k) q27).bind fun q44 => f_X4_addRoman_47 z (f_X4_addRoman_12 z K n) (nI rest) (nI k) q44) = f_X4_addRoman_12 z K n (nI (rest - vl k)) (nI k) (wx V z (L ++ sg k)) := by
    intro c hc h5 h6 hs
    rw [hs, List.length_singleton] at hL
    rw [h5, add_x (by omega) hc, Option.bind_some, if_pos h6, f_X4_addRoman_47, if_pos i7, ncl (by omega), ev, nsb hr, hs]
  have two : ∀ c d, c < 65536 → d < 65536 → 0 < d → tba 5 k = nI c → tba 6 k = nI d → sg k = [c, d] → ((f_X4_add z (tba 5 k) (wx V z L)).bind fun q27 => if tba 6 k = 0 then f_X4_addRoman_47 z (f_X4_addRoman_12 z K n) (nI rest) (nI k) q27 else (f_X4_add z (tba 6 k) q27).bind fun q44 => f_X4_addRoman_47 z (f_X4_addRoman_12 z K n) (nI rest) (nI k) q44) = f_X4_addRoman_12 z K n (nI (rest - vl k)) (nI k) (wx V z (L ++ sg k)) := by
    intro c d hc hd h0 h5 h6 hs
    rw [hs] at hL
    simp only [List.length_cons, List.length_nil] at hL
    rw [h5, add_x (by omega) hc, Option.bind_some, h6, if_neg (by rw [li, neq (by omega) (by omega)]; omega), add_x (by rw [List.length_append, List.length_singleton]; omega) hd, Option.bind_some, f_X4_addRoman_47, if_pos i7, ncl (by omega), ev, nsb hr, hs, List.append_assoc]
    rfl
  rcases (show k = 0 ∨ k = 1 ∨ k = 2 ∨ k = 3 ∨ k = 4 ∨ k = 5 ∨ k = 6 by omega) with rfl | rfl | rfl | rfl | rfl | rfl | rfl
  · exact one 108 (by omega) rfl rfl rfl
  · exact two 120 108 (by omega) (by omega) (by omega) rfl rfl rfl
  · exact one 120 (by omega) rfl rfl rfl
  · exact two 105 120 (by omega) (by omega) (by omega) rfl rfl rfl
  · exact one 118 (by omega) rfl rfl rfl
  · exact two 105 118 (by omega) (by omega) (by omega) rfl rfl rfl
  · exact one 105 (by omega) rfl rfl rfl
theorem vl_pos {k : Nat} (hk : k < 7) : 1 ≤ vl k ∧ vl k ≤ 50 := by
  rcases (show k = 0 ∨ k = 1 ∨ k = 2 ∨ k = 3 ∨ k = 4 ∨ k = 5 ∨ k = 6 by omega) with rfl | rfl | rfl | rfl | rfl | rfl | rfl <;> decide
theorem rom_in {V : Mem} {z k : Nat} {K : Int32 → Int32 → Mem → Option Mem} (hk : k < 7) : ∀ (q n rest : Nat) (L : List Nat), rest / vl k = q → q < n → rest < 1000 → L.length + (rp q (sg k)).length ≤ 23 → f_X4_addRoman_12 z K n (nI rest) (nI k) (wx V z L) = K (nI (rest % vl k)) (nI (k + 1)) (wx V z (L ++ rp q (sg k))) := by
  have hv := vl_pos hk
  have i7 : ib (nI k) 7 = true := ibt (by omega) (by omega)
  have ev : tba 4 k = nI (vl k) := by rcases (show k = 0 ∨ k = 1 ∨ k = 2 ∨ k = 3 ∨ k = 4 ∨ k = 5 ∨ k = 6 by omega) with rfl | rfl | rfl | rfl | rfl | rfl | rfl <;> rfl
  intro q
  induction q with
  | zero =>
    intro n rest L hq hn hr hL
    obtain ⟨n, rfl⟩ : ∃ n', n = n' + 1 := ⟨n - 1, by omega⟩
    have hlt : rest < vl k := by
      rcases Nat.lt_or_ge rest (vl k) with h | h
      · exact h
      · have := Nat.div_pos h (by omega)
        omega
    have e1 : nI k + 1 = nI (k + 1) := nI_1 k
    rw [f_X4_addRoman_12, if_pos i7, ncl (by omega), ev, if_pos (by rw [nlt (by omega) (by omega)]; exact hlt), e1, Nat.mod_eq_of_lt hlt, rp, List.append_nil]
  | succ q ih =>
    intro n rest L hq hn hr hL
    obtain ⟨n, rfl⟩ : ∃ n', n = n' + 1 := ⟨n - 1, by omega⟩
    have hge : vl k ≤ rest := by
      rcases Nat.lt_or_ge rest (vl k) with h | h
      · rw [Nat.div_eq_of_lt h] at hq
        omega
      · exact h
    rw [rp, List.length_append] at hL
    have hd : (rest - vl k) / vl k = q := by
      have := Nat.div_eq_sub_div (show 0 < vl k by omega) hge
      omega
    rw [rom_st hk hge hr (by omega), ih n (rest - vl k) _ hd (by omega) (by omega) (by rw [List.length_append]; omega), rp, List.append_assoc, Nat.mod_eq_sub_mod hge]
theorem rom_out {V : Mem} {z : Nat} : ∀ (d n k rest : Nat) (L : List Nat), k + d = 7 → d < n → rest < 1000 → L.length + (romX d k rest).length ≤ 23 → f_X4_addRoman_4 z n (nI rest) (nI k) (wx V z L) = some (wx V z (L ++ romX d k rest)) := by
  intro d
  induction d with
  | zero =>
    intro n k rest L hk hn hr hL
    obtain ⟨n, rfl⟩ : ∃ n', n = n' + 1 := ⟨n - 1, by omega⟩
    rw [f_X4_addRoman_4, if_pos (by rw [li, nle (by omega) (by omega)]; omega), romX, List.append_nil]
  | succ d ih =>
    intro n k rest L hk hn hr hL
    obtain ⟨n, rfl⟩ : ∃ n', n = n' + 1 := ⟨n - 1, by omega⟩
    have hv := vl_pos (show k < 7 by omega)
    have hq : rest / vl k ≤ rest := Nat.div_le_self _ _
    have hm : rest % vl k < vl k := Nat.mod_lt _ (by omega)
    rw [romX, List.length_append] at hL
    rw [f_X4_addRoman_4, if_neg (by rw [li, nle (by omega) (by omega)]; omega), rom_in (by omega) _ 4096 rest L rfl (by omega) hr (by omega), ih n (k + 1) _ _ (by omega) (by omega) (by omega) (by rw [List.length_append]; omega), romX, List.append_assoc]
theorem roman_x {V : Mem} {z v : Nat} {L : List Nat} (hv : v ≤ 44) (hL : L.length + (rom v).length ≤ 23) : f_X4_addRoman z (nI v) (wx V z L) = some (wx V z (L ++ rom v)) := by
  unfold f_X4_addRoman
  rw [← romX_eq v hv] at hL ⊢
  exact rom_out 7 4096 0 v L (by omega) (by omega) (by omega) hL
theorem rf51 {U : Mem} {d c : Nat} (hd : d < 10) : ∀ (q n j : Nat) (L : List Nat), j + q = d % 5 → q < n → L.length + q ≤ 40 → f_X7_romanFigure_51 n (nI d) (nI c) (nI j) (wm U L) = some (wm U (L ++ rp q [c])) := by
  intro q
  induction q with
  | zero =>
    intro n j L hj hn hL
    obtain ⟨n, rfl⟩ : ∃ n', n = n' + 1 := ⟨n - 1, by omega⟩
    rw [f_X7_romanFigure_51, show (5 : Int32) = nI 5 from rfl, remI (by omega) (by omega) (by omega), if_pos (by rw [nle (by omega) (by omega)]; omega), rp, List.append_nil]
  | succ q ih =>
    intro n j L hj hn hL
    obtain ⟨n, rfl⟩ : ∃ n', n = n' + 1 := ⟨n - 1, by omega⟩
    have e1 : nI j + 1 = nI (j + 1) := nI_1 j
    rw [f_X7_romanFigure_51, show (5 : Int32) = nI 5 from rfl, remI (by omega) (by omega) (by omega), if_neg (by rw [nle (by omega) (by omega)]; omega), add_m (by omega), Option.bind_some, e1, ih n (j + 1) _ (by omega) (by omega) (by rw [List.length_append, List.length_singleton]; omega), rp, List.append_assoc]
theorem rp_len : ∀ (q c : Nat), (rp q [c]).length = q := by
  intro q c
  induction q with
  | zero => rfl
  | succ q ih => rw [rp, List.length_append, ih, List.length_singleton]; omega
theorem romF_m {U : Mem} {d a b c : Nat} {L : List Nat} (hd : d < 10) (hL : L.length + (romF d a b c).length ≤ 40) : f_X7_romanFigure (nI d) (nI a) (nI b) (nI c) (wm U L) = some (wm U (L ++ romF d a b c)) := by
  unfold f_X7_romanFigure f_X7_romanFigure_48
  unfold romF at hL ⊢
  by_cases h9 : d = 9
  · rw [if_pos h9] at hL ⊢
    simp only [List.length_cons, List.length_nil] at hL
    rw [if_pos (by rw [h9]; rfl), add_m (by omega), Option.bind_some, add_m (by rw [List.length_append, List.length_singleton]; omega), Option.bind_some, List.append_assoc]
    rfl
  · rw [if_neg h9] at hL ⊢
    rw [if_neg (by rw [li, neq (by omega) (by omega)]; exact h9)]
    by_cases h4 : d = 4
    · rw [if_pos h4] at hL ⊢
      simp only [List.length_cons, List.length_nil] at hL
      rw [if_pos (by rw [h4]; rfl), add_m (by omega), Option.bind_some, add_m (by rw [List.length_append, List.length_singleton]; omega), Option.bind_some, List.append_assoc]
      rfl
    · rw [if_neg h4] at hL ⊢
      rw [if_neg (by rw [li, neq (by omega) (by omega)]; exact h4)]
      rw [List.length_append, rp_len] at hL
      by_cases h5 : d ≤ 4
      · rw [if_pos h5] at hL ⊢
        rw [if_pos (by rw [li, nle (by omega) (by omega)]; exact h5), List.nil_append]
        exact rf51 hd (d % 5) 4096 0 L (by omega) (by omega) (by omega)
      · rw [if_neg h5] at hL ⊢
        rw [List.length_singleton] at hL
        rw [if_neg (by rw [li, nle (by omega) (by omega)]; exact h5), add_m (by omega), Option.bind_some]
        have e := rf51 (U := U) (c := a) hd (d % 5) 4096 0 (L ++ [b]) (by omega) (by omega) (by rw [List.length_append, List.length_singleton]; omega)
        rw [List.append_assoc] at e
        exact e
theorem num_x {V : Mem} {z v s : Nat} {L : List Nat} (hv : v ≤ 44) (hs : s ≤ 3) (hL : L.length + (num v s).length ≤ 23) : f_X4_addNumerals z (nI v) (nI s) (wx V z L) = some (wx V z (L ++ num v s)) := by
  unfold f_X4_addNumerals f_X4_addNumerals_8 f_X4_addNumerals_43_cz
  unfold num at hL ⊢
  by_cases h0 : v = 0
  · rw [if_pos (Or.inl h0)] at hL ⊢
    rw [if_pos (by rw [h0]; rfl), figs_x hv hL, Option.bind_some]
  · rw [if_neg (by rw [li, neq (by omega) (by omega)]; exact h0)]
    by_cases s0 : s = 0
    · rw [if_pos (Or.inr s0)] at hL ⊢
      rw [if_pos (by rw [s0]; rfl), figs_x hv hL, Option.bind_some]
    · rw [if_neg (show ¬ (v = 0 ∨ s = 0) by omega)] at hL ⊢
      rw [if_neg (show ¬ nI s = (0 : Int32) by rw [li, neq (by omega) (by omega)]; exact s0)]
      by_cases s2 : s = 2
      · rw [if_pos s2] at hL ⊢
        rw [if_pos (by rw [s2]; rfl), roman_x hv hL, Option.bind_some]
      · rw [if_neg s2] at hL ⊢
        rw [if_neg (by rw [li, neq (by omega) (by omega)]; exact s2)]
        by_cases s1 : s = 1
        · rw [if_pos s1] at hL ⊢
          rw [if_pos (by rw [s1]; rfl), show (97 : Int32) = nI 97 from rfl, lets_x (by omega) hv (by omega) hL, Option.bind_some]
        · rw [if_neg s1] at hL ⊢
          rw [if_neg (by rw [li, neq (by omega) (by omega)]; exact s1), show (65 : Int32) = nI 65 from rfl, lets_x (by omega) hv (by omega) hL, Option.bind_some]
theorem num_m {U : Mem} {v s : Nat} {L : List Nat} (hv : v ≤ 44) (hs : s ≤ 3) (hL : L.length + (num v s).length ≤ 40) : f_X7_numerals (nI v) (nI s) (wm U L) = some (wm U (L ++ num v s)) := by
  unfold f_X7_numerals f_X7_numerals_8 f_X7_numerals_66_c0
  unfold num at hL ⊢
  by_cases h0 : v = 0
  · rw [if_pos (Or.inl h0)] at hL ⊢
    rw [if_pos (by rw [h0]; rfl), figs_m hv hL, Option.bind_some]
  · rw [if_neg (by rw [li, neq (by omega) (by omega)]; exact h0)]
    by_cases s0 : s = 0
    · rw [if_pos (Or.inr s0)] at hL ⊢
      rw [if_pos (by rw [s0]; rfl), figs_m hv hL, Option.bind_some]
    · rw [if_neg (show ¬ (v = 0 ∨ s = 0) by omega)] at hL ⊢
      rw [if_neg (show ¬ nI s = (0 : Int32) by rw [li, neq (by omega) (by omega)]; exact s0)]
      by_cases s2 : s = 2
      · rw [if_pos s2] at hL ⊢
        unfold rom at hL ⊢
        rw [List.length_append] at hL
        rw [if_pos (by rw [s2]; rfl), show (10 : Int32) = nI 10 from rfl, remI (by omega) (by omega) (by omega), divI (by omega) (by omega) (by omega)]
        have e1 := romF_m (U := U) (d := v / 10) (a := 120) (b := 108) (c := 99) (L := L) (by omega) (by omega)
        have e1' : f_X7_romanFigure (nI (v / 10)) 120 108 99 (wm U L) = _ := e1
        have e2 := romF_m (U := U) (d := v % 10) (a := 105) (b := 118) (c := 120) (L := L ++ romF (v / 10) 120 108 99) (by omega) (by rw [List.length_append]; omega)
        have e2' : f_X7_romanFigure (nI (v % 10)) 105 118 120 (wm U (L ++ romF (v / 10) 120 108 99)) = _ := e2
        rw [e1', Option.bind_some, e2', Option.bind_some, List.append_assoc]
      · rw [if_neg s2] at hL ⊢
        rw [if_neg (by rw [li, neq (by omega) (by omega)]; exact s2)]
        by_cases s1 : s = 1
        · rw [if_pos s1] at hL ⊢
          rw [if_pos (by rw [s1]; rfl), show (97 : Int32) = nI 97 from rfl, lets_m (by omega) hv (by omega) hL, Option.bind_some]
        · rw [if_neg s1] at hL ⊢
          rw [if_neg (by rw [li, neq (by omega) (by omega)]; exact s1), show (65 : Int32) = nI 65 from rfl, lets_m (by omega) hv (by omega) hL, Option.bind_some]

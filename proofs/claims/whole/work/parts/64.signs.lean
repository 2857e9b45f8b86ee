/-! Labels: signs one behind the other, numerals. -/
def lay (L : List Nat) (f : Nat → Int32) : Nat → Int32 := fun j => if j < L.length then nI (L.getD j 0) else f j
def wx (V : Mem) (z : Nat) (L : List Nat) : Mem := st (ms V (z + 1) (lay L (V (z + 1)))) z 1 (nI L.length)
def wm (U : Mem) (L : List Nat) : Mem := st (ms U 12 (lay L (U 12))) 0 23 (nI L.length)
theorem lay_snoc {L : List Nat} {c : Nat} {f : Nat → Int32} (j : Nat) : lay (L ++ [c]) f j = if j = L.length then nI c else lay L f j := by
  unfold lay
  rw [List.length_append, List.length_singleton]
  by_cases h : j = L.length
  · rw [if_pos h, if_pos (by omega), h, List.getD_eq_getElem?_getD, List.getElem?_append_right (Nat.le_refl _), Nat.sub_self]
    rfl
  · rw [if_neg h]
    by_cases h2 : j < L.length
    · rw [if_pos (by omega), if_pos h2, List.getD_eq_getElem?_getD, List.getD_eq_getElem?_getD, List.getElem?_append_left h2]
    · rw [if_neg (by omega), if_neg h2]
theorem lay_nil {f : Nat → Int32} : lay [] f = f := by
  funext j
  unfold lay
  rw [if_neg (by simp)]
theorem wx_nil {V : Mem} {z : Nat} : wx V z [] = st V z 1 0 := by
  unfold wx
  rw [lay_nil]
  congr 1
  funext a
  by_cases h : a = z + 1
  · rw [h, ms_eq]
  · rw [ms_id h]
theorem wm_nil {U : Mem} : wm U [] = st U 0 23 0 := by
  unfold wm
  rw [lay_nil]
  congr 1
  funext a
  by_cases h : a = 12
  · rw [h, ms_eq]
  · rw [ms_id h]
theorem chr {c : Nat} (hc : c < 65536) : vp_nar .char ((nI c).toUInt32 % 65536).toInt32 = nI c := by
  rw [pk_vc, pk_char, pk_tn (by omega)]
  congr 1
  omega
theorem add_x {V : Mem} {z c : Nat} {L : List Nat} (hL : L.length < 23) (hc : c < 65536) : f_X4_add z (nI c) (wx V z L) = some (wx V z (L ++ [c])) := by
  unfold f_X4_add
  have e1 : wx V z L z 1 = nI L.length := by unfold wx; rw [st_same]
  have e2 : ∀ x, st (wx V z L) (z + 1) L.length x z 1 = nI L.length := by intro x; rw [st_ne1 (by omega)]; exact e1
  have e3 : nI L.length + 1 = nI (L.length + 1) := nI_1 _
  rw [e1, if_neg (by rw [li, nle (by omega) (by omega)]; omega), if_pos (ibt hL (by omega)), ncl (by omega), chr hc, e2, e3]
  congr 1
  unfold wx
  apply mem_ext
  intro a b
  rw [List.length_append, List.length_singleton]
  by_cases h1 : a = z
  · subst h1
    by_cases h2 : b = 1
    · subst h2
      rw [st_same, st_same]
    · rw [st_ne2 h2, st_ne2 h2, st_ne1 (by omega), st_ne2 h2, ms_ne (by omega), ms_ne (by omega)]
  · rw [st_ne1 h1, st_ne1 h1]
    by_cases h3 : a = z + 1
    · subst h3
      rw [st_at, st_ne1 h1, ms_same, ms_same, lay_snoc]
      by_cases h4 : b = L.length
      · rw [if_pos ⟨rfl, h4⟩, if_pos h4]
      · rw [if_neg (fun q => h4 q.2), if_neg h4]
    · rw [st_ne1 h3, st_ne1 h1, ms_ne h3, ms_ne h3]
theorem add_m {U : Mem} {c : Nat} {L : List Nat} (hL : L.length < 40) : f_X7_writes (nI c) (wm U L) = some (wm U (L ++ [c])) := by
  unfold f_X7_writes
  have e1 : wm U L 0 23 = nI L.length := by unfold wm; rw [st_same]
  have e2 : ∀ x, st (wm U L) 12 L.length x 0 23 = nI L.length := by intro x; rw [st_ne1 (by omega)]; exact e1
  have e3 : nI L.length + 1 = nI (L.length + 1) := nI_1 _
  rw [e1, if_pos (ibt hL (by omega)), ncl (by omega), e2, e3]
  congr 1
  unfold wm
  apply mem_ext
  intro a b
  rw [List.length_append, List.length_singleton]
  by_cases h1 : a = 0
  · subst h1
    by_cases h2 : b = 23
    · subst h2
      rw [st_same, st_same]
    · rw [st_ne2 h2, st_ne2 h2, st_ne1 (by omega), st_ne2 h2, ms_ne (by omega), ms_ne (by omega)]
  · rw [st_ne1 h1, st_ne1 h1]
    by_cases h3 : a = 12
    · subst h3
      rw [st_at, st_ne1 h1, ms_same, ms_same, lay_snoc]
      by_cases h4 : b = L.length
      · rw [if_pos ⟨rfl, h4⟩, if_pos h4]
      · rw [if_neg (fun q => h4 q.2), if_neg h4]
    · rw [st_ne1 h3, st_ne1 h1, ms_ne h3, ms_ne h3]
def figs (v : Nat) : List Nat := if v ≤ 9 then [48 + v] else [48 + v / 10, 48 + v % 10]
def lets (v f : Nat) : List Nat := if v ≤ 26 then [f + (v - 1) % 26] else [f + (v - 1) / 26 - 1, f + (v - 1) % 26]
def rp : Nat → List Nat → List Nat
  | 0, _ => []
  | q + 1, l => l ++ rp q l
def romF (d a b c : Nat) : List Nat := if d = 9 then [a, c] else if d = 4 then [a, b] else (if d ≤ 4 then [] else [b]) ++ rp (d % 5) [a]
def rom (v : Nat) : List Nat := romF (v / 10) 120 108 99 ++ romF (v % 10) 105 118 120
def num (v s : Nat) : List Nat := if v = 0 ∨ s = 0 then figs v else if s = 2 then rom v else lets v (if s = 1 then 97 else 65)
theorem num_len : ∀ v, v ≤ 44 → ∀ s, s ≤ 3 → 1 ≤ (num v s).length ∧ (num v s).length ≤ 7 := by
  intro v hv s hs
  have h := List.all_eq_true.mp (show (List.range 45).all (fun v => (List.range 4).all (fun s => decide (1 ≤ (num v s).length ∧ (num v s).length ≤ 7))) = true by decide) v (List.mem_range.mpr (by omega))
  have h2 := List.all_eq_true.mp h s (List.mem_range.mpr (by omega))
  exact of_decide_eq_true h2
theorem remI {a d : Nat} (ha : a < 2147483648) (h0 : 0 < d) (hd : d < 2147483648) : nI a - nI a / nI d * nI d = nI (a % d) := pk_rem ha h0 hd
theorem divI {a d : Nat} (ha : a < 2147483648) (h0 : 0 < d) (hd : d < 2147483648) : nI a / nI d = nI (a / d) := pk_div ha h0 hd
theorem figs_x {V : Mem} {z v : Nat} {L : List Nat} (hv : v ≤ 44) (hL : L.length + (figs v).length ≤ 23) : f_X4_addFigures z (nI v) (wx V z L) = some (wx V z (L ++ figs v)) := by
  unfold f_X4_addFigures
  have s31 : ∀ (n u : Nat), 1 < u → v < u → u ≤ 1000 → f_X4_addFigures_4 z (n + 1) (nI v) (nI u) (wx V z L) = f_X4_addFigures_4 z n (nI v) (nI (u / 10)) (wx V z L) := by
    intro n u h1 h2 h3
    rw [f_X4_addFigures_4, if_neg (by rw [li, nle (by omega) (by omega)]; omega), if_neg (by rw [nle (by omega) (by omega)]; omega), if_neg (by rw [li, neq (by omega) (by omega)]; omega), f_X4_addFigures_31, show (10 : Int32) = nI 10 from rfl, divI (by omega) (by omega) (by omega)]
  have s18 : ∀ (n u : Nat) (M : List Nat), 1 ≤ u → u ≤ 10 → (u ≤ v ∨ u = 1) → M.length < 23 → f_X4_addFigures_4 z (n + 1) (nI v) (nI u) (wx V z M) = f_X4_addFigures_4 z n (nI v) (nI (u / 10)) (wx V z (M ++ [48 + v / u % 10])) := by
    intro n u M h1 h2 h3 h4
    have body : f_X4_addFigures_18 z (f_X4_addFigures_4 z n) (nI v) (nI u) (wx V z M) = f_X4_addFigures_4 z n (nI v) (nI (u / 10)) (wx V z (M ++ [48 + v / u % 10])) := by
      have hq : v / u ≤ v := Nat.div_le_self v u
      rw [f_X4_addFigures_18, if_neg (by rw [li, neq (by omega) (by omega)]; omega), show (10 : Int32) = nI 10 from rfl, divI (by omega) (by omega) (by omega), remI (by omega) (by omega) (by omega), show (48 : Int32) = nI 48 from rfl, nad, add_x h4 (by omega), Option.bind_some, f_X4_addFigures_31, show (10 : Int32) = nI 10 from rfl, divI (by omega) (by omega) (by omega)]
    rw [f_X4_addFigures_4, if_neg (by rw [li, nle (by omega) (by omega)]; omega)]
    by_cases h5 : u ≤ v
    · rw [if_pos (by rw [nle (by omega) (by omega)]; exact h5), body]
    · rw [if_neg (by rw [nle (by omega) (by omega)]; exact h5), if_pos (by rw [li, neq (by omega) (by omega)]; omega), body]
  have s0 : ∀ (n : Nat) (M : List Nat), f_X4_addFigures_4 z (n + 1) (nI v) (nI 0) (wx V z M) = some (wx V z M) := by
    intro n M
    rw [f_X4_addFigures_4, if_pos (by rw [li, nle (by omega) (by omega)]; omega)]
  have g : f_X4_addFigures_4 z (4091 + 1 + 1 + 1 + 1 + 1) (nI v) (nI 1000) (wx V z L) = some (wx V z (L ++ figs v)) := by
    rw [s31 _ 1000 (by omega) (by omega) (by omega), show 1000 / 10 = 100 from rfl, s31 _ 100 (by omega) (by omega) (by omega), show 100 / 10 = 10 from rfl]
    unfold figs at hL ⊢
    by_cases h9 : v ≤ 9
    · rw [if_pos h9] at hL ⊢
      rw [List.length_singleton] at hL
      rw [s31 _ 10 (by omega) (by omega) (by omega), show 10 / 10 = 1 from rfl, s18 _ 1 L (by omega) (by omega) (Or.inr rfl) (by omega), show 1 / 10 = 0 from rfl, s0]
      congr 5
      omega
    · rw [if_neg h9] at hL ⊢
      simp only [List.length_cons, List.length_nil] at hL
      rw [s18 _ 10 L (by omega) (by omega) (Or.inl (by omega)) (by omega), show 10 / 10 = 1 from rfl, s18 _ 1 _ (by omega) (by omega) (Or.inr rfl) (by rw [List.length_append, List.length_singleton]; omega), show 1 / 10 = 0 from rfl, s0, List.append_assoc]
      have e1 : v / 10 % 10 = v / 10 := by omega
      have e2 : v / 1 % 10 = v % 10 := by omega
      rw [e1, e2]
      rfl
  exact g
theorem figs_m {U : Mem} {v : Nat} {L : List Nat} (hv : v ≤ 44) (hL : L.length + (figs v).length ≤ 40) : f_X7_figures (nI v) (wm U L) = some (wm U (L ++ figs v)) := by
  unfold f_X7_figures f_X7_figures_17
  unfold figs at hL ⊢
  rw [show (10 : Int32) = nI 10 from rfl, divI (by omega) (by omega) (by omega), show nI v - nI (v / 10) * nI 10 = nI (v % 10) from by rw [← divI (by omega) (by omega) (by omega)]; exact remI (by omega) (by omega) (by omega), show (48 : Int32) = nI 48 from rfl, nad, nad]
  by_cases h9 : v ≤ 9
  · rw [if_pos h9] at hL ⊢
    rw [List.length_singleton] at hL
    rw [if_pos (by rw [li, nle (by omega) (by omega)]; exact h9), add_m (by omega), Option.bind_some]
    congr 5
    omega
  · rw [if_neg h9] at hL ⊢
    simp only [List.length_cons, List.length_nil] at hL
    rw [if_neg (by rw [li, nle (by omega) (by omega)]; exact h9), add_m (by omega), Option.bind_some, add_m (by rw [List.length_append, List.length_singleton]; omega), Option.bind_some, List.append_assoc]
    rfl
theorem lets_x {V : Mem} {z v f : Nat} {L : List Nat} (h1 : 1 ≤ v) (hv : v ≤ 44) (hf : 1 ≤ f ∧ f < 200) (hL : L.length + (lets v f).length ≤ 23) : f_X4_addLetters z (nI v) (nI f) (wx V z L) = some (wx V z (L ++ lets v f)) := by
  unfold f_X4_addLetters f_X4_addLetters_20
  unfold lets at hL ⊢
  have e0 : nI v - 1 = nI (v - 1) := nsb (b := 1) h1
  rw [e0, show (26 : Int32) = nI 26 from rfl, remI (by omega) (by omega) (by omega), divI (by omega) (by omega) (by omega), nad, nad]
  by_cases h9 : v ≤ 26
  · rw [if_pos h9] at hL ⊢
    rw [List.length_singleton] at hL
    rw [if_pos (by rw [nle (by omega) (by omega)]; exact h9), add_x (by omega) (by omega), Option.bind_some]
  · rw [if_neg h9] at hL ⊢
    simp only [List.length_cons, List.length_nil] at hL
    have e1 : nI (f + (v - 1) / 26) - 1 = nI (f + (v - 1) / 26 - 1) := nsb (b := 1) (by omega)
    rw [if_neg (by rw [nle (by omega) (by omega)]; exact h9), e1, add_x (by omega) (by omega), Option.bind_some, add_x (by rw [List.length_append, List.length_singleton]; omega) (by omega), Option.bind_some, List.append_assoc]
    rfl
theorem lets_m {U : Mem} {v f : Nat} {L : List Nat} (h1 : 1 ≤ v) (hv : v ≤ 44) (hf : 1 ≤ f ∧ f < 200) (hL : L.length + (lets v f).length ≤ 40) : f_X7_letters (nI v) (nI f) (wm U L) = some (wm U (L ++ lets v f)) := by
  unfold f_X7_letters f_X7_letters_20
  unfold lets at hL ⊢
  have e0 : nI v - 1 = nI (v - 1) := nsb (b := 1) h1
  rw [e0, show (26 : Int32) = nI 26 from rfl, remI (by omega) (by omega) (by omega), divI (by omega) (by omega) (by omega), nad, nad]
  by_cases h9 : v ≤ 26
  · rw [if_pos h9] at hL ⊢
    rw [List.length_singleton] at hL
    rw [if_pos (by rw [nle (by omega) (by omega)]; exact h9), add_m (by omega), Option.bind_some]
  · rw [if_neg h9] at hL ⊢
    simp only [List.length_cons, List.length_nil] at hL
    have e1 : nI (f + (v - 1) / 26) - 1 = nI (f + (v - 1) / 26 - 1) := nsb (b := 1) (by omega)
    rw [if_neg (by rw [nle (by omega) (by omega)]; exact h9), e1, add_m (by omega), Option.bind_some, add_m (by rw [List.length_append, List.length_singleton]; omega), Option.bind_some, List.append_assoc]
    rfl

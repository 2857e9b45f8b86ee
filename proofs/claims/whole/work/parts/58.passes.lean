/-! One paragraph goes over the reference's counters; all of them. -/
def rsl (C : Nat → Nat) (l : Nat) : Nat → Nat := fun x => if x < l then C (x + 3) else C x
def hdl (C : Nat → Nat) (l : Nat) : Nat → Nat := fun x => if x < l then 0 else if 3 ≤ x ∧ x < 3 + l then C (x - 3) else C x
theorem p73 {U : Mem} {r : Nat} {C : Nat → Nat} {xk x3 xl : Int32} : ∀ (d n l : Nat), l + d = 3 → d < n → f_X7_passes_73 n r xk x3 xl (nI l) (mc U (rsl C l)) = f_X7_passes_109 r xk x3 xl (mc U (rsl C 3)) := by
  intro d
  induction d with
  | zero =>
    intro n l hl hn
    obtain ⟨n, rfl⟩ : ∃ n', n = n' + 1 := ⟨n - 1, by omega⟩
    have e : l = 3 := by omega
    subst e
    unfold f_X7_passes_73
    rw [if_pos (by rw [li, nle (by omega) (by omega)]; omega)]
  | succ d ih =>
    intro n l hl hn
    obtain ⟨n, rfl⟩ : ∃ n', n = n' + 1 := ⟨n - 1, by omega⟩
    unfold f_X7_passes_73
    have e1 : nI l + 1 = nI (l + 1) := nI_1 l
    have e2 : (3 : Int32) + nI l = nI (3 + l) := by rw [li, nad]
    have e6 : ib (nI (3 + l)) 6 = true := ibt (by omega) (by omega)
    have e9 : mc U (rsl C l) 9 (3 + l) = nI (C (3 + l + 3 - 3) / 1000) - 1 := by
      rw [mc_9]
      unfold sf rsl
      rw [if_pos (by omega), if_neg (by omega)]
      rfl
    have e10 : mc U (rsl C l) 10 (3 + l) = nI (C (3 + l + 3 - 3) % 1000) := by
      rw [mc_10]
      unfold af rsl
      rw [if_pos (by omega), if_neg (by omega)]
      rfl
    rw [if_neg (by rw [li, nle (by omega) (by omega)]; omega), e2, if_pos e6, if_pos e6, ncl (by omega), e9, e10, become_mc (by omega) (by omega), Option.bind_some, e1]
    rw [show uC (rsl C l) l (1000 * (C (3 + l + 3 - 3) / 1000) + C (3 + l + 3 - 3) % 1000) = rsl C (l + 1) from ?_]
    · exact ih n (l + 1) (by omega) (by omega)
    · funext x
      unfold uC rsl
      by_cases hx : x = l
      · subst hx
        rw [if_pos rfl, if_pos (by omega), Nat.div_add_mod]
        congr 1
        omega
      · rw [if_neg hx]
        by_cases h1 : x < l
        · rw [if_pos h1, if_pos (by omega)]
        · rw [if_neg h1, if_neg (by omega)]
theorem p23 {U : Mem} {r : Nat} {C : Nat → Nat} {xk x3 xl : Int32} : ∀ (d n l : Nat), l + d = 3 → d < n → f_X7_passes_23 n r xk x3 xl (nI l) (mc U (hdl C l)) = f_X7_passes_65 r xk x3 xl (mc U (hdl C 3)) := by
  intro d
  induction d with
  | zero =>
    intro n l hl hn
    obtain ⟨n, rfl⟩ : ∃ n', n = n' + 1 := ⟨n - 1, by omega⟩
    have e : l = 3 := by omega
    subst e
    unfold f_X7_passes_23
    rw [if_pos (by rw [li, nle (by omega) (by omega)]; omega)]
  | succ d ih =>
    intro n l hl hn
    obtain ⟨n, rfl⟩ : ∃ n', n = n' + 1 := ⟨n - 1, by omega⟩
    unfold f_X7_passes_23
    have e1 : nI l + 1 = nI (l + 1) := nI_1 l
    have e2 : (3 : Int32) + nI l = nI (3 + l) := by rw [li, nad]
    have e6 : ib (nI l) 6 = true := ibt (by omega) (by omega)
    have e9 : mc U (hdl C l) 9 l = nI (C l / 1000) - 1 := by
      rw [mc_9]
      unfold sf hdl
      rw [if_pos (by omega), if_neg (by omega), if_neg (by omega)]
    have e10 : mc U (hdl C l) 10 l = nI (C l % 1000) := by
      rw [mc_10]
      unfold af hdl
      rw [if_pos (by omega), if_neg (by omega), if_neg (by omega)]
    rw [if_neg (by rw [li, nle (by omega) (by omega)]; omega), e2, if_pos e6, if_pos e6, ncl (by omega), e9, e10, become_mc (by omega) (by omega), Option.bind_some, show (0 : Int32) = nI 0 from rfl, become_z (by omega) (by omega), Option.bind_some, e1]
    rw [show uC (uC (hdl C l) (3 + l) (1000 * (C l / 1000) + C l % 1000)) l 0 = hdl C (l + 1) from ?_]
    · exact ih n (l + 1) (by omega) (by omega)
    · funext x
      unfold uC hdl
      by_cases hx : x = l
      · subst hx
        rw [if_pos rfl, if_pos (by omega)]
      · rw [if_neg hx]
        by_cases h3 : x = 3 + l
        · subst h3
          rw [if_pos rfl, if_neg (by omega), if_pos (by omega), Nat.div_add_mod]
          congr 1
          omega
        · rw [if_neg h3]
          by_cases h1 : x < l
          · rw [if_pos h1, if_pos (by omega)]
          · rw [if_neg h1, if_neg (show ¬ x < l + 1 by omega)]
            by_cases h4 : 3 ≤ x ∧ x < 3 + l
            · rw [if_pos h4, if_pos (by omega)]
            · rw [if_neg h4, if_neg (by omega)]
theorem passes_eq {U : Mem} {r k : Nat} {S : Sh} {C : Nat → Nat} (hr : r ≠ 9 ∧ r ≠ 10) (hS : ShM (U r) S) (hok : okS S) (hk : k < S.2.length) (hC : ∀ x, C x % 1000 < 999) : f_X7_passes r (nI k) (mc U C) = some (mc U (ov C (pg S.2 k))) := by
  have hp := pg_ok hok.2.2.2 hk
  have hS2 : ShM (mc U C r) S := by rw [mc_id hr.1 hr.2]; exact hS
  have e0 : f_X7_of r (nI k) 0 (mc U C) = _ := of_eq (w := 0) hS2 hk hok.2.2.1 (by omega)
  have e1 : f_X7_of r (nI k) 1 (mc U C) = _ := of_eq (w := 1) hS2 hk hok.2.2.1 (by omega)
  unfold f_X7_passes
  rw [e0, Option.bind_some]
  dsimp only
  rw [e1, Option.bind_some]
  dsimp only
  have k1 : mc U C r (4 + 3 * k + 0) = nI (pg S.2 k).1 := (hS2.2.2 k hk).1
  have k2 : mc U C r (4 + 3 * k + 1) = nI (pg S.2 k).2.1 := (hS2.2.2 k hk).2.1
  simp only [k1, k2]
  have hrs : rsl C 3 = rsm C := rfl
  have hhd : hdl C 3 = hdc C := by
    funext x
    unfold hdl hdc
    by_cases h3 : x < 3
    · rw [if_pos h3, if_pos h3]
    · rw [if_neg h3, if_neg h3]
      by_cases h6 : x < 6
      · rw [if_pos h6, if_pos (by omega)]
      · rw [if_neg h6, if_neg (by omega)]
  by_cases h5 : (pg S.2 k).1 = 5
  · have c5 : nI (pg S.2 k).1 = 5 := by rw [h5]; rfl
    rw [if_pos c5]
    have hz : mc U C = mc U (hdl C 0) := by
      congr 1
      funext x
      unfold hdl
      rw [if_neg (by omega), if_neg (by omega)]
    rw [hz]
    have e := p23 (U := U) (r := r) (C := C) (xk := nI k) (x3 := nI (pg S.2 k).1) (xl := nI (pg S.2 k).2.1) 3 4096 0 (by omega) (by omega)
    have e' : f_X7_passes_23 4096 r (nI k) (nI (pg S.2 k).1) (nI (pg S.2 k).2.1) 0 (mc U (hdl C 0)) = _ := e
    rw [e']
    unfold f_X7_passes_65
    rw [h5, if_neg (by decide)]
    have hb : ∀ x, x < 6 → hdl C 3 x % 1000 < 999 := by
      intro x _
      unfold hdl
      by_cases a : x < 3
      · rw [if_pos a]; decide
      · rw [if_neg a]
        split <;> exact hC _
    have e2 := p109 (U := U) (C := hdl C 3) hr hS hok hk hb (kd := 5) (by omega) (by omega) (by omega)
    rw [e2]
    congr 2
    rw [if_neg (by omega), if_pos (by omega), hhd]
    unfold ov
    rw [if_neg (by omega), if_neg (by omega), if_neg (by omega), if_pos h5]
  · have c5 : ¬ nI (pg S.2 k).1 = 5 := by rw [li, neq (by have := hp.2.1; omega) (by omega)]; exact h5
    rw [if_neg c5]
    unfold f_X7_passes_65
    by_cases h3 : (pg S.2 k).1 = 3
    · have c3 : nI (pg S.2 k).1 = 3 := by rw [h3]; rfl
      rw [if_pos c3]
      have hz : mc U C = mc U (rsl C 0) := by
        congr 1
      rw [hz]
      have e := p73 (U := U) (r := r) (C := C) (xk := nI k) (x3 := nI (pg S.2 k).1) (xl := nI (pg S.2 k).2.1) 3 4096 0 (by omega) (by omega)
      have e' : f_X7_passes_73 4096 r (nI k) (nI (pg S.2 k).1) (nI (pg S.2 k).2.1) 0 (mc U (rsl C 0)) = _ := e
      rw [e', h3]
      have e2 := p109 (U := U) (C := rsl C 3) hr hS hok hk (fun x hx => by unfold rsl; split <;> exact hC _) (kd := 3) (by omega) (by omega) (by omega)
      rw [e2]
      congr 2
      rw [if_neg (by omega), if_neg (by omega), hrs]
      unfold ov
      rw [if_neg (by omega), if_neg (by omega), if_pos h3]
    · have c3 : ¬ nI (pg S.2 k).1 = 3 := by rw [li, neq (by have := hp.2.1; omega) (by omega)]; exact h3
      rw [if_neg c3, p109 hr hS hok hk (fun x _ => hC x) hp.1 hp.2.1 (fun h => h)]
      congr 2
      unfold ov
      by_cases h2 : (pg S.2 k).1 = 2
      · rw [if_pos h2, if_neg (by omega), if_pos h2]
      · rw [if_neg h2]
        by_cases h4 : 4 ≤ (pg S.2 k).1
        · rw [if_pos h4, if_neg (by omega), if_neg h2, if_neg h3, if_neg h5]
        · have h1 : (pg S.2 k).1 = 1 := by have := hp.1; omega
          rw [if_neg h4, if_pos h1]
theorem cnt_le {P : List Pg} (hP : ∀ p, p ∈ P → okP p) : ∀ (k : Nat), k ≤ P.length → ∀ x, cnt P k x ≤ 20 + k := by
  intro k
  induction k with
  | zero => intro _ x; exact Nat.zero_le _
  | succ k ih =>
    intro hk x
    have hp := pg_ok hP (k := k) (by omega)
    have h := ih (by omega)
    have hs := hp.2.2.2
    rw [cnt_succ (by omega)]
    generalize hC : cnt P k = C at h
    generalize pg P k = p at hp hs
    unfold ov
    have hA : ∀ (D : Nat → Nat) (l v : Nat), (∀ y, D y ≤ 20 + k) → v ≤ 20 + (k + 1) → sA D l v x ≤ 20 + (k + 1) := by
      intro D l v hD hv
      unfold sA
      have := hD x
      split
      · exact hv
      · split <;> omega
    have hR : ∀ y, rsm C y ≤ 20 + k := by
      intro y
      unfold rsm
      split <;> exact h _
    split
    · have := h p.2.1
      exact hA C _ _ h (by omega)
    · split
      · exact hA C _ _ h (by omega)
      · split
        · have := hR p.2.1
          exact hA _ _ _ hR (by omega)
        · split
          · unfold hdc
            split
            · omega
            · have h7 := h (x - 3)
              have h8 := h x
              split <;> omega
          · have := h x
            omega

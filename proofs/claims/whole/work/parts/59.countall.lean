/-! All counted on the reference's side. -/
def ctf (P : List Pg) (f : Nat → Int32) (k : Nat) : Nat → Int32 := fun y => if y < 3 * k then nI (cnt P (y / 3 + 1) (y % 3)) else f y
theorem ca2 {r : Nat} : ∀ (d n k : Nat) (U : Mem), k + d = 6 → d < n → f_X7_countAll_2 n r (nI k) U = f_X7_countAll_23 4096 r 0 (ms (ms U 9 (fun y => if k ≤ y ∧ y < 6 then -1 else U 9 y)) 10 (fun y => if k ≤ y ∧ y < 6 then 0 else U 10 y)) := by
  intro d
  induction d with
  | zero =>
    intro n k U hk hn
    obtain ⟨n, rfl⟩ : ∃ n', n = n' + 1 := ⟨n - 1, by omega⟩
    have e : k = 6 := by omega
    subst e
    unfold f_X7_countAll_2
    rw [if_pos (by rw [li, nle (by omega) (by omega)]; omega)]
    congr 1
    apply mem_ext
    intro a b
    rw [ms_at]
    by_cases h1 : a = 10
    · rw [if_pos h1, if_neg (by omega), h1]
    · rw [if_neg h1, ms_at]
      by_cases h2 : a = 9
      · rw [if_pos h2, if_neg (by omega), h2]
      · rw [if_neg h2]
  | succ d ih =>
    intro n k U hk hn
    obtain ⟨n, rfl⟩ : ∃ n', n = n' + 1 := ⟨n - 1, by omega⟩
    unfold f_X7_countAll_2 f_X7_become
    have e1 : nI k + 1 = nI (k + 1) := nI_1 k
    have e6 : ib (nI k) 6 = true := ibt (by omega) (by omega)
    rw [if_neg (by rw [li, nle (by omega) (by omega)]; omega), if_pos e6, if_pos e6, Option.bind_some, ncl (by omega), e1, ih n (k + 1) _ (by omega) (by omega)]
    congr 1
    apply mem_ext
    intro a b
    rw [ms_at, ms_at, ms_at, ms_at]
    by_cases h1 : a = 10
    · rw [if_pos h1, if_pos h1, st_at, st_ne1 (by omega)]
      by_cases hb : b = k
      · rw [if_neg (by omega), if_pos ⟨rfl, hb⟩, if_pos (by omega)]
      · rw [if_neg (show ¬ (10 = 10 ∧ b = k) by omega)]
        by_cases h2 : k ≤ b ∧ b < 6
        · rw [if_pos h2, if_pos (by omega)]
        · rw [if_neg h2, if_neg (by omega)]
    · rw [if_neg h1, if_neg h1]
      by_cases h2 : a = 9
      · rw [if_pos h2, if_pos h2, st_ne1 (by omega), st_at]
        by_cases hb : b = k
        · rw [if_neg (by omega), if_pos ⟨rfl, hb⟩, if_pos (by omega)]
        · rw [if_neg (show ¬ (9 = 9 ∧ b = k) by omega)]
          by_cases h3 : k ≤ b ∧ b < 6
          · rw [if_pos h3, if_pos (by omega)]
          · rw [if_neg h3, if_neg (by omega)]
      · rw [if_neg h2, if_neg h2, st_ne1 h1, st_ne1 h2]
theorem ca38 {r k : Nat} {K : Nat → Int32 → Mem → Option Mem} {P : List Pg} {W : Mem} (hk : k < 24) (hc : ∀ l, l < 3 → W 10 l = nI (cnt P (k + 1) l)) : ∀ (d n l : Nat), l + d = 3 → d < n →
    f_X7_countAll_38 K n r (nI k) (nI l) (ms W 11 (fun y => if 3 * k ≤ y ∧ y < 3 * k + l then nI (cnt P (y / 3 + 1) (y % 3)) else W 11 y)) = K r (nI (k + 1)) (ms W 11 (fun y => if 3 * k ≤ y ∧ y < 3 * k + 3 then nI (cnt P (y / 3 + 1) (y % 3)) else W 11 y)) := by
  intro d
  induction d with
  | zero =>
    intro n l hl hn
    obtain ⟨n, rfl⟩ : ∃ n', n = n' + 1 := ⟨n - 1, by omega⟩
    have e : l = 3 := by omega
    subst e
    unfold f_X7_countAll_38
    have e1 : nI k + 1 = nI (k + 1) := nI_1 k
    rw [if_pos (by rw [li, nle (by omega) (by omega)]; omega), e1]
  | succ d ih =>
    intro n l hl hn
    obtain ⟨n, rfl⟩ : ∃ n', n = n' + 1 := ⟨n - 1, by omega⟩
    unfold f_X7_countAll_38
    have e1 : nI l + 1 = nI (l + 1) := nI_1 l
    have e2 : (3 : Int32) * nI k + nI l = nI (3 * k + l) := by rw [li, pk_mul, nad]
    have e6 : ib (nI l) 6 = true := ibt (by omega) (by omega)
    have e7 : ib (nI (3 * k + l)) 72 = true := ibt (by omega) (by omega)
    rw [if_neg (by rw [li, nle (by omega) (by omega)]; omega), e2, if_pos e6, if_pos e7, ncl (by omega), ncl (by omega), e1, ← ih n (l + 1) (by omega) (by omega)]
    congr 1
    apply mem_ext
    intro a b
    by_cases h1 : a = 11
    · subst h1
      rw [st_at, ms_same, ms_same, ms_ne (show (10 : Nat) ≠ 11 by omega)]
      by_cases hb : b = 3 * k + l
      · rw [if_pos ⟨rfl, hb⟩, if_pos (by omega), hc l (by omega), hb]
        rw [show (3 * k + l) / 3 = k by omega, show (3 * k + l) % 3 = l by omega]
      · rw [if_neg (fun q => hb q.2)]
        by_cases h2 : 3 * k ≤ b ∧ b < 3 * k + l
        · rw [if_pos h2, if_pos (by omega)]
        · rw [if_neg h2, if_neg (by omega)]
    · rw [st_ne1 h1, ms_ne h1, ms_ne h1]
/-- the reference behind k paragraphs -/
def mk (U : Mem) (P : List Pg) (k : Nat) : Mem := ms (mc U (cnt P k)) 11 (ctf P (U 11) k)
theorem ca23 {U : Mem} {r : Nat} {S : Sh} (hr : r ≠ 9 ∧ r ≠ 10 ∧ r ≠ 11) (hS : ShM (U r) S) (hok : okS S) : ∀ (d n k : Nat), k + d = S.2.length → d < n → f_X7_countAll_23 n r (nI k) (mk U S.2 k) = some (mk U S.2 S.2.length) := by
  have h24 := hok.2.2.1
  intro d
  induction d with
  | zero =>
    intro n k hk hn
    obtain ⟨n, rfl⟩ : ∃ n', n = n' + 1 := ⟨n - 1, by omega⟩
    have e : k = S.2.length := by omega
    subst e
    unfold f_X7_countAll_23
    have e0 : mk U S.2 S.2.length r ((0 : Int32)).toNatClampNeg = nI S.2.length := by
      show mk U S.2 S.2.length r 0 = _
      unfold mk
      rw [ms_ne hr.2.2, mc_id hr.1 hr.2.1]
      exact hS.1
    rw [if_pos (by decide), e0, if_pos (by rw [nle (by omega) (by omega)]; omega)]
  | succ d ih =>
    intro n k hk hn
    obtain ⟨n, rfl⟩ : ∃ n', n = n' + 1 := ⟨n - 1, by omega⟩
    unfold f_X7_countAll_23
    have e0 : mk U S.2 k r ((0 : Int32)).toNatClampNeg = nI S.2.length := by
      show mk U S.2 k r 0 = _
      unfold mk
      rw [ms_ne hr.2.2, mc_id hr.1 hr.2.1]
      exact hS.1
    have hcl := cnt_le hok.2.2.2
    have em : ∀ j, mk U S.2 j = mc (ms U 11 (ctf S.2 (U 11) j)) (cnt S.2 j) := by
      intro j
      unfold mk mc
      apply mem_ext
      intro a b
      by_cases h1 : a = 11
      · subst h1
        rw [ms_same, ms_ne (by omega), ms_ne (by omega), ms_same]
      · rw [ms_ne h1, ms_id (show (10 : Nat) ≠ 11 by omega), ms_id (show (9 : Nat) ≠ 11 by omega)]
        by_cases h2 : a = 10
        · subst h2
          rw [ms_same, ms_same]
        · rw [ms_ne h2, ms_ne h2]
          by_cases h3 : a = 9
          · subst h3
            rw [ms_same, ms_same]
          · rw [ms_ne h3, ms_ne h3, ms_ne h1]
    have hS3 : ShM (ms U 11 (ctf S.2 (U 11) k) r) S := by rw [ms_id hr.2.2]; exact hS
    have ep := passes_eq (U := ms U 11 (ctf S.2 (U 11) k)) (C := cnt S.2 k) ⟨hr.1, hr.2.1⟩ hS3 hok (show k < S.2.length by omega) (fun x => by have := hcl k (by omega) x; omega)
    rw [if_pos (by decide), e0, if_neg (by rw [nle (by omega) (by omega)]; omega), em k, ep, Option.bind_some, ← cnt_succ (by omega)]
    generalize hW : mc (ms U 11 (ctf S.2 (U 11) k)) (cnt S.2 (k + 1)) = W
    have hw10 : ∀ l, l < 3 → W 10 l = nI (cnt S.2 (k + 1) l) := by
      intro l hl
      rw [← hW, mc_10]
      unfold af
      rw [if_pos (by omega)]
      have := hcl (k + 1) (by omega) l
      congr 1
      omega
    have e3 := ca38 (r := r) (K := f_X7_countAll_23 n) (P := S.2) (W := W) (show k < 24 by omega) hw10 3 4096 0 (by omega) (by omega)
    have ez : (ms W 11 (fun y => if 3 * k ≤ y ∧ y < 3 * k + 0 then nI (cnt S.2 (y / 3 + 1) (y % 3)) else W 11 y)) = W := by
      apply mem_ext
      intro a b
      rw [ms_at]
      by_cases h1 : a = 11
      · rw [if_pos h1, if_neg (by omega), h1]
      · rw [if_neg h1]
    rw [ez] at e3
    have e3' : f_X7_countAll_38 (f_X7_countAll_23 n) 4096 r (nI k) 0 W = _ := e3
    rw [e3', ← ih n (k + 1) (by omega) (by omega)]
    congr 1
    rw [em (k + 1)]
    apply mem_ext
    intro a b
    rw [ms_at]
    by_cases h1 : a = 11
    · rw [if_pos h1, h1, mc_id (by decide) (by decide), ms_same, ← hW, mc_id (by decide) (by decide), ms_same]
      unfold ctf
      by_cases h2 : 3 * k ≤ b ∧ b < 3 * k + 3
      · rw [if_pos h2, if_pos (by omega)]
      · rw [if_neg h2]
        by_cases h3 : b < 3 * k
        · rw [if_pos h3, if_pos (by omega)]
        · rw [if_neg h3, if_neg (by omega)]
    · rw [if_neg h1, ← hW]
      unfold mc
      rw [ms_id (show (10 : Nat) ≠ 11 by omega), ms_id (show (9 : Nat) ≠ 11 by omega), ms_id (show (10 : Nat) ≠ 11 by omega), ms_id (show (9 : Nat) ≠ 11 by omega)]
      by_cases h2 : a = 10
      · subst h2
        rw [ms_same, ms_same]
      · rw [ms_ne h2, ms_ne h2]
        by_cases h3 : a = 9
        · subst h3
          rw [ms_same, ms_same]
        · rw [ms_ne h3, ms_ne h3, ms_ne h1, ms_ne h1]
theorem countAll_eq {U : Mem} {r : Nat} {S : Sh} (hr : r ≠ 9 ∧ r ≠ 10 ∧ r ≠ 11) (hS : ShM (U r) S) (hok : okS S) : f_X7_countAll r U = some (mk U S.2 S.2.length) := by
  have h24 := hok.2.2.1
  unfold f_X7_countAll
  have e := ca2 (r := r) 6 4096 0 U (by omega) (by omega)
  have e' : f_X7_countAll_2 4096 r 0 U = _ := e
  rw [e']
  have e2 := ca23 hr hS hok S.2.length 4096 0 (by omega) (by omega)
  have e2' : f_X7_countAll_23 4096 r 0 (mk U S.2 0) = _ := e2
  rw [← e2']
  congr 1
  apply mem_ext
  intro a b
  unfold mk mc
  by_cases h1 : a = 10
  · subst h1
    rw [ms_same, ms_ne (show (10 : Nat) ≠ 11 by omega), ms_same]
    unfold af
    by_cases hb : b < 6
    · rw [if_pos ⟨by omega, hb⟩, if_pos hb]; rfl
    · rw [if_neg (by omega), if_neg hb]
  · by_cases h2 : a = 9
    · subst h2
      rw [ms_ne (show (9 : Nat) ≠ 10 by omega), ms_same, ms_ne (show (9 : Nat) ≠ 11 by omega), ms_ne (show (9 : Nat) ≠ 10 by omega), ms_same]
      unfold sf
      by_cases hb : b < 6
      · rw [if_pos ⟨by omega, hb⟩, if_pos hb, cnt_zero]
        show (-1 : Int32) = nI (0 / 1000) - 1
        decide
      · rw [if_neg (by omega), if_neg hb]
    · by_cases h3 : a = 11
      · subst h3
        rw [ms_ne h1, ms_ne h2, ms_same]
        unfold ctf
        rw [if_neg (by omega)]
      · rw [ms_ne h1, ms_ne h2, ms_ne h3, ms_ne h1, ms_ne h2]

/-! copy, feed. -/
def gu (f : Nat → Int32) (a b k : Nat) : Nat → Int32 := fun x => if b ≤ x ∧ x < b + k then f (a + (x - b)) else f x
def gd (f : Nat → Int32) (a b c k : Nat) : Nat → Int32 := fun x => if b + (c - k) ≤ x ∧ x < b + c then f (a + (x - b)) else f x
theorem gu_step {V : Mem} {a b k : Nat} (h : ¬ (b ≤ a + k ∧ a + k < b + k)) : st (ms V 3 (gu (V 3) a b k)) 3 (b + k) ((ms V 3 (gu (V 3) a b k)) 3 (a + k)) = ms V 3 (gu (V 3) a b (k + 1)) := by
  funext y
  by_cases hy : y = 3
  · subst hy
    funext x
    rw [ms_same, st_at, ms_same, ms_same]
    unfold gu
    by_cases hx : x = b + k
    · subst hx
      rw [if_pos ⟨rfl, rfl⟩, if_neg h, if_pos (by omega)]
      congr 1
      omega
    · rw [if_neg (by omega)]
      by_cases h1 : b ≤ x ∧ x < b + k
      · rw [if_pos h1, if_pos (by omega)]
      · rw [if_neg h1, if_neg (by omega)]
  · rw [st_id hy, ms_id hy, ms_id hy]
theorem gd_step {V : Mem} {a b c k : Nat} (hk : k < c) (h : ¬ (b + (c - k) ≤ a + (c - 1 - k) ∧ a + (c - 1 - k) < b + c)) : st (ms V 3 (gd (V 3) a b c k)) 3 (b + (c - 1 - k)) ((ms V 3 (gd (V 3) a b c k)) 3 (a + (c - 1 - k))) = ms V 3 (gd (V 3) a b c (k + 1)) := by
  funext y
  by_cases hy : y = 3
  · subst hy
    funext x
    rw [ms_same, st_at, ms_same, ms_same]
    unfold gd
    by_cases hx : x = b + (c - 1 - k)
    · subst hx
      rw [if_pos ⟨rfl, rfl⟩, if_neg h, if_pos (by omega)]
      congr 1
      omega
    · rw [if_neg (by omega)]
      by_cases h1 : b + (c - k) ≤ x ∧ x < b + c
      · rw [if_pos h1, if_pos (by omega)]
      · rw [if_neg h1, if_neg (by omega)]
  · rw [st_id hy, ms_id hy, ms_id hy]
theorem copy_up {V : Mem} {a i b j c : Nat} (ha : a < 8) (hb : b < 8) (hi : i + c ≤ 40) (hj : j + c ≤ 40) (hij : j ≤ i) : ∀ (d n k : Nat), k + d = c → d < n →
    f_X7_copy_143 n (nI a) (nI i) (nI b) (nI j) (nI c) 1 (nI k) (ms V 3 (gu (V 3) (40 * a + i) (40 * b + j) k)) = some (nI c, ms V 3 (gu (V 3) (40 * a + i) (40 * b + j) c)) := by
  intro d
  induction d with
  | zero =>
    intro n k hk hn
    obtain ⟨n, rfl⟩ : ∃ n', n = n' + 1 := ⟨n - 1, by omega⟩
    have e : k = c := by omega
    subst e
    unfold f_X7_copy_143
    rw [if_pos (by rw [nle (by omega) (by omega)]; omega)]
  | succ d ih =>
    intro n k hk hn
    obtain ⟨n, rfl⟩ : ∃ n', n = n' + 1 := ⟨n - 1, by omega⟩
    unfold f_X7_copy_143
    have e1 : nI k + 1 = nI (k + 1) := nI_1 k
    have e2 : (40 : Int32) * nI a + nI i + nI k = nI (40 * a + i + k) := by rw [li, pk_mul, nad, nad]
    have e3 : (40 : Int32) * nI b + nI j + nI k = nI (40 * b + j + k) := by rw [li, pk_mul, nad, nad]
    rw [if_neg (by rw [nle (by omega) (by omega)]; omega), if_neg (by decide)]
    unfold f_X7_copy_167
    rw [e2, e3, if_pos (ibt (by omega) (by omega)), if_pos (ibt (by omega) (by omega)), ncl (by omega), ncl (by omega), e1, gu_step (by omega)]
    exact ih n (k + 1) (by omega) (by omega)
theorem copy_down {V : Mem} {a i b j c : Nat} (ha : a < 8) (hb : b < 8) (hi : i + c ≤ 40) (hj : j + c ≤ 40) (hij : i < j) : ∀ (d n k : Nat), k + d = c → d < n →
    f_X7_copy_143 n (nI a) (nI i) (nI b) (nI j) (nI c) 0 (nI k) (ms V 3 (gd (V 3) (40 * a + i) (40 * b + j) c k)) = some (nI c, ms V 3 (gd (V 3) (40 * a + i) (40 * b + j) c c)) := by
  intro d
  induction d with
  | zero =>
    intro n k hk hn
    obtain ⟨n, rfl⟩ : ∃ n', n = n' + 1 := ⟨n - 1, by omega⟩
    have e : k = c := by omega
    subst e
    unfold f_X7_copy_143
    rw [if_pos (by rw [nle (by omega) (by omega)]; omega)]
  | succ d ih =>
    intro n k hk hn
    obtain ⟨n, rfl⟩ : ∃ n', n = n' + 1 := ⟨n - 1, by omega⟩
    unfold f_X7_copy_143
    have e0 : nI c - 1 - nI k = nI (c - 1 - k) := by rw [li, nsb (by omega), nsb (by omega)]
    have e1 : nI k + 1 = nI (k + 1) := nI_1 k
    have e2 : (40 : Int32) * nI a + nI i + nI (c - 1 - k) = nI (40 * a + i + (c - 1 - k)) := by rw [li, pk_mul, nad, nad]
    have e3 : (40 : Int32) * nI b + nI j + nI (c - 1 - k) = nI (40 * b + j + (c - 1 - k)) := by rw [li, pk_mul, nad, nad]
    rw [if_neg (by rw [nle (by omega) (by omega)]; omega), if_pos rfl]
    unfold f_X7_copy_167
    rw [e0, e2, e3, if_pos (ibt (by omega) (by omega)), if_pos (ibt (by omega) (by omega)), ncl (by omega), ncl (by omega), e1, gd_step (by omega) (by omega)]
    exact ih n (k + 1) (by omega) (by omega)
theorem copy_any {V : Mem} {a i b j c : Nat} (ha : a < 8) (hb : b < 8) (hi : i + c ≤ 40) (hj : j + c ≤ 40) :
    (if nI i < nI j then f_X7_copy_138 (nI a) (nI i) (nI b) (nI j) (nI c) 0 V else f_X7_copy_138 (nI a) (nI i) (nI b) (nI j) (nI c) 1 V) = some (nI c, ms V 3 (gu (V 3) (40 * a + i) (40 * b + j) c)) := by
  by_cases h : i < j
  · rw [if_pos ((nlt (by omega) (by omega)).mpr h)]
    unfold f_X7_copy_138
    have e := copy_down (V := V) ha hb hi hj h c 4096 0 (by omega) (by omega)
    have e0 : ms V 3 (gd (V 3) (40 * a + i) (40 * b + j) c 0) = V := by
      funext y
      by_cases hy : y = 3
      · subst hy
        rw [ms_eq]
        funext x
        unfold gd
        rw [if_neg (by omega)]
      · rw [ms_id hy]
    rw [e0] at e
    rw [show (0 : Int32) = nI 0 from rfl] at e ⊢
    rw [e]
    congr 3
    funext x
    unfold gd gu
    by_cases hx : 40 * b + j ≤ x ∧ x < 40 * b + j + c
    · rw [if_pos (by omega), if_pos hx]
    · rw [if_neg (by omega), if_neg hx]
  · rw [if_neg (fun q => h ((nlt (by omega) (by omega)).mp q))]
    unfold f_X7_copy_138
    have e := copy_up (V := V) ha hb hi hj (by omega) c 4096 0 (by omega) (by omega)
    have e0 : ms V 3 (gu (V 3) (40 * a + i) (40 * b + j) 0) = V := by
      funext y
      by_cases hy : y = 3
      · subst hy
        rw [ms_eq]
        funext x
        unfold gu
        rw [if_neg (by omega)]
      · rw [ms_id hy]
    rw [e0] at e
    rw [show (0 : Int32) = nI 0 from rfl]
    exact e
/-- i and n are places of a row of m -/
theorem hold_iff {x y : Int32} {m : Nat} (hm : m ≤ 40) : (0 ≤ x ∧ 0 ≤ y ∧ x ≤ nI m - y) ↔ ∃ i c, x = nI i ∧ y = nI c ∧ i + c ≤ m := by
  constructor
  · rintro ⟨h1, h2, h3⟩
    obtain ⟨i, i1, rfl⟩ := nI_of (Int32.not_lt.mpr h1)
    obtain ⟨c, c1, rfl⟩ := nI_of (Int32.not_lt.mpr h2)
    refine ⟨i, c, rfl, rfl, ?_⟩
    rw [Int32.le_iff_toInt_le, nI_toInt (by omega)] at h3
    have e : (nI m - nI c).toInt = (m : Int) - c := by
      rw [Int32.toInt_sub, nI_toInt (by omega), nI_toInt (by omega)]
      exact Int.bmod_eq_of_le (by omega) (by omega)
    rw [e] at h3
    omega
  · rintro ⟨i, c, rfl, rfl, h⟩
    refine ⟨nI_pos' (by omega), nI_pos' (by omega), ?_⟩
    rw [nsb (by omega), nle (by omega) (by omega)]
    omega
theorem l64 {i c : Nat} (hi : i < 2147483648) (hc : c < 2147483648) : (nI i).toInt64 + (nI c).toInt64 = lN (i + c) := by
  rw [nI_l hi, nI_l hc, lN_add]
theorem cmp_le {i m : Nat} (hi : i < 9223372036854775808) (hm : m < 9223372036854775808) : (lg_cmp (lN i) (lN m) ≤ 0) ↔ i ≤ m := by
  rw [lg_cmp_le, pk_lLE hi hm]
theorem cmp_gt {i m : Nat} (hi : i < 9223372036854775808) (hm : m < 9223372036854775808) : (0 < lg_cmp (lN i) (lN m)) ↔ m < i := by
  rw [← Int32.not_le, cmp_le hi hm]
  omega
theorem inv_fnd {V U : Mem} {x : Int32} (h : Inv V U) : Inv (st V 0 12 x) (st (st (st U 0 0 0) 0 1 0) 0 1 x) := by
  refine inv_f h (fun a q => ?_) (fun k q1 q2 => ?_) ?_
  · rw [st_id q, st_id q, st_id q]
  · simp (disch := omega) only [st_same, st_ne1, st_ne2]
  · rw [st_same]

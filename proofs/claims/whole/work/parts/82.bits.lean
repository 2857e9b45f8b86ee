/-! lost: bits, powers, divisors. -/
def rk (P : List Pg) : Nat → Nat
  | 0 => 0
  | k + 1 => rk P k + (if (pg P k).1 = 2 then 1 else 0)
theorem rk_nK {P : List Pg} : ∀ (d k : Nat), rk P k + nK P 2 d k = rk P (k + d) := by
  intro d
  induction d with
  | zero => intro k; rfl
  | succ d ih =>
    intro k
    rw [nK, ← Nat.add_assoc, show k + (d + 1) = k + 1 + d by omega, ← ih (k + 1), rk]
theorem rk_le {P : List Pg} : ∀ (d k : Nat), rk P k ≤ rk P (k + d) := by
  intro d k
  rw [← rk_nK]
  omega
theorem rk_mono {P : List Pg} {i j : Nat} (h : i ≤ j) : rk P i ≤ rk P j := by
  have := rk_le (P := P) (j - i) i
  rw [show i + (j - i) = j by omega] at this
  exact this
theorem rk_lt {P : List Pg} {i j : Nat} (h : i < j) (hk : (pg P i).1 = 2) : rk P i < rk P j := by
  have := rk_mono (P := P) (show i + 1 ≤ j by omega)
  rw [rk, if_pos hk] at this
  omega
theorem rk_ex {P : List Pg} {r : Nat} : ∀ (n : Nat), r < rk P n → ∃ j, j < n ∧ (pg P j).1 = 2 ∧ rk P j = r := by
  intro n
  induction n with
  | zero => intro h; exact absurd h (by rw [rk]; omega)
  | succ n ih =>
    intro h
    rw [rk] at h
    by_cases c : r < rk P n
    · obtain ⟨j, j1, j2, j3⟩ := ih c
      exact ⟨j, by omega, j2, j3⟩
    · by_cases c2 : (pg P n).1 = 2
      · rw [if_pos c2] at h
        exact ⟨n, by omega, c2, by omega⟩
      · rw [if_neg c2] at h
        omega
/-- all restarts as bits -/
def al (P : List Pg) : Nat → Nat
  | 0 => 0
  | k + 1 => if (pg P k).1 = 2 then al P k ||| 2 ^ k else al P k
theorem al_lt {P : List Pg} : ∀ (k : Nat), al P k < 2 ^ k := by
  intro k
  induction k with
  | zero => rw [al]; omega
  | succ k ih =>
    have h2 : 2 ^ k < 2 ^ (k + 1) := Nat.pow_lt_pow_right (by omega) (by omega)
    rw [al]
    by_cases c : (pg P k).1 = 2
    · rw [if_pos c]
      exact Nat.or_lt_two_pow (by omega) h2
    · rw [if_neg c]
      omega
theorem al_bit {P : List Pg} {j : Nat} : ∀ (k : Nat), (al P k).testBit j = decide (j < k ∧ (pg P j).1 = 2) := by
  intro k
  induction k with
  | zero =>
    rw [al, Nat.zero_testBit]
    exact (decide_eq_false (fun q => absurd q.1 (by omega))).symm
  | succ k ih =>
    rw [al]
    by_cases c : (pg P k).1 = 2
    · rw [if_pos c, Nat.testBit_or, ih, Nat.testBit_two_pow]
      by_cases e : k = j
      · subst e
        simp [c]
      · have : (j < k + 1) ↔ (j < k) := by omega
        simp [e, this]
    · rw [if_neg c, ih]
      by_cases e : k = j
      · subst e
        simp [c]
      · have : (j < k + 1) ↔ (j < k) := by omega
        simp [this]
theorem orI {a b : Nat} (ha : a < 2147483648) (hb : b < 2147483648) : nI a ||| nI b = nI (a ||| b) := by
  apply Int32.toBitVec_inj.mp
  apply BitVec.eq_of_toNat_eq
  have h : a ||| b < 2 ^ 31 := Nat.or_lt_two_pow ha hb
  rw [Int32.toBitVec_or, BitVec.toNat_or, pk_tn (by omega), pk_tn (by omega), pk_tn (by omega)]
theorem shJ : ∀ j, j < 24 → ((nI j &&& 31).toBitVec.smod 32).toNat = j := by decide
theorem shl1 : ∀ j, j < 24 → (1 : Int32) <<< (nI j &&& 31) = nI (2 ^ j) := by decide
theorem al24 {P : List Pg} {n : Nat} (hn : n ≤ 24) : al P n < 16777216 := by
  have h := al_lt (P := P) n
  have h2 : 2 ^ n ≤ 2 ^ 24 := Nat.pow_le_pow_right (by omega) hn
  omega
theorem bitAl {P : List Pg} {n j : Nat} (hn : n ≤ 24) (hj : j < 24) : (nI (al P n) >>> (nI j &&& 31)) &&& 1 = if j < n ∧ (pg P j).1 = 2 then 1 else 0 := by
  have h := al24 (P := P) hn
  have h2 : al P n / 2 ^ j ≤ al P n := Nat.div_le_self _ _
  rw [pk_shrN (by omega) _ j (shJ j hj), pk_andN (by omega) 1 (by decide)]
  have hb := al_bit (P := P) (j := j) n
  rw [Nat.testBit_eq_decide_div_mod_eq] at hb
  by_cases c : j < n ∧ (pg P j).1 = 2
  · rw [if_pos c]
    rw [decide_eq_true c] at hb
    rw [show al P n / 2 ^ j % 2 ^ 1 = 1 from of_decide_eq_true hb]
    rfl
  · rw [if_neg c]
    rw [decide_eq_false c] at hb
    have h3 : ¬ al P n / 2 ^ j % 2 = 1 := of_decide_eq_false hb
    rw [show al P n / 2 ^ j % 2 ^ 1 = 0 by omega]
    rfl
/-! the divisor -/
theorem half {b r : Nat} (hr : 0 < r) (h : r ≤ b) : 2 * (b % r) < b := by
  have h1 : b % r < r := Nat.mod_lt b hr
  have h2 := Nat.div_add_mod b r
  have h3 : 1 ≤ b / r := (Nat.one_le_div_iff hr).mpr h
  have h4 : r * 1 ≤ r * (b / r) := Nat.mul_le_mul_left r h3
  omega
theorem gcd2 {a b : Nat} : Nat.gcd a b = Nat.gcd b (a % b) := by
  rw [Nat.gcd_comm a b, Nat.gcd_rec b a, Nat.gcd_comm]
theorem lcmp_le {b : Nat} (hb : b < 9223372036854775808) : (lg_cmp (lN b) (0 : Int64) ≤ 0) ↔ b = 0 := by
  have := cmp_le (i := b) (m := 0) hb (by omega)
  rw [show (0 : Int64) = lN 0 from rfl, this]
  omega
theorem lcmp_eq {b : Nat} (hb : b < 9223372036854775808) : (lg_cmp (lN b) (0 : Int64) = 0) ↔ b = 0 := by
  constructor
  · intro h
    exact (lcmp_le hb).mp (by rw [h]; exact Int32.le_refl 0)
  · intro h
    rw [h]
    decide
theorem leq0 {b : Nat} (hb : b < 9223372036854775808) : (lN b = (0 : Int64)) ↔ b = 0 := pk_lEQ (b := 0) hb (by omega)
theorem gc_end {V : Mem} {a : Nat} (ha : 1 ≤ a) (ha2 : a < 9223372036854775808) : f_X6_commonDivisor_44 (lN a) V = some (lN a, V) := by
  unfold f_X6_commonDivisor_44
  by_cases c : 1 < a
  · rw [if_pos (by rw [show (1 : Int64) = lN 1 from rfl, pk_lLT (by omega) (by omega)]; exact c)]
  · rw [if_neg (by rw [show (1 : Int64) = lN 1 from rfl, pk_lLT (by omega) (by omega)]; exact c), show a = 1 by omega]
    rfl
theorem gc_x {V : Mem} : ∀ (k a b s n : Nat), 1 ≤ a → a < 4000000 → b < 4000000 → b < 2 ^ k → s + 2 * k + 1 ≤ 100 → 2 * k + 1 < n → f_X6_commonDivisor_9 n (lN a) (lN b) (nI s) V = some (lN (Nat.gcd a b), V) := by
  intro k
  induction k with
  | zero =>
    intro a b s n ha ha2 hb2 hb hs hn
    obtain ⟨n, rfl⟩ : ∃ n', n = n' + 1 := ⟨n - 1, by omega⟩
    have e : b = 0 := by omega
    subst e
    rw [f_X6_commonDivisor_9, if_neg (by rw [li, nle (by omega) (by omega)]; omega), if_pos ((lcmp_le (by omega)).mpr rfl), gc_end ha (by omega), Nat.gcd_zero_right]
  | succ k ih =>
    intro a b s n ha ha2 hb2 hb hs hn
    obtain ⟨n, rfl⟩ : ∃ n', n = n' + 1 + 1 := ⟨n - 2, by omega⟩
    have e1 : nI s + 1 = nI (s + 1) := nI_1 s
    have e2 : nI (s + 1) + 1 = nI (s + 2) := nI_1 (s + 1)
    rw [f_X6_commonDivisor_9, if_neg (by rw [li, nle (by omega) (by omega)]; omega)]
    by_cases c : b = 0
    · subst c
      rw [if_pos ((lcmp_le (by omega)).mpr rfl), gc_end ha (by omega), Nat.gcd_zero_right]
    · rw [if_neg (fun q => c ((lcmp_le (by omega)).mp q)), if_neg (fun q => c ((leq0 (by omega)).mp q)), pk_lRem (by omega) (by omega) (by omega), e1, f_X6_commonDivisor_9, if_neg (by rw [li, nle (by omega) (by omega)]; omega)]
      have hr : a % b < b := Nat.mod_lt a (by omega)
      by_cases c2 : a % b = 0
      · rw [if_pos ((lcmp_le (by omega)).mpr c2), gc_end (by omega) (by omega), gcd2, c2, Nat.gcd_zero_right]
      · have hh := half (b := b) (r := a % b) (by omega) (by omega)
        rw [if_neg (fun q => c2 ((lcmp_le (by omega)).mp q)), if_neg (fun q => c2 ((leq0 (by omega)).mp q)), pk_lRem (by omega) (by omega) (by omega), e2, ih (a % b) (b % (a % b)) (s + 2) n (by omega) (by omega) (by omega) (by rw [Nat.pow_succ] at hb; omega) (by omega) (by omega), ← gcd2, ← gcd2]
theorem gc_m {M : Mem} {w : Int32} {A B : Int64} : ∀ (k a b n : Nat), a < 4000000 → b < 4000000 → b < 2 ^ k → 2 * k + 1 < n → f_X7_lost_242 n w A B (lN a) (lN b) M = if w = 0 then f_X7_lost_279 (lN (Nat.gcd a b)) A M else f_X7_lost_279 (lN (Nat.gcd a b)) B M := by
  intro k
  induction k with
  | zero =>
    intro a b n ha hb2 hb hn
    obtain ⟨n, rfl⟩ : ∃ n', n = n' + 1 := ⟨n - 1, by omega⟩
    have e : b = 0 := by omega
    subst e
    rw [f_X7_lost_242, if_pos ((lcmp_eq (by omega)).mpr rfl), Nat.gcd_zero_right]
  | succ k ih =>
    intro a b n ha hb2 hb hn
    obtain ⟨n, rfl⟩ : ∃ n', n = n' + 1 + 1 := ⟨n - 2, by omega⟩
    rw [f_X7_lost_242]
    by_cases c : b = 0
    · subst c
      rw [if_pos ((lcmp_eq (by omega)).mpr rfl), Nat.gcd_zero_right]
    · rw [if_neg (fun q => c ((lcmp_eq (by omega)).mp q)), if_neg (fun q => c ((leq0 (by omega)).mp q)), pk_lRem (by omega) (by omega) (by omega), f_X7_lost_242]
      have hr : a % b < b := Nat.mod_lt a (by omega)
      by_cases c2 : a % b = 0
      · rw [if_pos ((lcmp_eq (by omega)).mpr c2), gcd2 (a := a), c2, Nat.gcd_zero_right]
      · have hh := half (b := b) (r := a % b) (by omega) (by omega)
        rw [if_neg (fun q => c2 ((lcmp_eq (by omega)).mp q)), if_neg (fun q => c2 ((leq0 (by omega)).mp q)), pk_lRem (by omega) (by omega) (by omega), ih (a % b) (b % (a % b)) n (by omega) (by omega) (by rw [Nat.pow_succ] at hb; omega) (by omega), ← gcd2, ← gcd2]
/-! powers and ways -/
theorem pow_x {V : Mem} {b t : Nat} (ht : t ≤ 5) : ∀ (d n k : Nat), k + d = t → d < n → f_X6_power_5 n (lN b) (nI t) (lN (b ^ k)) (nI k) V = some (lN (b ^ t), V) := by
  intro d
  induction d with
  | zero =>
    intro n k hk hn
    obtain ⟨n, rfl⟩ : ∃ n', n = n' + 1 := ⟨n - 1, by omega⟩
    rw [f_X6_power_5, if_pos (by rw [nle (by omega) (by omega)]; omega), show k = t by omega]
  | succ d ih =>
    intro n k hk hn
    obtain ⟨n, rfl⟩ : ∃ n', n = n' + 1 := ⟨n - 1, by omega⟩
    have e1 : nI k + 1 = nI (k + 1) := nI_1 k
    rw [f_X6_power_5, if_neg (by rw [nle (by omega) (by omega)]; omega), lN_mul, e1, ← Nat.pow_succ]
    exact ih n (k + 1) (by omega) (by omega)
theorem power_x {V : Mem} {b t : Nat} (ht : t ≤ 5) : f_X6_power (lN b) (nI t) V = some (lN (b ^ t), V) := by
  unfold f_X6_power
  exact pow_x ht t 4096 0 (by omega) (by omega)
def bc (c : Nat) : Nat := c % 2 + c / 2 % 2 + c / 4 % 2 + c / 8 % 2 + c / 16 % 2
def wN (c p : Nat) : Nat → Nat
  | 0 => 1
  | r + 1 => wN c p r * (if c / 2 ^ r % 2 = 1 then p else 10 - p)
def sm (f : Nat → Nat) : Nat → Nat
  | 0 => 0
  | n + 1 => sm f n + f n
theorem ways_eq : ∀ m, m < 6 → ∀ c, c < 32 → ∀ p, p < 11 → c < 2 ^ m → bc c ≤ m ∧ wN c p m = p ^ bc c * (10 - p) ^ (m - bc c) := by decide +kernel
theorem ways_sum : ∀ m, m < 6 → ∀ p, p < 11 → sm (fun c => wN c p m) (2 ^ m) = 10 ^ m := by decide +kernel
theorem bc_x {V : Mem} : ∀ c, c < 32 → f_J6_bitCount_0f7a4 (nI c) V = some (nI (bc c), V) := by
  intro c hc
  unfold f_J6_bitCount_0f7a4
  refine congrArg (fun x => some (x, V)) ?_
  revert c
  decide +kernel
theorem bitC : ∀ c, c < 32 → ∀ r, r < 5 → (((nI c >>> (nI r &&& 31)) &&& 1 = 1) ↔ c / 2 ^ r % 2 = 1) := by decide +kernel
theorem bitL : ∀ c, c < 32 → (((nI c &&& 1) = 1) ↔ c % 2 = 1) ∧ nI c >>> ((1 : Int32) &&& 31) = nI (c / 2) := by decide +kernel
theorem shl5 : ∀ m, m < 6 → (1 : Int32) <<< (nI m &&& 31) = nI (2 ^ m) := by decide

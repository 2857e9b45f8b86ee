/-! count. -/
theorem add0 (x : Int32) : x + 0 = x := by
  apply Int32.toBitVec_inj.mp
  simp
def nrF (U : Mem) : Nat → Nat → Int32 → Int32
  | 0, _, acc => acc
  | d + 1, k, acc => nrF U d (k + 1) (if U 1 k = -1 then acc else acc + 1)
theorem nr_x {V U : Mem} (h : RR V U) : ∀ (d n k : Nat) (acc : Int32), k + d = 8 → d < n → f_X6_howManyRows_4 n acc (nI k) V = some (nrF U d k acc, V) := by
  intro d
  induction d with
  | zero =>
    intro n k acc hk hn
    obtain ⟨n, rfl⟩ : ∃ n', n = n' + 1 := ⟨n - 1, by omega⟩
    unfold f_X6_howManyRows_4
    rw [if_pos (by rw [li, nle (by omega) (by omega)]; omega)]
    rfl
  | succ d ih =>
    intro n k acc hk hn
    obtain ⟨n, rfl⟩ : ∃ n', n = n' + 1 := ⟨n - 1, by omega⟩
    have e1 : nI k + 1 = nI (k + 1) := nI_1 k
    unfold f_X6_howManyRows_4 f_X6_howManyRows_25
    rw [if_neg (by rw [li, nle (by omega) (by omega)]; omega), if_pos (ibt (by omega) (by omega)), ncl (by omega), isMissing_eq, Option.bind_some, e1, (h k (by omega)).1]
    by_cases hm : U 1 k = -1
    · rw [if_neg (fun q => ((b01z _).mp q) hm)]
      dsimp only
      rw [ih n (k + 1) _ (by omega) (by omega), nrF, if_pos hm]
    · rw [if_pos ((b01z _).mpr hm)]
      dsimp only
      rw [ih n (k + 1) _ (by omega) (by omega), nrF, if_neg hm]
theorem nr_m {V U : Mem} (h : RR V U) : ∀ (d n k : Nat) (acc : Int32), k + d = 8 → d < n → f_X7_count_50 n acc (nI k) (st U 0 0 0) = some (nrF U d k acc, st U 0 0 0) := by
  intro d
  induction d with
  | zero =>
    intro n k acc hk hn
    obtain ⟨n, rfl⟩ : ∃ n', n = n' + 1 := ⟨n - 1, by omega⟩
    unfold f_X7_count_50
    rw [if_pos (by rw [li, nle (by omega) (by omega)]; omega)]
    rfl
  | succ d ih =>
    intro n k acc hk hn
    obtain ⟨n, rfl⟩ : ∃ n', n = n' + 1 := ⟨n - 1, by omega⟩
    have e1 : nI k + 1 = nI (k + 1) := nI_1 k
    unfold f_X7_count_50 f_X7_count_71
    rw [if_neg (by rw [li, nle (by omega) (by omega)]; omega), if_pos (ibt (by omega) (by omega)), ncl (by omega), e1, add0, st_ne1 (by omega)]
    rcases (h k (by omega)).2 with hm | ⟨l, m, p1, p2, p3, -⟩
    · rw [if_pos (by rw [hm]; decide), ih n (k + 1) _ (by omega) (by omega), nrF, if_pos hm]
    · rw [if_neg (by rw [p3]; exact nI_pos (by omega)), ih n (k + 1) _ (by omega) (by omega), nrF, if_neg (by rw [p3]; exact nm1 (by omega))]
def nK (P : List Pg) (c : Nat) : Nat → Nat → Nat
  | 0, _ => 0
  | d + 1, k => (if (pg P k).1 = c then 1 else 0) + nK P c d (k + 1)
def nL (P : List Pg) : Nat → Nat → Nat
  | 0, _ => 0
  | d + 1, k => (if (pg P k).1 ≤ 3 then 1 else 0) + nL P d (k + 1)
theorem nL_sum {P : List Pg} (hP : ∀ p, p ∈ P → okP p) : ∀ (d k : Nat), k + d ≤ P.length → nL P d k = nK P 1 d k + nK P 2 d k + nK P 3 d k := by
  intro d
  induction d with
  | zero => intro k _; rfl
  | succ d ih =>
    intro k hk
    have hp := pg_ok hP (k := k) (by omega)
    have h1 := hp.1
    rw [nL, nK, nK, nK, ih (k + 1) (by omega)]
    by_cases a : (pg P k).1 ≤ 3
    · rcases (show (pg P k).1 = 1 ∨ (pg P k).1 = 2 ∨ (pg P k).1 = 3 by omega) with e | e | e <;> simp [e] <;> omega
    · rw [if_neg a, if_neg (by omega), if_neg (by omega), if_neg (by omega)]
      omega
theorem hm_x {S : Sh} {V : Mem} (hok : okS S) (hS : ShX V 4 S) {c : Nat} (hc : c ≤ 5) : ∀ (d n k acc : Nat), k + d = S.2.length → d < n → f_X3_howManyOf_4 4 n (nI c) (nI acc) (nI k) V = some (nI (acc + nK S.2 c d k), V) := by
  have h24 := hok.2.2.1
  intro d
  induction d with
  | zero =>
    intro n k acc hk hn
    obtain ⟨n, rfl⟩ : ∃ n', n = n' + 1 := ⟨n - 1, by omega⟩
    unfold f_X3_howManyOf_4
    rw [hS.1, if_pos (by rw [nle (by omega) (by omega)]; omega)]
    rfl
  | succ d ih =>
    intro n k acc hk hn
    obtain ⟨n, rfl⟩ : ∃ n', n = n' + 1 := ⟨n - 1, by omega⟩
    have e1 : nI k + 1 = nI (k + 1) := nI_1 k
    have e2 : nI acc + 1 = nI (acc + 1) := nI_1 acc
    have hp := pg_ok hok.2.2.2 (k := k) (by omega)
    have h5 := hp.2.1
    unfold f_X3_howManyOf_4 f_X3_howManyOf_25
    rw [hS.1, if_neg (by rw [nle (by omega) (by omega)]; omega), if_pos (ibt (by omega) (by omega)), ncl (by omega), (hS.2.2 k (by omega)).1, e1, e2]
    by_cases hm : (pg S.2 k).1 = c
    · rw [if_pos (by rw [hm]), ih n (k + 1) _ (by omega) (by omega), nK, if_pos hm]
      congr 3
      omega
    · rw [if_neg (by rw [neq (by omega) (by omega)]; exact hm), ih n (k + 1) _ (by omega) (by omega), nK, if_neg hm]
      congr 3
      omega
theorem hm_m {S : Sh} {U : Mem} (hok : okS S) (hS : ShM (U 4) S) : ∀ (d n k acc : Nat), k + d = S.2.length → d < n → f_X7_count_90 n (nI acc) (nI k) U = some (nI (acc + nL S.2 d k), U) := by
  have h24 := hok.2.2.1
  have e0 : U 4 ((0 : Int32)).toNatClampNeg = nI S.2.length := hS.1
  intro d
  induction d with
  | zero =>
    intro n k acc hk hn
    obtain ⟨n, rfl⟩ : ∃ n', n = n' + 1 := ⟨n - 1, by omega⟩
    unfold f_X7_count_90
    rw [if_pos (by decide), e0, if_pos (by rw [nle (by omega) (by omega)]; omega)]
    rfl
  | succ d ih =>
    intro n k acc hk hn
    obtain ⟨n, rfl⟩ : ∃ n', n = n' + 1 := ⟨n - 1, by omega⟩
    have e1 : nI k + 1 = nI (k + 1) := nI_1 k
    have e2 : nI acc + 1 = nI (acc + 1) := nI_1 acc
    unfold f_X7_count_90 f_X7_count_117
    rw [if_pos (by decide), e0, if_neg (by rw [nle (by omega) (by omega)]; omega), lbl_m hok hS (show k < _ by omega), Option.bind_some, e1, e2, add0]
    by_cases hm : (pg S.2 k).1 ≤ 3
    · rw [if_neg (fun q => ((b01z _).mp q) hm)]
      dsimp only
      rw [ih n (k + 1) _ (by omega) (by omega), nL, if_pos hm]
      congr 3
      omega
    · rw [if_pos ((b01z _).mpr hm)]
      dsimp only
      rw [ih n (k + 1) _ (by omega) (by omega), nL, if_neg hm]
      congr 3
      omega
theorem last_x {z : Nat} {S : Sh} {V : Mem} (hz : shid z) (hok : okS S) (hS : ShX V z S) (hC : CI V z S.2) : ∃ V', f_X3_lastCounts z V = some (nI (cnt S.2 S.2.length 0 + cnt S.2 S.2.length 1 + cnt S.2 S.2.length 2), V') ∧ FS z V V' ∧ CI V' z S.2 := by
  have h24 := hok.2.2.1
  obtain ⟨V', e1, e2, e3, e4⟩ := ahead_eq hok hS hC (t := S.2.length) (Nat.le_refl _)
  refine ⟨V', ?_, e2, e3⟩
  unfold f_X3_lastCounts
  rw [hS.1, e1, Option.bind_some]
  dsimp only
  rw [if_pos (kbz hz (by omega))]
  have st1 : ∀ (n x : Nat) (a : Nat), x < 3 → f_X3_lastCounts_13 z (n + 1) (z + 5 + 1 + S.2.length) (nI a) (nI x) V' = f_X3_lastCounts_13 z n (z + 5 + 1 + S.2.length) (nI (a + cnt S.2 S.2.length x)) (nI (x + 1)) V' := by
    intro n x a hx
    have e5 : nI x + 1 = nI (x + 1) := nI_1 x
    rw [f_X3_lastCounts_13, if_neg (by rw [li, nle (by omega) (by omega)]; omega), if_pos (ibt (by omega) (by omega)), ncl (by omega), e4 x (by omega), nad, e5]
  have g : f_X3_lastCounts_13 z (4092 + 1 + 1 + 1 + 1) (z + 5 + 1 + S.2.length) (nI 0) (nI 0) V' = some (nI (cnt S.2 S.2.length 0 + cnt S.2 S.2.length 1 + cnt S.2 S.2.length 2), V') := by
    rw [st1 _ 0 0 (by omega), st1 _ 1 _ (by omega), st1 _ 2 _ (by omega), f_X3_lastCounts_13, if_pos (by rw [li, nle (by omega) (by omega)]; omega), Nat.zero_add]
  exact g
theorem last_m {S : Sh} {U : Mem} {r : Nat} (hr : r < 9) (hok : okS S) (hS : ShM (U r) S) : f_X7_lastTogether r (mk U S.2 S.2.length) = some (nI (cnt S.2 S.2.length 0 + cnt S.2 S.2.length 1 + cnt S.2 S.2.length 2), mk U S.2 S.2.length) := by
  have h24 := hok.2.2.1
  have hS' : ShM (mk U S.2 S.2.length r) S := by rw [mk_id (by omega)]; exact hS
  have e0 : mk U S.2 S.2.length r ((0 : Int32)).toNatClampNeg = nI S.2.length := hS'.1
  unfold f_X7_lastTogether
  rw [if_pos (by decide), e0]
  rcases Nat.eq_zero_or_pos S.2.length with h0 | h0
  · rw [if_neg (by rw [h0]; decide)]
    have c0 : cnt S.2 S.2.length = fun _ => 0 := by rw [h0]; rfl
    rw [c0]
    rfl
  · have e1 : nI S.2.length - 1 = nI (S.2.length - 1) := nsb (b := 1) (by omega)
    have m0 : (3 : Int32) * nI (S.2.length - 1) = nI (3 * (S.2.length - 1)) := by rw [li, pk_mul]
    have m1 : nI (3 * (S.2.length - 1)) + 1 = nI (3 * (S.2.length - 1) + 1) := nI_1 _
    have m2 : nI (3 * (S.2.length - 1)) + 2 = nI (3 * (S.2.length - 1) + 2) := nI_add _ 2
    have g0 := mk_11 (U := U) (P := S.2) (n := S.2.length) (k := S.2.length - 1) (l := 0) (by omega) (by omega)
    have g1 := mk_11 (U := U) (P := S.2) (n := S.2.length) (k := S.2.length - 1) (l := 1) (by omega) (by omega)
    have g2 := mk_11 (U := U) (P := S.2) (n := S.2.length) (k := S.2.length - 1) (l := 2) (by omega) (by omega)
    rw [show S.2.length - 1 + 1 = S.2.length by omega] at g0 g1 g2
    rw [Nat.add_zero] at g0
    rw [e1, if_pos (nI_pos' (by omega)), m0, m1, m2, if_pos (ibt (by omega) (by omega)), if_pos (ibt (by omega) (by omega)), if_pos (ibt (by omega) (by omega)), ncl (by omega), ncl (by omega), ncl (by omega), g0, g1, g2, nad, nad]
theorem s_count : S_count Inv := by
  intro a V U h
  obtain ⟨S, A, hSS⟩ := h.2.2.2.2.1
  obtain ⟨hok, hX, hC, hM, hAV, hA9, hAW⟩ := id hSS
  have h24 := hok.2.2.1
  have hM' : ShM (st U 0 0 0 4) S := by rw [st_id (by omega)]; exact hM
  unfold f_X6_count f_X7_count
  by_cases c0 : a = 0
  · rw [if_pos c0, if_pos c0]
    unfold f_X6_howManyRows
    have e1 : f_X6_howManyRows_4 4096 0 0 V = _ := nr_x h.1 8 4096 0 0 (by omega) (by omega)
    have e2 : f_X7_count_50 4096 0 0 (st U 0 0 0) = _ := nr_m h.1 8 4096 0 0 (by omega) (by omega)
    rw [e1, e2]
    exact ⟨_, _, rfl, rfl, rfl, inv_t h⟩
  rw [if_neg c0, if_neg c0]
  by_cases c1 : a = 1
  · rw [if_pos c1, if_pos c1, if_pos (by decide)]
    refine ⟨_, _, rfl, rfl, ?_, inv_t h⟩
    exact hX.1.trans hM'.1.symm
  rw [if_neg c1, if_neg c1]
  by_cases c2 : a = 2
  · rw [if_pos c2, if_pos c2]
    unfold f_X3_howManyOf
    have x1 : f_X3_howManyOf_4 4 4096 1 0 0 V = _ := hm_x hok hX (c := 1) (by omega) S.2.length 4096 0 0 (by omega) (by omega)
    have x2 : f_X3_howManyOf_4 4 4096 2 0 0 V = _ := hm_x hok hX (c := 2) (by omega) S.2.length 4096 0 0 (by omega) (by omega)
    have x3 : f_X3_howManyOf_4 4 4096 3 0 0 V = _ := hm_x hok hX (c := 3) (by omega) S.2.length 4096 0 0 (by omega) (by omega)
    have m1 : f_X7_count_90 4096 0 0 (st U 0 0 0) = _ := hm_m hok hM' S.2.length 4096 0 0 (by omega) (by omega)
    rw [x1, Option.bind_some]
    dsimp only
    rw [x2, Option.bind_some]
    dsimp only
    rw [x3, Option.bind_some, m1]
    refine ⟨_, _, rfl, rfl, ?_, inv_t h⟩
    dsimp only
    rw [nad, nad, nL_sum hok.2.2.2 S.2.length 0 (by omega)]
    congr 1
    omega
  rw [if_neg c2, if_neg c2]
  by_cases c3 : a = 3
  · rw [if_pos c3, if_pos c3]
    obtain ⟨V', i1, i2, i3⟩ := last_x (Or.inl rfl) hok hX hC
    rw [i1, countAll_eq (by omega) hM' hok, Option.bind_some, Option.bind_some, last_m (by omega) hok hM', Option.bind_some]
    refine ⟨_, _, rfl, rfl, rfl, inv_fs h hSS i2 i3 (qm_t.tr qm_mk) ?_ ?_⟩
    · dsimp only
      rw [mk_id (by omega), st_ne2 (by omega)]
    · dsimp only
      rw [mk_id (by omega), st_ne2 (by omega)]
  rw [if_neg c3, if_neg c3]
  by_cases c4 : a = 4
  · rw [if_pos c4, if_pos c4]
    refine ⟨_, _, rfl, rfl, ?_, inv_t h⟩
    dsimp only
    rw [hAV.2.1, st_ne2 (by omega), hA9]
  rw [if_neg c4, if_neg c4]
  by_cases c5 : a = 5
  · rw [if_pos c5, if_pos c5]
    refine ⟨_, _, rfl, rfl, ?_, inv_t h⟩
    obtain ⟨n, n1, n2, n3, n4⟩ := h.2.2.1
    dsimp only
    rw [n2, st_ne2 (by omega), n3]
  rw [if_neg c5, if_neg c5]
  exact ⟨_, _, rfl, rfl, rfl, inv_t h⟩

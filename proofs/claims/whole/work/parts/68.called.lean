/-! called, deepest. -/
def clv (S : Sh) (p q : Nat) : Nat → Nat → Nat
  | 0, l => l
  | d + 1, l => if cnt S.2 (p + 1) l = cnt S.2 (q + 1) l then clv S p q d (l + 1) else l
theorem clv_le {S : Sh} {p q : Nat} : ∀ (d l : Nat), clv S p q d l ≤ l + d := by
  intro d
  induction d with
  | zero => intro l; exact Nat.le_refl _
  | succ d ih =>
    intro l
    rw [clv]
    have := ih (l + 1)
    split <;> omega
theorem called_x {S : Sh} {V : Mem} {p q own r4 r5 : Nat} {j : Int32} (hok : okS S) (hp : p < S.2.length) (hq : q < S.2.length) (ho : own ≤ 2) (h4 : ∀ x, x < 6 → V r4 x = nI (cnt S.2 (p + 1) x)) (h5 : ∀ x, x < 6 → V r5 x = nI (cnt S.2 (q + 1) x)) : ∀ (d n l : Nat), l + d = own → d < n → f_X6_called_63 n (nI p) j r4 r5 (nI own) (nI l) V = f_X6_called_89 (nI p) j (nI (clv S p q d l)) V := by
  intro d
  induction d with
  | zero =>
    intro n l hl hn
    obtain ⟨n, rfl⟩ : ∃ n', n = n' + 1 := ⟨n - 1, by omega⟩
    rw [f_X6_called_63, if_pos (by rw [nle (by omega) (by omega)]; omega)]
    rfl
  | succ d ih =>
    intro n l hl hn
    obtain ⟨n, rfl⟩ : ∃ n', n = n' + 1 := ⟨n - 1, by omega⟩
    have e1 : nI l + 1 = nI (l + 1) := nI_1 l
    have i6 : ib (nI l) 6 = true := ibt (by omega) (by omega)
    have c1 := cnt44 hok hp l
    have c2 := cnt44 hok hq l
    rw [f_X6_called_63, if_neg (by rw [nle (by omega) (by omega)]; omega), if_pos i6, if_pos i6, ncl (by omega), h4 l (by omega), h5 l (by omega), clv]
    by_cases hc : cnt S.2 (p + 1) l = cnt S.2 (q + 1) l
    · rw [if_pos (by rw [hc]), if_pos hc, e1]
      exact ih n (l + 1) (by omega) (by omega)
    · rw [if_neg (by rw [neq (by omega) (by omega)]; exact hc), if_neg hc]
theorem called_m {S : Sh} {U M : Mem} {p q : Nat} {j : Int32} (hok : okS S) (hm : MW U M S) (hp : p < S.2.length) (hq : q < S.2.length) : ∀ (d n l : Nat), l + d = (pg S.2 p).2.1 → d < n → f_X7_called_39 n (nI p) (nI q) j (nI l) M = f_X7_called_84 (nI p) j (nI (clv S p q d l)) M := by
  have h24 := hok.2.2.1
  have hpp := pg_ok hok.2.2.2 hp
  have ho := hpp.2.2.1
  have e0 : f_X7_of 4 (nI p) 1 M = _ := of_eq (w := 1) hm.2.2.2.1 hp h24 (by omega)
  have k2 := (hm.2.2.2.1.2.2 p hp).2.1
  intro d
  induction d with
  | zero =>
    intro n l hl hn
    obtain ⟨n, rfl⟩ : ∃ n', n = n' + 1 := ⟨n - 1, by omega⟩
    rw [f_X7_called_39, e0, Option.bind_some]
    dsimp only
    rw [k2, if_pos (by rw [nle (by omega) (by omega)]; omega)]
    rfl
  | succ d ih =>
    intro n l hl hn
    obtain ⟨n, rfl⟩ : ∃ n', n = n' + 1 := ⟨n - 1, by omega⟩
    have e1 : nI l + 1 = nI (l + 1) := nI_1 l
    have a1 : (3 : Int32) * nI p + nI l = nI (3 * p + l) := by rw [li, pk_mul, nad]
    have a2 : (3 : Int32) * nI q + nI l = nI (3 * q + l) := by rw [li, pk_mul, nad]
    have b1 : ib (nI (3 * p + l)) 72 = true := ibt (by omega) (by omega)
    have b2 : ib (nI (3 * q + l)) 72 = true := ibt (by omega) (by omega)
    have d1 : (nI (3 * p + l)).toNatClampNeg = 3 * p + l := ncl (by omega)
    have d2 : (nI (3 * q + l)).toNatClampNeg = 3 * q + l := ncl (by omega)
    have c1 := cnt44 hok hp l
    have c2 := cnt44 hok hq l
    have g1 := hm.2.2.2.2 p l hp (by omega)
    have g2 := hm.2.2.2.2 q l hq (by omega)
    have hno : ¬ nI (pg S.2 p).2.1 ≤ nI l := by rw [nle (by omega) (by omega)]; omega
    rw [f_X7_called_39, e0, Option.bind_some, clv]
    simp only [k2, if_neg hno, a1, a2, if_pos b1, if_pos b2, d1, d2, g1, g2]
    by_cases hc : cnt S.2 (p + 1) l = cnt S.2 (q + 1) l
    · rw [if_pos (by rw [hc]), if_pos hc, e1]
      exact ih n (l + 1) (by omega) (by omega)
    · rw [if_neg (by rw [neq (by omega) (by omega)]; exact hc), if_neg hc]
theorem s_called : S_called Inv := by
  intro a b j V U h
  obtain ⟨S, A, hSS⟩ := h.2.2.2.2.1
  obtain ⟨hok, hX, hC, hM, -⟩ := id hSS
  have h24 := hok.2.2.1
  have hM' : ShM (st U 0 0 0 4) S := by rw [st_id (by omega)]; exact hM
  unfold f_X6_called f_X7_called
  rcases dich a S.2.length with ⟨p, hp, rfl⟩ | hk
  · rw [has_yes hX.1 (by omega) hp, par_yes hM'.1 (by omega) hp, Option.bind_some, Option.bind_some, if_neg i10, if_neg i10]
    dsimp only
    rcases dich b S.2.length with ⟨q, hq, rfl⟩ | hk
    · rw [has_yes hX.1 (by omega) hq, par_yes hM'.1 (by omega) hq, Option.bind_some, Option.bind_some, if_neg i10, if_neg i10]
      dsimp only
      by_cases h2 : 0 ≤ j
      · rw [if_pos h2, if_pos h2, countAll_eq (by omega) hM' hok, Option.bind_some]
        have hpp := pg_ok hok.2.2.2 hp
        have ho := hpp.2.2.1
        obtain ⟨m0, hm0⟩ := hC
        obtain ⟨V1, m1, b1, b2, b3, b4, b5⟩ := ahead_m hok hX hm0 (t := p + 1) (by omega)
        obtain ⟨V2, m2, d1, d2, d3, d4, d5⟩ := ahead_m hok (hX.fs b2) b5 (t := q + 1) (by omega)
        have hx2 : XQ V V2 S := xq_fs (xq_fs (xq_rf h hSS) b2 ⟨m1, b5⟩) d2 ⟨m2, d5⟩
        have hmw := mw_mk hM
        have h4 : ∀ x, x < 6 → V2 (4 + 5 + 1 + (p + 1)) x = nI (cnt S.2 (p + 1) x) := d5.2.2 (p + 1) (by omega)
        have h5 : ∀ x, x < 6 → V2 (4 + 5 + 1 + (q + 1)) x = nI (cnt S.2 (q + 1) x) := d5.2.2 (q + 1) (by omega)
        have g1 : f_X3_behind 4 (nI p) V = some (4 + 5 + 1 + (p + 1), V1) := by
          unfold f_X3_behind
          have e0 : nI p + 1 = nI (p + 1) := nI_1 p
          rw [e0, b1, Option.bind_some]
          dsimp only
          rw [if_pos (kb4 (by omega))]
        have g2 : f_X3_behind 4 (nI q) V1 = some (4 + 5 + 1 + (q + 1), V2) := by
          unfold f_X3_behind
          have e0 : nI q + 1 = nI (q + 1) := nI_1 q
          rw [e0, d1, Option.bind_some]
          dsimp only
          rw [if_pos (kb4 (by omega))]
        have i24 : ib (nI p) 24 = true := ibt (by omega) (by omega)
        have cp' : (nI p).toNatClampNeg = p := ncl (by omega)
        have k7 : V2 7 p = nI (pg S.2 p).2.1 := (hx2.2.2.1.2.2 p hp).2.1
        have kb1 := kb4 (show p + 1 ≤ 24 by omega)
        have kb2 := kb4 (show q + 1 ≤ 24 by omega)
        have x1 := called_x (j := j) hok hp hq ho h4 h5 (pg S.2 p).2.1 4096 0 (by omega) (by omega)
        have x1' : f_X6_called_63 4096 (nI p) j (4 + 5 + 1 + (p + 1)) (4 + 5 + 1 + (q + 1)) (nI (pg S.2 p).2.1) 0 V2 = _ := x1
        have y1 := called_m (j := j) hok hmw hp hq (pg S.2 p).2.1 4096 0 (by omega) (by omega)
        have y1' : f_X7_called_39 4096 (nI p) (nI q) j 0 (mk (st U 0 0 0) S.2 S.2.length) = _ := y1
        have hcl := clv_le (S := S) (p := p) (q := q) (pg S.2 p).2.1 0
        obtain ⟨v, V', s1, s2, s3⟩ := sign_both hok hx2 hmw hp (show clv S p q (pg S.2 p).2.1 0 < 2147483648 by omega) h2
        rw [g1, Option.bind_some]
        dsimp only
        rw [if_pos kb1, g2, Option.bind_some]
        dsimp only
        rw [if_pos kb2, if_pos i24, cp', k7, x1', y1']
        unfold f_X6_called_89 f_X7_called_84
        rw [s1, s3, Option.bind_some]
        exact ⟨_, _, rfl, rfl, rfl, inv_xm h hSS s2 (mw_wm hmw)⟩
      · rw [if_neg h2, if_neg h2]
        exact ⟨_, _, rfl, rfl, rfl, inv_t h⟩
    · rw [has_no hX.1 (by omega) hk, par_no hM'.1 (by omega) hk, Option.bind_some, Option.bind_some, if_pos rfl, if_pos rfl]
      exact ⟨_, _, rfl, rfl, rfl, inv_t h⟩
  · rw [has_no hX.1 (by omega) hk, par_no hM'.1 (by omega) hk, Option.bind_some, Option.bind_some, if_pos rfl, if_pos rfl]
    exact ⟨_, _, rfl, rfl, rfl, inv_t h⟩
def dpF (S : Sh) : Nat → Nat → Nat → Int32 → Nat × Int32
  | 0, _, m, w => (m, w)
  | d + 1, k, m, w => if (lab S k 0).length ≤ m then dpF S d (k + 1) m w else dpF S d (k + 1) (lab S k 0).length (nI k)
theorem deep_x {V0 : Mem} {S : Sh} {a : Int32} (hok : okS S) : ∀ (d n k m : Nat) (w : Int32) (V : Mem), k + d = S.2.length → d < n → m ≤ 23 → XQ V0 V S → ∃ V', f_X6_deepest_33 n a (nI m) w (nI k) V = some (if a = 1 then (dpF S d k m w).2 else if (dpF S d k m w).2 = -1000000 then (dpF S d k m w).2 else nI (dpF S d k m w).1, V') ∧ XQ V0 V' S := by
  have h24 := hok.2.2.1
  intro d
  induction d with
  | zero =>
    intro n k m w V hk hn hm hx
    obtain ⟨n, rfl⟩ : ∃ n', n = n' + 1 := ⟨n - 1, by omega⟩
    refine ⟨V, ?_, hx⟩
    rw [f_X6_deepest_33, hx.2.2.1.1, if_pos (by rw [nle (by omega) (by omega)]; omega), dpF]
    dsimp only
    by_cases h1 : a = 1
    · rw [if_pos h1, if_pos h1]
    · rw [if_neg h1, if_neg h1]
      by_cases h2 : w = -1000000
      · rw [if_pos h2, if_pos h2]
      · rw [if_neg h2, if_neg h2]
  | succ d ih =>
    intro n k m w V hk hn hm hx
    obtain ⟨n, rfl⟩ : ∃ n', n = n' + 1 := ⟨n - 1, by omega⟩
    obtain ⟨F, e1, e2, e3, e4⟩ := lab_x (r := 94) (f := 0) (k := k) (Or.inl rfl) (by omega) hok hx.2.2.1 hx.2.2.2.1 (by omega) (by omega)
    have e1' : f_X3_writeLabel 4 (nI k) 0 94 V = _ := e1
    have hx' := xq_lab hx (Or.inl rfl) e2 e3
    have hlen := (lab_len hok (k := k) (f := 0) (by omega)).1
    have e5 : nI k + 1 = nI (k + 1) := nI_1 k
    rw [f_X6_deepest_33, hx.2.2.1.1, if_neg (by rw [nle (by omega) (by omega)]; omega), e1', Option.bind_some, e4.1, dpF]
    unfold f_X6_deepest_81
    rw [e5]
    by_cases hc : (lab S k 0).length ≤ m
    · rw [if_pos (by rw [nle (by omega) (by omega)]; exact hc), if_pos hc]
      exact ih n (k + 1) m w F (by omega) (by omega) hm hx'
    · rw [if_neg (by rw [nle (by omega) (by omega)]; exact hc), if_neg hc]
      exact ih n (k + 1) _ (nI k) F (by omega) (by omega) hlen hx'
theorem deep_m {U : Mem} {S : Sh} {a : Int32} (hok : okS S) : ∀ (d n k m : Nat) (w b : Int32) (M : Mem), k + d = S.2.length → d < n → m ≤ 23 → ((m = 0 ∧ b = -1000000) ∨ (0 < m ∧ b = nI m)) → MW U M S → ∃ M', f_X7_deepest_45 n a b w (nI k) M = some (if a = 0 then (if (dpF S d k m w).1 = 0 then -1000000 else nI (dpF S d k m w).1) else (dpF S d k m w).2, M') ∧ MW U M' S := by
  have h24 := hok.2.2.1
  intro d
  induction d with
  | zero =>
    intro n k m w b M hk hn hm hb hx
    obtain ⟨n, rfl⟩ : ∃ n', n = n' + 1 := ⟨n - 1, by omega⟩
    refine ⟨M, ?_, hx⟩
    have e0 : M 4 ((0 : Int32)).toNatClampNeg = nI S.2.length := hx.2.2.2.1.1
    rw [f_X7_deepest_45, if_pos (by decide), e0, if_pos (by rw [nle (by omega) (by omega)]; omega), dpF]
    dsimp only
    by_cases h1 : a = 0
    · rw [if_pos h1, if_pos h1]
      rcases hb with ⟨q1, q2⟩ | ⟨q1, q2⟩
      · rw [if_pos q1, q2]
      · rw [if_neg (by omega), q2]
    · rw [if_neg h1, if_neg h1]
  | succ d ih =>
    intro n k m w b M hk hn hm hb hx
    obtain ⟨n, rfl⟩ : ∃ n', n = n' + 1 := ⟨n - 1, by omega⟩
    have e0 : M 4 ((0 : Int32)).toNatClampNeg = nI S.2.length := hx.2.2.2.1.1
    have m1 := lab_m (r := 4) (f := 0) (k := k) (by omega) hok hx.2.2.2.1 (by omega) (by omega) (fun l hl => hx.2.2.2.2 k l (by omega) hl)
    have m1' : f_X7_writeLabel 4 (nI k) 0 M = _ := m1
    have hx' := mw_wm (L := lab S k 0) hx
    have hlen := (lab_len hok (k := k) (f := 0) (by omega)).1
    have e5 : nI k + 1 = nI (k + 1) := nI_1 k
    rw [f_X7_deepest_45, if_pos (by decide), e0, if_neg (by rw [nle (by omega) (by omega)]; omega), m1', Option.bind_some, wm_23, dpF]
    unfold f_X7_deepest_90
    rw [e5]
    by_cases h0 : (lab S k 0).length = 0
    · rw [if_pos (by rw [h0]; decide), if_pos (show (lab S k 0).length ≤ m by omega)]
      exact ih n (k + 1) m w b _ (by omega) (by omega) hm hb hx'
    · rw [if_neg (by rw [li, nle (by omega) (by omega)]; omega)]
      by_cases hc : (lab S k 0).length ≤ m
      · have hbm : nI (lab S k 0).length ≤ b := by
          rcases hb with ⟨q1, q2⟩ | ⟨q1, q2⟩
          · omega
          · rw [q2, nle (by omega) (by omega)]; exact hc
        rw [if_pos hbm, if_pos hc]
        exact ih n (k + 1) m w b _ (by omega) (by omega) hm hb hx'
      · have hbm : ¬ nI (lab S k 0).length ≤ b := by
          rcases hb with ⟨q1, q2⟩ | ⟨q1, q2⟩
          · intro q
            rw [q2] at q
            exact absurd (Int32.le_trans (nI_pos' (show (lab S k 0).length < 2147483648 by omega)) q) (by decide)
          · rw [q2, nle (by omega) (by omega)]; exact hc
        rw [if_neg hbm, if_neg hc]
        exact ih n (k + 1) _ (nI k) _ _ (by omega) (by omega) hlen (Or.inr ⟨by omega, rfl⟩) hx'
theorem dpF_in {S : Sh} : ∀ (d k m : Nat) (w : Int32), (m = 0 ↔ w = -1000000) → k + d ≤ 1000 → ((dpF S d k m w).1 = 0 ↔ (dpF S d k m w).2 = -1000000) := by
  intro d
  induction d with
  | zero => intro k m w h _; exact h
  | succ d ih =>
    intro k m w h hk
    rw [dpF]
    by_cases hc : (lab S k 0).length ≤ m
    · rw [if_pos hc]; exact ih (k + 1) m w h (by omega)
    · rw [if_neg hc]
      refine ih (k + 1) _ _ ⟨fun q => by omega, fun q => ?_⟩ (by omega)
      have := nI_pos' (show k < 2147483648 by omega)
      rw [q] at this
      exact absurd this (by decide)
theorem s_deepest : S_deepest Inv := by
  intro a V U h
  obtain ⟨S, A, hSS⟩ := h.2.2.2.2.1
  obtain ⟨hok, hX, hC, hM, -⟩ := id hSS
  have h24 := hok.2.2.1
  have hM' : ShM (st U 0 0 0 4) S := by rw [st_id (by omega)]; exact hM
  unfold f_X6_deepest f_X7_deepest
  rw [none_x hX.1 (by omega), there_m hM'.1 (by omega), Option.bind_some, Option.bind_some]
  by_cases hn : S.2.length = 0
  · rw [if_neg (fun q => ((b01z _).mp q) hn), if_pos ((b01z _).mpr (by omega))]
    exact ⟨_, _, rfl, rfl, rfl, inv_t h⟩
  · rw [if_pos ((b01z _).mpr hn), if_neg (fun q => ((b01z _).mp q) (by omega))]
    dsimp only
    rw [isBetween_eq, show (0 : Int64) = (0 : Int32).toInt64 from rfl, show (1 : Int64) = (1 : Int32).toInt64 from rfl, inw, Option.bind_some, Option.bind_some]
    by_cases h1 : 0 ≤ a ∧ a ≤ 1
    · rw [if_neg (fun q => ((b01z _).mp q) h1), if_neg (fun q => ((b01z _).mp q) h1)]
      dsimp only
      obtain ⟨V', x1, x2⟩ := deep_x (a := a) hok S.2.length 4096 0 0 (-1000000) V (by omega) (by omega) (by omega) (xq_rf h hSS)
      have x1' : f_X6_deepest_33 4096 a 0 (-1000000) 0 V = _ := x1
      obtain ⟨M', y1, y2⟩ := deep_m (a := a) hok S.2.length 4096 0 0 (-1000000) (-1000000) _ (by omega) (by omega) (by omega) (Or.inl ⟨rfl, rfl⟩) (mw_mk hM)
      have y1' : f_X7_deepest_45 4096 a (-1000000) (-1000000) 0 (mk (st U 0 0 0) S.2 S.2.length) = _ := y1
      have hin := dpF_in (S := S) S.2.length 0 0 (-1000000) (by simp) (by omega)
      rw [x1', countAll_eq (by omega) hM' hok, Option.bind_some, y1']
      refine ⟨_, _, rfl, rfl, ?_, inv_xm h hSS x2 y2⟩
      dsimp only
      obtain ⟨i, hi, rfl⟩ := btw (n := 1) (by omega) h1
      rcases (show i = 0 ∨ i = 1 by omega) with rfl | rfl
      · rw [if_neg (by decide), if_pos (show nI 0 = (0 : Int32) from rfl)]
        by_cases hz : (dpF S S.2.length 0 0 (-1000000)).1 = 0
        · rw [if_pos (hin.mp hz), if_pos hz, hin.mp hz]
        · rw [if_neg (fun q => hz (hin.mpr q)), if_neg hz]
      · rw [if_pos (show nI 1 = (1 : Int32) from rfl), if_neg (by decide)]
    · rw [if_pos ((b01z _).mpr h1), if_pos ((b01z _).mpr h1)]
      exact ⟨_, _, rfl, rfl, rfl, inv_t h⟩

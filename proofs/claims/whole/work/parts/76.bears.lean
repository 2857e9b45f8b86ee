/-! What is found of a row; bears. -/
theorem inv_xv {V U V' U' : Mem} {S : Sh} {A : List Act} (h : Inv V U) (hSS : SS V U S A) (hx : XQ V V' S) (hm : QM U U') (h1 : U' 0 1 = U 0 1) (h18 : U' 0 18 = U 0 18) : Inv V' U' := inv_q h hSS hx.1 (by rw [hx.2.1]) (h.2.1.cg (by rw [hx.2.1]) (by rw [hx.2.1]) h1 h18) hx.2.2.2.1 hx.2.2.2.2 hm
theorem inv_xs {V U V' U' : Mem} {S : Sh} {A : List Act} {x : Int32} (h : Inv V U) (hSS : SS V U S A) (hx : XQ V V' S) (hm : QM U U') (h1 : U' 0 1 = x) (h18 : U' 0 18 = U 0 18) : Inv (st V' 0 12 x) U' := by
  refine inv_q h hSS ⟨fun a q => by rw [st_id (by omega)]; exact hx.1.1 a q, fun k hk => by rw [st_ne1 (by omega)]; exact hx.1.2 k hk⟩ (by rw [st_ne2 (by omega), hx.2.1]) ⟨by rw [st_same, h1], by rw [st_ne2 (by omega), hx.2.1, h18]; exact h.2.1.2⟩ (hx.2.2.2.1.cg hSS.1.2.2.1 (by rw [st_ne1 (by omega)]) (fun k _ => st_id (by omega))) (fun y hy => ?_) hm
  rw [st_ne1 (by omega)]
  exact hx.2.2.2.2 y hy
theorem row_both {V U M : Mem} {r n : Nat} {x : Int32} (h : RR V U) (hr : r < 8) (hn : n ≤ 40) (h1 : M 1 = U 1) (h2 : M 2 = U 2) :
    (∃ c : Int32, c ≠ 0 ∧ f_X2_findingAt (99 + 2 * r) x (nI n) V = some (c, V) ∧ f_X7_rowFound (nI r) x (nI n) M = some (-1000010 - c, st M 0 1 c) ∧ ¬ ((-1000010 : Int32) - c = 0)) ∨
    (∃ i, x = nI i ∧ i + n ≤ 40 ∧ (∀ j, j < n → V (99 + 2 * r + 1) (i + j) = U 3 (40 * r + i + j)) ∧ f_X2_findingAt (99 + 2 * r) x (nI n) V = some (0, V) ∧ f_X7_rowFound (nI r) x (nI n) M = some (0, st M 0 1 0)) := by
  have i8 : ib (nI r) 8 = true := ibt (by omega) (by omega)
  have cr : (nI r).toNatClampNeg = r := ncl (by omega)
  rw [findingAt_eq]
  unfold f_X7_rowFound f_X7_rowFound_35 f_X7_finding
  rw [if_pos i8, if_pos i8, cr, h1, h2]
  obtain ⟨g1, g2⟩ := h r hr
  rcases g2 with g2 | ⟨l, m, p1, p2, p3, p4, p5, p6⟩
  · refine Or.inl ⟨1, by decide, ?_, ?_, by decide⟩
    · rw [g1, if_pos g2]
    · rw [g2, if_neg (by decide)]
      rfl
  · have z1 : ¬ V (99 + 2 * r) 1 = -1 := by rw [g1, p3]; exact nm1 (by omega)
    rw [if_neg z1, p4, p3, if_pos (nI_pos' (by omega)), p5]
    by_cases c : 0 ≤ x ∧ 0 ≤ nI n ∧ x ≤ nI m - nI n
    · obtain ⟨i, k, rfl, e2, e3⟩ := (hold_iff (by omega)).mp c
      have e4 : k = n ∨ ¬ k < 2147483648 := by
        by_cases q : k < 2147483648
        · exact Or.inl ((neq q (by omega)).mp e2.symm)
        · exact Or.inr q
      have e5 : k = n := by omega
      refine Or.inr ⟨i, rfl, by omega, fun j hj => ?_, ?_, ?_⟩
      · rw [p6 (i + j) (by omega)]
        congr 1
        omega
      · rw [if_pos c]
      · rw [if_neg (nI_pos (by omega)), l64 (by omega) (by omega), nI_l (by omega), if_pos ((cmp_le (by omega) (by omega)).mpr (by omega))]
    · refine Or.inl ⟨2, by decide, ?_, ?_, by decide⟩
      · rw [if_neg c]
      · by_cases q : x < 0
        · rw [if_pos q]
          rfl
        · obtain ⟨i, i1, rfl⟩ := nI_of q
          have e6 : ¬ i + n ≤ m := fun e => c ((hold_iff (by omega)).mpr ⟨i, n, rfl, rfl, e⟩)
          rw [if_neg q, l64 (by omega) (by omega), nI_l (by omega), if_neg (fun e => e6 ((cmp_le (by omega) (by omega)).mp e))]
          rfl
def arF (g : Nat → Int32) (L : List Nat) : Nat → Nat → Bool
  | 0, _ => true
  | d + 1, j => if g j = nI (L.getD j 0) then arF g L d (j + 1) else false
theorem ar_loop {V : Mem} {r i n : Nat} {g : Nat → Int32} {L : List Nat} (hz : WL 94 V L) (hL : L.length ≤ 23) (hn : n = L.length) (hi : i + n ≤ 40) (hg : ∀ j, j < n → V (r + 1) (i + j) = g j) : ∀ (d m j : Nat), j + d = n → d < m → f_X4_areItems_13 94 m r (nI i) (nI n) (nI j) V = some (if arF g L d j = true then 1 else 0, V) := by
  intro d
  induction d with
  | zero =>
    intro m j hj hm
    obtain ⟨m, rfl⟩ : ∃ n', m = n' + 1 := ⟨m - 1, by omega⟩
    rw [f_X4_areItems_13, if_pos (by rw [nle (by omega) (by omega)]; omega)]
    rfl
  | succ d ih =>
    intro m j hj hm
    obtain ⟨m, rfl⟩ : ∃ n', m = n' + 1 := ⟨m - 1, by omega⟩
    have e1 : nI j + 1 = nI (j + 1) := nI_1 j
    rw [f_X4_areItems_13, if_neg (by rw [nle (by omega) (by omega)]; omega), nad, if_pos (ibt (by omega) (by omega)), if_pos (ibt (by omega) (by omega)), ncl (by omega), ncl (by omega), hg j (by omega), hz.2 j (by omega), e1, arF]
    by_cases c : g j = nI (L.getD j 0)
    · rw [if_pos c, if_pos c, ih m (j + 1) (by omega) (by omega)]
    · rw [if_neg c, if_neg c]
      rfl
def brF (S : Sh) (g : Nat → Int32) (n : Nat) : Nat → Nat → Int32
  | 0, _ => -1000000
  | d + 1, k => if (lab S k 0).length = n ∧ arF g (lab S k 0) n 0 = true then nI k else brF S g n d (k + 1)
theorem bears_x {V0 : Mem} {S : Sh} {r i n : Nat} {g : Nat → Int32} (hok : okS S) (hr : 99 ≤ r ∧ r < 114) (hi : i + n ≤ 40) (hg : ∀ j, j < n → V0 (r + 1) (i + j) = g j) : ∀ (d m k : Nat) (V : Mem), k + d = S.2.length → d < m → XQ V0 V S → ∃ V', f_X6_bears_65 m (nI i) (nI n) r (nI k) V = some (brF S g n d k, st V' 0 12 0) ∧ XQ V0 V' S := by
  have h24 := hok.2.2.1
  intro d
  induction d with
  | zero =>
    intro m k V hk hm hx
    obtain ⟨m, rfl⟩ : ∃ n', m = n' + 1 := ⟨m - 1, by omega⟩
    rw [f_X6_bears_65, hx.2.2.1.1, if_pos (by rw [nle (by omega) (by omega)]; omega)]
    exact ⟨V, rfl, hx⟩
  | succ d ih =>
    intro m k V hk hm hx
    obtain ⟨m, rfl⟩ : ∃ n', m = n' + 1 := ⟨m - 1, by omega⟩
    have e1 : nI k + 1 = nI (k + 1) := nI_1 k
    have hk2 : k < S.2.length := by omega
    obtain ⟨F, f1, f2, f3, f4⟩ := lab_x (z := 4) (r := 94) (f := 0) (Or.inl rfl) (by omega) hok hx.2.2.1 hx.2.2.2.1 hk2 (by omega)
    have f1' : f_X3_writeLabel 4 (nI k) 0 94 V = some F := f1
    have hxF := xq_lab hx (Or.inl rfl) f2 f3
    have hlen := (lab_len hok hk2 (f := 0)).1
    have hgF : ∀ j, j < n → F (r + 1) (i + j) = g j := fun j hj => by rw [hxF.1.1 (r + 1) (by omega)]; exact hg j hj
    rw [f_X6_bears_65, hx.2.2.1.1, if_neg (by rw [nle (by omega) (by omega)]; omega), f1', Option.bind_some, f_X4_areItems, f4.1, brF]
    by_cases c : (lab S k 0).length = n
    · have ha : f_X4_areItems_13 94 4096 r (nI i) (nI n) 0 F = _ := ar_loop (g := g) f4 hlen c.symm hi hgF n 4096 0 (by omega) (by omega)
      rw [if_pos (by rw [c]), ha, Option.bind_some]
      by_cases b : arF g (lab S k 0) n 0 = true
      · rw [if_neg (fun q => ((b01z _).mp q) b), if_pos (show _ ∧ _ from ⟨c, b⟩)]
        exact ⟨F, rfl, hxF⟩
      · rw [if_pos ((b01z _).mpr b), if_neg (show ¬ ((lab S k 0).length = n ∧ arF g (lab S k 0) n 0 = true) from fun q => b q.2), e1]
        exact ih m (k + 1) F (by omega) (by omega) hxF
    · rw [if_neg (fun q => c ((neq (by omega) (by omega)).mp q).symm), Option.bind_some, if_pos rfl, if_neg (fun q => c q.1), e1]
      exact ih m (k + 1) F (by omega) (by omega) hxF
theorem br_loop {M : Mem} {r i n k : Nat} {g : Nat → Int32} {L : List Nat} {K : Int32 → Int32 → Int32 → Int32 → Mem → Option (Int32 × Mem)} (hr : r < 8) (hz : WS M L) (hn : n = L.length) (hi : i + n ≤ 40) (hg : ∀ j, j < n → M 3 (40 * r + i + j) = g j) : ∀ (d m j : Nat), j + d = n → d < m → f_X7_bears_105 K m (nI r) (nI i) (nI n) (nI k) 1 (nI j) M = if arF g L d j = true then some (nI k, M) else K (nI r) (nI i) (nI n) (nI k + 1) M := by
  intro d
  induction d with
  | zero =>
    intro m j hj hm
    obtain ⟨m, rfl⟩ : ∃ n', m = n' + 1 := ⟨m - 1, by omega⟩
    rw [f_X7_bears_105, if_pos (by rw [nle (by omega) (by omega)]; omega)]
    rfl
  | succ d ih =>
    intro m j hj hm
    obtain ⟨m, rfl⟩ : ∃ n', m = n' + 1 := ⟨m - 1, by omega⟩
    have e1 : nI j + 1 = nI (j + 1) := nI_1 j
    have e2 : (40 : Int32) * nI r + nI i + nI j = nI (40 * r + i + j) := by rw [li, pk_mul, nad, nad]
    rw [f_X7_bears_105, if_neg (by rw [nle (by omega) (by omega)]; omega), if_neg (by decide), if_pos (ibt (by omega) (by omega)), e2, if_pos (ibt (by omega) (by omega)), ncl (by omega), ncl (by omega), hg j (by omega), hz.2 j (by omega), f_X7_bears_145, f_X7_bears_145, e1, arF]
    by_cases c : g j = nI (L.getD j 0)
    · rw [if_pos c.symm, if_pos c, ih m (j + 1) (by omega) (by omega)]
    · rw [if_neg (fun q => c q.symm), if_neg c, if_neg (by decide)]
      obtain ⟨m, rfl⟩ : ∃ n', m = n' + 1 := ⟨m - 1, by omega⟩
      rw [f_X7_bears_105, f_X7_bears_153]
      by_cases c2 : nI n ≤ nI (j + 1)
      · rw [if_pos c2, if_pos rfl]
      · rw [if_neg c2, if_pos rfl, if_pos rfl]
theorem bears_m {U : Mem} {S : Sh} {r i n : Nat} {g : Nat → Int32} (hok : okS S) (hr : r < 8) (hi : i + n ≤ 40) (h1 : 1 ≤ n) (hg : ∀ j, j < n → U 3 (40 * r + i + j) = g j) : ∀ (d m k : Nat) (M : Mem), k + d = S.2.length → d < m → MW U M S → ∃ M', f_X7_bears_65 m (nI r) (nI i) (nI n) (nI k) M = some (brF S g n d k, M') ∧ MW U M' S := by
  have h24 := hok.2.2.1
  intro d
  induction d with
  | zero =>
    intro m k M hk hm hx
    obtain ⟨m, rfl⟩ : ∃ n', m = n' + 1 := ⟨m - 1, by omega⟩
    have e0 : M 4 ((0 : Int32)).toNatClampNeg = nI S.2.length := hx.2.2.2.1.1
    rw [f_X7_bears_65, if_pos ib076, e0, if_pos (by rw [nle (by omega) (by omega)]; omega)]
    exact ⟨M, rfl, hx⟩
  | succ d ih =>
    intro m k M hk hm hx
    obtain ⟨m, rfl⟩ : ∃ n', m = n' + 1 := ⟨m - 1, by omega⟩
    have e0 : M 4 ((0 : Int32)).toNatClampNeg = nI S.2.length := hx.2.2.2.1.1
    have e1 : nI k + 1 = nI (k + 1) := nI_1 k
    have hk2 : k < S.2.length := by omega
    have w : f_X7_writeLabel 4 (nI k) 0 M = some (wm M (lab S k 0)) := lab_m (f := 0) (by omega) hok hx.2.2.2.1 hk2 (by omega) (fun l hl => hx.2.2.2.2 k l hk2 hl)
    have hx' := mw_wm (L := lab S k 0) hx
    have hlen := (lab_len hok hk2 (f := 0)).1
    have hgM : ∀ j, j < n → wm M (lab S k 0) 3 (40 * r + i + j) = g j := fun j hj => by rw [hx'.1.1 3 (by omega) (by omega) (by omega) (by omega)]; exact hg j hj
    rw [f_X7_bears_65, if_pos ib076, e0, if_neg (by rw [nle (by omega) (by omega)]; omega), w, Option.bind_some, wm_23, f_X7_bears_100, f_X7_bears_100, brF]
    by_cases c : (lab S k 0).length = n
    · have ha : f_X7_bears_105 (f_X7_bears_65 m) 4096 (nI r) (nI i) (nI n) (nI k) 1 0 (wm M (lab S k 0)) = _ := br_loop (g := g) (K := f_X7_bears_65 m) hr wm_WS c.symm hi hgM n 4096 0 (by omega) (by omega)
      rw [if_pos (by rw [c]), ha]
      by_cases b : arF g (lab S k 0) n 0 = true
      · rw [if_pos b, if_pos (show _ ∧ _ from ⟨c, b⟩)]
        exact ⟨_, rfl, hx'⟩
      · rw [if_neg b, if_neg (fun q => b q.2), e1]
        exact ih m (k + 1) _ (by omega) (by omega) hx'
    · have ha : ∀ n', f_X7_bears_105 (f_X7_bears_65 m) (n' + 1) (nI r) (nI i) (nI n) (nI k) 0 0 (wm M (lab S k 0)) = f_X7_bears_65 m (nI r) (nI i) (nI n) (nI k + 1) (wm M (lab S k 0)) := by
        intro n'
        rw [f_X7_bears_105, f_X7_bears_153]
        by_cases c2 : nI n ≤ 0
        · rw [if_pos c2, if_pos rfl]
        · rw [if_neg c2, if_pos rfl, if_pos rfl]
      rw [if_neg (fun q => c ((neq (by omega) (by omega)).mp q)), ha 4095, if_neg (fun q => c q.1), e1]
      exact ih m (k + 1) _ (by omega) (by omega) hx'
theorem mw_1 {U : Mem} {S : Sh} (hS : ShM (U 4) S) : MW (st U 0 1 0) (mk (st U 0 1 0) S.2 S.2.length) S := by
  have hS' : ShM (st U 0 1 0 4) S := by rw [st_id (by omega)]; exact hS
  exact ⟨qm_mk, by rw [mk_id (by omega)], by rw [mk_id (by omega)], by rw [mk_id (by omega)]; exact hS', fun k l hk hl => mk_11 hk hl⟩
theorem qm_1 {U : Mem} {x : Int32} : QM U (st U 0 1 x) := ⟨fun a q1 _ _ _ => st_id q1, st_ne2 (by omega), st_ne2 (by omega), st_ne2 (by omega)⟩
theorem s_bears : S_bears Inv := by
  intro a b c V U h
  obtain ⟨S, A, hSS⟩ := h.2.2.2.2.1
  obtain ⟨hok, hX, hC, hM, -⟩ := id hSS
  have h24 := hok.2.2.1
  have hM' : ShM (st U 0 0 0 4) S := by rw [st_id (by omega)]; exact hM
  unfold f_X6_bears f_X7_bears
  rw [none_x hX.1 (by omega), there_m hM'.1 (by omega), Option.bind_some, Option.bind_some]
  by_cases hn : S.2.length = 0
  · rw [if_neg (fun q => ((b01z _).mp q) hn), if_pos ((b01z _).mpr (by omega))]
    exact ⟨_, _, rfl, rfl, rfl, inv_t h⟩
  · rw [if_pos ((b01z _).mpr hn), if_neg (fun q => ((b01z _).mp q) (by omega))]
    dsimp only
    rw [isRow_eq, mRow_eq, Option.bind_some, Option.bind_some]
    by_cases h1 : 0 ≤ a ∧ a ≤ 7
    · rw [if_neg (fun q => ((b01z _).mp q) h1), if_neg (fun q => ((b01z _).mp q) h1)]
      dsimp only
      rw [isBetween_eq, show (1 : Int64) = (1 : Int32).toInt64 from rfl, show (40 : Int64) = (40 : Int32).toInt64 from rfl, inw, Option.bind_some, Option.bind_some]
      by_cases h2 : 1 ≤ c ∧ c ≤ 40
      · rw [if_neg (fun q => ((b01z _).mp q) h2), if_neg (fun q => ((b01z _).mp q) h2)]
        obtain ⟨r, r1, rfl⟩ := btw (n := 7) (by omega) h1
        obtain ⟨n, n1, rfl⟩ := btw (n := 40) (by omega) ⟨Int32.le_trans (by decide) h2.1, h2.2⟩
        have n0 : 1 ≤ n := by
          have := h2.1
          rw [show (1 : Int32) = nI 1 from rfl, nle (by omega) (by omega)] at this
          exact this
        dsimp only
        rw [if_pos (ibt (show r < 8 by omega) (by omega)), ncl (show r < 2147483648 by omega)]
        rcases row_both (M := st U 0 0 0) (x := b) (n := n) h.1 (show r < 8 by omega) n1 (st_id (by omega)) (st_id (by omega)) with ⟨e, e0, e1, e2, e3⟩ | ⟨i, rfl, i1, i2, e1, e2⟩
        · rw [e1, e2, Option.bind_some, Option.bind_some, if_neg e0, if_neg e3, f_X6_found, Option.bind_some]
          refine ⟨_, _, rfl, rfl, rfl, ?_⟩
          dsimp only
          exact inv_f h (fun a q => by rw [st_id q, st_id q]) (fun k q1 q2 => by rw [st_ne2 q2, st_ne2 q1]) st_same
        · rw [e1, e2, Option.bind_some, Option.bind_some, if_pos rfl, if_pos rfl]
          dsimp only
          have hM2 : ShM (st (st U 0 0 0) 0 1 0 4) S := by rw [st_id (by omega)]; exact hM'
          obtain ⟨V', x1, x2⟩ := bears_x (r := 99 + 2 * r) hok (by omega) i1 i2 S.2.length 4096 0 V (by omega) (by omega) (xq_rf h hSS)
          have x1' : f_X6_bears_65 4096 (nI i) (nI n) (99 + 2 * r) 0 V = _ := x1
          obtain ⟨M', y1, y2⟩ := bears_m (U := st (st U 0 0 0) 0 1 0) (r := r) (g := fun j => U 3 (40 * r + i + j)) hok (by omega) i1 n0 (fun j hj => by rw [st_ne1 (by omega), st_ne1 (by omega)]) S.2.length 4096 0 _ (by omega) (by omega) (mw_1 hM')
          have y1' : f_X7_bears_65 4096 (nI r) (nI i) (nI n) 0 (mk (st (st U 0 0 0) 0 1 0) S.2 S.2.length) = _ := y1
          rw [x1', countAll_eq (by omega) hM2 hok, Option.bind_some, y1']
          refine ⟨_, _, rfl, rfl, rfl, ?_⟩
          dsimp only
          exact inv_xs h hSS x2 (qm_t.tr (qm_1.tr y2.1)) (by rw [y2.2.1, st_same]) (by rw [y2.2.2.1, st_ne2 (by omega), st_ne2 (by omega)])
      · rw [if_pos ((b01z _).mpr h2), if_pos ((b01z _).mpr h2)]
        exact ⟨_, _, rfl, rfl, rfl, inv_t h⟩
    · rw [if_pos ((b01z _).mpr h1), if_pos ((b01z _).mpr h1)]
      exact ⟨_, _, rfl, rfl, rfl, inv_t h⟩

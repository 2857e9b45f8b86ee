/-! paragraph, label, called, deepest. -/
def XQ (V0 V : Mem) (S : Sh) : Prop := QX V0 V ∧ V 0 = V0 0 ∧ ShX V 4 S ∧ CI V 4 S.2 ∧ Z0 V
def MW (U0 M : Mem) (S : Sh) : Prop := QM U0 M ∧ M 0 1 = U0 0 1 ∧ M 0 18 = U0 0 18 ∧ ShM (M 4) S ∧ ∀ k l, k < S.2.length → l < 3 → M 11 (3 * k + l) = nI (cnt S.2 (k + 1) l)
theorem xq_rf {V U : Mem} {S : Sh} {A : List Act} (h : Inv V U) (hSS : SS V U S A) : XQ V V S := ⟨QX.rf, rfl, hSS.2.1, hSS.2.2.1, h.2.2.2.2.2.2⟩
theorem xq_lab {V0 V F : Mem} {S : Sh} {r : Nat} (hx : XQ V0 V S) (hr : r = 94 ∨ 177 ≤ r) (hf : FL 4 r V F) (hc : CI F 4 S.2) : XQ V0 F S := by
  obtain ⟨x1, x2, x3, x4, x5⟩ := hx
  refine ⟨⟨fun a q => (hf.1 a (by omega) (by omega) (by omega) (by omega)).trans (x1.1 a q), fun k q => (hf.2 k q).trans (x1.2 k q)⟩, (hf.1 0 (by omega) (by omega) (by omega) (by omega)).trans x2, x3.cg (hf.2 4 (by omega)) (fun k q1 q2 => hf.1 (4 + k) (by omega) (by omega) (by omega) (by omega)), hc, fun x hx => ?_⟩
  rw [hf.1 41 (by omega) (by omega) (by omega) (by omega)]
  exact x5 x hx
theorem xq_fs {V0 V F : Mem} {S : Sh} (hx : XQ V0 V S) (hf : FS 4 V F) (hc : CI F 4 S.2) : XQ V0 F S := by
  obtain ⟨x1, x2, x3, x4, x5⟩ := hx
  exact ⟨x1.tr hf.qx, hf.o.trans x2, x3.fs hf, hc, hf.z0 x5⟩
theorem mw_mk {U : Mem} {S : Sh} (hS : ShM (U 4) S) : MW U (mk (st U 0 0 0) S.2 S.2.length) S := by
  refine ⟨qm_t.tr qm_mk, by rw [mk_id (by omega), st_ne2 (by omega)], by rw [mk_id (by omega), st_ne2 (by omega)], ?_, fun k l hk hl => mk_11 hk hl⟩
  rw [mk_id (by omega), st_id (by omega)]
  exact hS
theorem wm_id {M : Mem} {L : List Nat} {a : Nat} (h0 : a ≠ 0) (h12 : a ≠ 12) : wm M L a = M a := by
  unfold wm
  rw [st_id h0, ms_id h12]
theorem wm_0 {M : Mem} {L : List Nat} {k : Nat} (h : k ≠ 23) : wm M L 0 k = M 0 k := by
  unfold wm
  rw [st_ne2 h, ms_ne (by omega)]
theorem wm_23 {M : Mem} {L : List Nat} : wm M L 0 23 = nI L.length := by
  unfold wm
  rw [st_same]
theorem wm_12 {M : Mem} {L : List Nat} {j : Nat} (hj : j < L.length) : wm M L 12 j = nI (L.getD j 0) := by
  unfold wm
  rw [st_ne1 (by omega), ms_same]
  unfold lay
  rw [if_pos hj]
theorem mw_wm {U M : Mem} {S : Sh} {L : List Nat} (h : MW U M S) : MW U (wm M L) S := by
  obtain ⟨h1, h2, h3, h4, h5⟩ := h
  refine ⟨h1.tr ⟨fun a q1 q2 q3 q4 => wm_id q1 (by omega), wm_0 (by omega), wm_0 (by omega), wm_0 (by omega)⟩, (wm_0 (by omega)).trans h2, (wm_0 (by omega)).trans h3, ?_, fun k l hk hl => ?_⟩
  · rw [wm_id (by omega) (by omega)]; exact h4
  · rw [wm_id (by omega) (by omega)]; exact h5 k l hk hl
theorem inv_xm {V U V' U' : Mem} {S : Sh} {A : List Act} (h : Inv V U) (hSS : SS V U S A) (hx : XQ V V' S) (hm : MW U U' S) : Inv V' U' := by
  obtain ⟨x1, x2, x3, x4, x5⟩ := hx
  exact inv_q h hSS x1 (by rw [x2]) (h.2.1.cg (by rw [x2]) (by rw [x2]) hm.2.1 hm.2.2.1) x4 x5 hm.1
/-- a sign of a label, on both sides -/
theorem sign_both {V0 V U M : Mem} {S : Sh} {k f : Nat} {j : Int32} (hok : okS S) (hx : XQ V0 V S) (hm : MW U M S) (hk : k < S.2.length) (hf : f < 2147483648) (hj : 0 ≤ j) : ∃ v V', f_X6_signOfLabel (nI k) (nI f) j V = some (v, V') ∧ XQ V0 V' S ∧ (f_X7_writeLabel 4 (nI k) (nI f) M).bind (fun q => (f_X7_signAt j q).bind fun q2 => some (q2.1, q2.2)) = some (v, wm M (lab S k f)) := by
  obtain ⟨F, e1, e2, e3, e4⟩ := lab_x (r := 94) (Or.inl rfl) (by omega) hok hx.2.2.1 hx.2.2.2.1 hk hf
  have hm1 := lab_m (r := 4) (by omega) hok hm.2.2.2.1 hk hf (fun l hl => hm.2.2.2.2 k l hk hl)
  have hlen := (lab_len hok (f := f) hk).1
  obtain ⟨i, i1, rfl⟩ := nI_of (Int32.not_lt.mpr hj)
  unfold f_X6_signOfLabel f_X7_signAt
  rw [e1, hm1, Option.bind_some, Option.bind_some, e4.1, wm_23]
  by_cases hi : (lab S k f).length ≤ i
  · have c : nI (lab S k f).length ≤ nI i := (nle (by omega) (by omega)).mpr hi
    rw [if_pos c, if_pos c]
    exact ⟨_, _, rfl, xq_lab hx (Or.inl rfl) e2 e3, rfl⟩
  · have c : ¬ nI (lab S k f).length ≤ nI i := fun q => hi ((nle (by omega) (by omega)).mp q)
    have e95 : F 95 i = nI ((lab S k f).getD i 0) := e4.2 i (by omega)
    rw [if_neg c, if_neg c, if_pos (ibt (by omega) (by omega)), if_pos (ibt (by omega) (by omega)), ncl (by omega), e95, wm_12 (by omega)]
    exact ⟨_, _, rfl, xq_lab hx (Or.inl rfl) e2 e3, rfl⟩
theorem s_label : S_label Inv := by
  intro a b j V U h
  obtain ⟨S, A, hSS⟩ := h.2.2.2.2.1
  obtain ⟨hok, hX, hC, hM, -⟩ := id hSS
  have h24 := hok.2.2.1
  have hM' : ShM (st U 0 0 0 4) S := by rw [st_id (by omega)]; exact hM
  unfold f_X6_label f_X7_label
  rcases dich a S.2.length with ⟨k, hk, rfl⟩ | hk
  · rw [has_yes hX.1 (by omega) hk, par_yes hM'.1 (by omega) hk, Option.bind_some, Option.bind_some, if_neg i10, if_neg i10]
    dsimp only
    rw [isLevel_eq, show (0 : Int64) = (0 : Int32).toInt64 from rfl, show (2 : Int64) = (2 : Int32).toInt64 from rfl, inw, Option.bind_some, Option.bind_some]
    by_cases h1 : 0 ≤ b ∧ b ≤ 2
    · rw [if_neg (fun q => ((b01z _).mp q) h1), if_neg (fun q => ((b01z _).mp q) h1)]
      dsimp only
      obtain ⟨f, f1, rfl⟩ := btw (n := 2) (by omega) h1
      by_cases h2 : 0 ≤ j
      · rw [if_pos h2, if_pos h2, countAll_eq (by omega) hM' hok, Option.bind_some]
        obtain ⟨v, V', s1, s2, s3⟩ := sign_both hok (xq_rf h hSS) (mw_mk hM) hk (show f < 2147483648 by omega) h2
        rw [s1, s3, Option.bind_some]
        exact ⟨_, _, rfl, rfl, rfl, inv_xm h hSS s2 (mw_wm (mw_mk hM))⟩
      · rw [if_neg h2, if_neg h2]
        exact ⟨_, _, rfl, rfl, rfl, inv_t h⟩
    · rw [if_pos ((b01z _).mpr h1), if_pos ((b01z _).mpr h1)]
      exact ⟨_, _, rfl, rfl, rfl, inv_t h⟩
  · rw [has_no hX.1 (by omega) hk, par_no hM'.1 (by omega) hk, Option.bind_some, Option.bind_some, if_pos rfl, if_pos rfl]
    exact ⟨_, _, rfl, rfl, rfl, inv_t h⟩
theorem behind_x {z : Nat} {S : Sh} {V : Mem} (hz : shid z) (hok : okS S) (hS : ShX V z S) (hC : CI V z S.2) {k : Nat} (hk : k < S.2.length) : ∃ V', f_X3_behind z (nI k) V = some (z + 5 + 1 + (k + 1), V') ∧ FS z V V' ∧ CI V' z S.2 ∧ ∀ x, x < 6 → V' (z + 5 + 1 + (k + 1)) x = nI (cnt S.2 (k + 1) x) := by
  have h24 := hok.2.2.1
  obtain ⟨V', e1, e2, e3, e4⟩ := ahead_eq hok hS hC (t := k + 1) (by omega)
  refine ⟨V', ?_, e2, e3, e4⟩
  unfold f_X3_behind
  have e0 : nI k + 1 = nI (k + 1) := nI_1 k
  rw [e0, e1, Option.bind_some]
  dsimp only
  rw [if_pos (kbz hz (by omega))]
theorem s_paragraph : S_paragraph Inv := by
  intro a w V U h
  obtain ⟨S, A, hSS⟩ := h.2.2.2.2.1
  obtain ⟨hok, hX, hC, hM, -⟩ := id hSS
  have h24 := hok.2.2.1
  have hM' : ShM (st U 0 0 0 4) S := by rw [st_id (by omega)]; exact hM
  unfold f_X6_paragraph f_X7_paragraph
  rcases dich a S.2.length with ⟨k, hk, rfl⟩ | hk
  · rw [has_yes hX.1 (by omega) hk, par_yes hM'.1 (by omega) hk, Option.bind_some, Option.bind_some, if_neg i10, if_neg i10]
    dsimp only
    rw [isBetween_eq, show (0 : Int64) = (0 : Int32).toInt64 from rfl, show (5 : Int64) = (5 : Int32).toInt64 from rfl, inw, Option.bind_some, Option.bind_some]
    by_cases h1 : 0 ≤ w ∧ w ≤ 5
    · rw [if_neg (fun q => ((b01z _).mp q) h1), if_neg (fun q => ((b01z _).mp q) h1)]
      dsimp only
      obtain ⟨i, i1, rfl⟩ := btw (n := 5) (by omega) h1
      have hmw := mw_mk hM
      have i24 : ib (nI k) 24 = true := ibt (by omega) (by omega)
      have ck : (nI k).toNatClampNeg = k := ncl (by omega)
      rw [countAll_eq (by omega) hM' hok, Option.bind_some]
      obtain ⟨k1, k2, k3⟩ := hX.2.2 k hk
      have m2 := (hmw.2.2.2.1.2.2 k hk).2.1
      have m3 := (hmw.2.2.2.1.2.2 k hk).2.2
      rcases (show i = 0 ∨ i = 1 ∨ i = 5 ∨ (2 ≤ i ∧ i < 5) by omega) with rfl | rfl | rfl | h25
      · have e0 : f_X7_of 4 (nI k) 1 (mk (st U 0 0 0) S.2 S.2.length) = _ := of_eq (w := 1) hmw.2.2.2.1 hk h24 (by omega)
        have e1 : f_X7_of 4 (nI k) (1 + nI 0) (mk (st U 0 0 0) S.2 S.2.length) = _ := e0
        rw [if_pos (show nI 0 = (0 : Int32) from rfl), if_pos i24, ck, if_neg (by decide), e1, Option.bind_some]
        exact ⟨_, _, rfl, rfl, k2.trans m2.symm, inv_xm h hSS (xq_rf h hSS) hmw⟩
      · have e0 : f_X7_of 4 (nI k) 2 (mk (st U 0 0 0) S.2 S.2.length) = _ := of_eq (w := 2) hmw.2.2.2.1 hk h24 (by omega)
        have e1 : f_X7_of 4 (nI k) (1 + nI 1) (mk (st U 0 0 0) S.2 S.2.length) = _ := e0
        rw [if_neg (by decide), if_pos (show nI 1 = (1 : Int32) from rfl), if_pos i24, ck, if_neg (by decide), e1, Option.bind_some]
        exact ⟨_, _, rfl, rfl, k3.trans m3.symm, inv_xm h hSS (xq_rf h hSS) hmw⟩
      · obtain ⟨F, e1, e2, e3, e4⟩ := lab_x (r := 94) (f := 0) (Or.inl rfl) (by omega) hok hX hC hk (by omega)
        have e1' : f_X3_writeLabel 4 (nI k) 0 94 V = _ := e1
        have m1 := lab_m (r := 4) (f := 0) (by omega) hok hmw.2.2.2.1 hk (by omega) (fun l hl => hmw.2.2.2.2 k l hk hl)
        have m1' : f_X7_writeLabel 4 (nI k) 0 (mk (st U 0 0 0) S.2 S.2.length) = _ := m1
        rw [if_neg (by decide), if_neg (by decide), if_pos (by decide), e1', Option.bind_some, if_pos (by decide), if_pos (by decide), m1', Option.bind_some]
        exact ⟨_, _, rfl, rfl, e4.1.trans (wm_23 (M := mk (st U 0 0 0) S.2 S.2.length) (L := lab S k 0)).symm, inv_xm h hSS (xq_lab (xq_rf h hSS) (Or.inl rfl) e2 e3) (mw_wm hmw)⟩
      · obtain ⟨V', b1, b2, b3, b4⟩ := behind_x (Or.inl rfl) hok hX hC hk
        have e2 : nI i - 2 = nI (i - 2) := nsb (b := 2) (by omega)
        have e3 : (3 : Int32) * nI k + nI i - 2 = nI (3 * k + (i - 2)) := by
          rw [li, pk_mul, nad, li, nsb (by omega)]
          congr 1
          omega
        rw [if_neg (by rw [li, neq (by omega) (by omega)]; omega), if_neg (by rw [li, neq (by omega) (by omega)]; omega), if_neg (by rw [li, nle (by omega) (by omega)]; omega), b1, Option.bind_some]
        dsimp only
        rw [if_pos (kbz (Or.inl rfl) (by omega)), e2, if_pos (ibt (by omega) (by omega)), ncl (by omega), b4 _ (by omega), if_pos (by rw [li, nle (by omega) (by omega)]; omega), if_neg (by rw [li, nle (by omega) (by omega)]; omega), e3, if_pos (ibt (by omega) (by omega)), ncl (by omega), hmw.2.2.2.2 k (i - 2) hk (by omega)]
        exact ⟨_, _, rfl, rfl, rfl, inv_xm h hSS (xq_fs (xq_rf h hSS) b2 b3) hmw⟩
    · rw [if_pos ((b01z _).mpr h1), if_pos ((b01z _).mpr h1)]
      exact ⟨_, _, rfl, rfl, rfl, inv_t h⟩
  · rw [has_no hX.1 (by omega) hk, par_no hM'.1 (by omega) hk, Option.bind_some, Option.bind_some, if_pos rfl, if_pos rfl]
    exact ⟨_, _, rfl, rfl, rfl, inv_t h⟩

/-! sheet: the loops of both readings, and what is left behind them. -/
theorem isSort_f {U : Mem} (h : ¬ U 0 16 = 0) : f_X7_isSort U = some (0, U) := by
  unfold f_X7_isSort
  rw [if_neg h]
theorem failed20_f {V U : Mem} {f : Nat} (h : FT V U f) : f_X7_failed_20 U = some (1, st (st U 0 11 0) 0 18 (nI f)) := by
  obtain ⟨h1, h2, h3, h4, h5⟩ := h
  have e16 : st U 0 11 0 0 16 = nI f := by rw [st_ne2 (by omega)]; exact h4
  have e17 : st (st U 0 11 0) 0 18 (nI f) 0 16 = nI f := by rw [st_ne2 (by omega)]; exact e16
  have le : ¬ nI f ≤ 0 := by rw [li, nle (by omega) (by omega)]; omega
  unfold f_X7_failed_20 f_X7_failed_44_c0
  rw [e16, if_neg le, e17, if_neg le]
theorem failed_f {V U : Mem} {f : Nat} (h : FT V U f) : f_X7_failed U = some (1, st (st U 0 11 0) 0 18 (nI f)) := by
  have n16 : ¬ U 0 16 = 0 := by rw [h.2.2.2.1]; exact ft_n ⟨h.1, h.2.1⟩
  unfold f_X7_failed
  rw [if_neg n16]
  exact failed20_f h
theorem failed_g {U : Mem} (h : U 0 16 = 0) (ht : U 0 14 = 1) : f_X7_failed U = some (0, st (st U 0 11 0) 0 18 (U 0 18)) := by
  have e16 : st U 0 11 0 0 16 = 0 := by rw [st_ne2 (by omega)]; exact h
  have e18 : st U 0 11 0 0 18 = U 0 18 := st_ne2 (by omega)
  have e17 : st (st U 0 11 0) 0 18 (U 0 18) 0 16 = 0 := by rw [st_ne2 (by omega)]; exact e16
  unfold f_X7_failed f_X7_failed_20 f_X7_failed_44_c0
  rw [if_pos h, if_pos ht, e16, e18, if_pos (by decide), e17, if_pos (by decide)]
theorem end_f {V U : Mem} {f m : Nat} (h : FT V U f) : f_X7_sheet_106 (m + 1) U = some (-1000100 - V 2 2, st (st U 0 11 0) 0 18 (nI f)) := by
  have n16 : ¬ U 0 16 = 0 := by rw [h.2.2.2.1]; exact ft_n ⟨h.1, h.2.1⟩
  have e17 : st (st U 0 11 0) 0 18 (nI f) 0 17 = V 2 2 := by rw [st_ne2 (by omega), st_ne2 (by omega)]; exact h.2.2.2.2.symm
  rw [f_X7_sheet_106, isSort_f n16, Option.bind_some, if_pos rfl, failed_f h, Option.bind_some, if_neg (show ¬ (1 : Int32) = 0 by decide)]
  show some (-1000100 - st (st U 0 11 0) 0 18 (nI f) 0 17, _) = _
  rw [e17]
theorem ri_f {V : Mem} {x : Int32} {m : Nat} (h : ¬ V 2 6 = 0) : f_X5_readInto_25 2 (m + 1) 35 x V = some (V 2 6, V) := by
  rw [f_X5_readInto_25]
  unfold f_X5_readInto_60
  by_cases c : (16 : Int32) < x
  · rw [if_pos c]
  · rw [if_neg c, if_neg h]
def EN (V U : Mem) (a b : Option (Int32 × Mem)) : Prop := (∃ V' U' S, a = some (0, V') ∧ b = f_X7_sheet_142 4096 0 (st (st (st U' 0 11 0) 0 18 (U' 0 18)) 0 9 0) ∧ KV V V' ∧ KW U U' ∧ okS S ∧ 0 < S.2.length ∧ ShX V' 35 S ∧ ShM (U' 5) S) ∨ ∃ V' U' f, 1 ≤ f ∧ f ≤ 3 ∧ a = some (nI f, V') ∧ b = some (-1000100 - V' 2 2, st (st U' 0 11 0) 0 18 (nI f)) ∧ KV V V' ∧ KW U U'
theorem EN.tr {V U V1 U1 : Mem} {a b : Option (Int32 × Mem)} (h : EN V1 U1 a b) (hv : KV V V1) (hu : KW U U1) : EN V U a b := by
  rcases h with ⟨V', U', S, e1, e2, e3, e4, e5⟩ | ⟨V', U', f, e1, e2, e3, e4, e5, e6⟩
  · exact Or.inl ⟨V', U', S, e1, e2, hv.tr e3, hu.tr e4, e5⟩
  · exact Or.inr ⟨V', U', f, e1, e2, e3, e4, hv.tr e5, hu.tr e6⟩
theorem KV.rf {V : Mem} : KV V V := ⟨fun _ _ _ => rfl, rfl⟩
theorem KW.rf {U : Mem} : KW U U := ⟨fun _ _ _ => rfl, fun _ _ => rfl⟩
theorem en_f {V U : Mem} {f m k : Nat} {x : Int32} (h : FT V U f) : EN V U (f_X5_readInto_25 2 (m + 1) 35 x V) (f_X7_sheet_106 (k + 1) U) := by
  have n6 : ¬ V 2 6 = 0 := by rw [h.2.2.1]; exact ft_n ⟨h.1, h.2.1⟩
  rw [ri_f n6, end_f h, h.2.2.1]
  exact Or.inr ⟨V, U, f, h.1, h.2.1, rfl, rfl, KV.rf, KW.rf⟩
/-- a fault of the class and the reference, told at a token that cannot stand there -/
theorem en_no {b : Nat → Nat} {n p q m k j : Nat} {t : Nat × Nat} {V U : Mem} {x : Int32} (hP : PS b n V U) (h : GD n V U t p q) (hs : ¬ srt t) (hX : V 35 4 = nI j) : ∃ U', f_X7_bad 1 U = some U' ∧ (∃ f, FT (st V 2 6 1) U' f) ∧ EN V U ((f_X5_readParagraph 2 35 V).bind fun q => f_X5_readInto_25 2 (m + 1) 35 x q) (f_X7_sheet_106 (k + 1) U') ∧ KV V (st V 2 6 1) ∧ KW U U' := by
  obtain ⟨hV, hU, -⟩ := id hP
  obtain ⟨U', s1, s2, s3, s4, s5, s6⟩ := fault_b (f := 1) (by omega) hV hU h
  obtain ⟨f, hf⟩ := s4.bad s5
  refine ⟨U', s1, ⟨f, hf⟩, ?_, s2.kv, s3.kw⟩
  rw [parno_x h hs hX, Option.bind_some]
  exact (en_f hf).tr s2.kv s3.kw
theorem loop_b {b : Nat → Nat} {n : Nat} : ∀ (d m k : Nat) (S : Sh) (V U : Mem), S.2.length + d = 17 → d < m → d < k → PS b n V U → okS S → 1 ≤ S.2.length → S.2.length ≤ 16 → ShX V 35 S → CI V 35 S.2 → ShM (U 5) S → V 2 6 = 0 → EN V U (f_X5_readInto_25 2 m 35 (nI S.2.length) V) (f_X7_sheet_106 k U) := by
  intro d
  induction d with
  | zero =>
    intro m k S V U h1 h2 h3 hP hok hl hl2
    exact absurd h1 (by omega)
  | succ d ih =>
    intro m k S V U h1 h2 h3 hP hok hl hl2 hX hC hM h6
    obtain ⟨m, rfl⟩ : ∃ m', m = m' + 1 + 1 := ⟨m - 2, by omega⟩
    obtain ⟨k, rfl⟩ : ∃ k', k = k' + 1 + 1 := ⟨k - 2, by omega⟩
    obtain ⟨t, p, q, h⟩ := hP.good h6
    have tk := tk_num h.2.2.2.2.2.2.2.1 h.2.2.2.2.2.2.2.2.1 h.2.2.2.2.2.2.2.2.2
    rw [f_X5_readInto_25, f_X7_sheet_106, if_neg (by rw [li, nlt (by omega) (by omega)]; omega), if_pos h6, if_neg (by rw [li, neq (by omega) (by omega)]; omega), isSort_m h, Option.bind_some]
    unfold f_X5_readInto_49
    rw [nI_1]
    by_cases hs : srt t
    · obtain ⟨V1, U1, e1, e2, kv, kw, p1, g⟩ := par_b hP h hs hok hl2 hX hC hM
      rw [if_neg (fun z => absurd ((tk.2.2.1).mp z) (by have := hs.1; omega)), if_neg (fun z => ((b01z _).mp z) hs), e1, Option.bind_some]
      show EN V U _ ((f_X7_readParagraph U).bind fun q114 => f_X7_sheet_106 (k + 1) q114)
      rw [e2, Option.bind_some]
      refine EN.tr ?_ kv kw
      by_cases h61 : V1 2 6 = 0
      · obtain ⟨S', s1, s2, s3, s4, s5, s6⟩ := g h61
        rw [← s2]
        exact ih (m + 1) (k + 1) S' V1 U1 (by omega) (by omega) (by omega) p1 s1 (by omega) s3 s4 s5 s6 h61
      · obtain ⟨f, hf⟩ := p1.bad h61
        exact en_f hf
    · rw [if_pos ((b01z _).mpr hs)]
      by_cases ht : t.1 = 0
      · rw [if_pos ((tk.2.2.1).mpr ht)]
        show EN V U _ ((f_X7_failed U).bind fun q121 => _)
        rw [failed_g h.2.1 ((tk.2.2.2.1).mpr ht), Option.bind_some, if_pos rfl]
        unfold f_X5_readInto_60
        rw [h6]
        exact Or.inl ⟨V, U, S, rfl, rfl, KV.rf, KW.rf, hok, hl, hX, hM⟩
      · rw [if_neg (fun z => ht ((tk.2.2.1).mp z))]
        show EN V U _ ((f_X7_failed U).bind fun q121 => _)
        obtain ⟨U', u1, ⟨f, hf⟩, u2, u3, u4⟩ := en_no (m := m) (k := k) (x := nI (S.2.length + 1)) hP h hs hX.1
        have n16 : ¬ U' 0 16 = 0 := by rw [hf.2.2.2.1]; exact ft_n ⟨hf.1, hf.2.1⟩
        have e : f_X7_failed U = f_X7_failed U' := by
          rw [failed_f hf]
          unfold f_X7_failed
          rw [if_pos h.2.1, if_neg (fun z => ht ((tk.2.2.2.1).mp z)), u1, Option.bind_some]
          exact failed20_f hf
        rw [e]
        have e2 : f_X7_sheet_106 (k + 1) U' = ((f_X7_failed U').bind fun q121 => (if q121.1 = (0 : Int32) then (f_X7_sheet_142 4096 (0 : Int32) (st q121.2 0 9 (0 : Int32))) else some (((-1000100 : Int32) - (q121.2 0 17)), q121.2))) := by
          rw [f_X7_sheet_106, isSort_f n16, Option.bind_some, if_pos rfl]
        rw [e2] at u2
        exact u2
theorem first_b {b : Nat → Nat} {n : Nat} {V U : Mem} {L : List Nat} (hP : PS b n V U) (hok : okS (L, [])) (h0 : V 35 4 = 0) (hS : V 2 6 = 0 → ShX V 35 (L, []) ∧ CI V 35 [] ∧ ShM (U 5) (L, [])) : EN V U (f_X5_readInto_25 2 4096 35 0 V) (lawM U) := by
  unfold lawM
  by_cases h6 : V 2 6 = 0
  · obtain ⟨hX, hC, hM⟩ := hS h6
    obtain ⟨t, p, q, h⟩ := hP.good h6
    rw [isSort_m h, Option.bind_some]
    have go : f_X5_readInto_25 2 4096 35 0 V = (f_X5_readParagraph 2 35 V).bind fun q => f_X5_readInto_25 2 (4094 + 1) 35 (nI 1) q := by
      rw [show f_X5_readInto_25 2 4096 35 0 V = f_X5_readInto_25 2 (4094 + 1 + 1) 35 0 V from rfl, f_X5_readInto_25, if_neg (by decide), if_pos h6, if_pos rfl]
      rfl
    rw [go]
    by_cases hs : srt t
    · obtain ⟨V1, U1, e1, e2, kv, kw, p1, g⟩ := par_b hP h hs hok (by show 0 ≤ 16; omega) hX hC hM
      rw [if_neg (fun z => ((b01z _).mp z) hs), e1, Option.bind_some]
      show EN V U _ (f_X7_sheet_106 (4094 + 1 + 1) U)
      rw [f_X7_sheet_106, isSort_m h, Option.bind_some, if_neg (fun z => ((b01z _).mp z) hs)]
      show EN V U _ ((f_X7_readParagraph U).bind fun q114 => f_X7_sheet_106 (4094 + 1) q114)
      rw [e2, Option.bind_some]
      refine EN.tr ?_ kv kw
      by_cases h61 : V1 2 6 = 0
      · obtain ⟨S', s1, s2, s3, s4, s5, s6⟩ := g h61
        have s2' : S'.2.length = 1 := s2
        have lb := loop_b 16 (4094 + 1) (4094 + 1) S' V1 U1 (by omega) (by omega) (by omega) p1 s1 (by omega) s3 s4 s5 s6 h61
        rw [s2'] at lb
        exact lb
      · obtain ⟨f, hf⟩ := p1.bad h61
        exact en_f hf
    · obtain ⟨U', u1, -, u2, u3, u4⟩ := en_no (m := 4094) (k := 4095) (x := nI 1) (j := 0) hP h hs h0
      rw [if_pos ((b01z _).mpr hs)]
      show EN V U _ ((f_X7_bad 1 U).bind fun q103 => f_X7_sheet_106 4096 q103)
      rw [u1, Option.bind_some]
      exact u2
  · obtain ⟨f, hf⟩ := hP.bad h6
    have n16 : ¬ U 0 16 = 0 := by rw [hf.2.2.2.1]; exact ft_n ⟨hf.1, hf.2.1⟩
    have eb : f_X7_bad 1 U = some U := by
      unfold f_X7_bad
      rw [if_neg n16]
    rw [isSort_f n16, Option.bind_some, if_pos rfl]
    show EN V U _ ((f_X7_bad 1 U).bind fun q103 => f_X7_sheet_106 4096 q103)
    rw [eb, Option.bind_some]
    exact en_f (m := 4095) (k := 4095) hf
theorem fresh_loop {m : Nat} : ∀ (d k : Nat) (U : Mem), k + d = 76 → (∀ j, j < k → U 5 j = 0) → ∃ U', f_X7_sheet_11 (m + 1 + d) (nI k) U = f_X7_sheet_11 (m + 1) 76 U' ∧ (∀ a, a ≠ 5 → U' a = U a) ∧ ∀ j, j < 76 → U' 5 j = 0 := by
  intro d
  induction d with
  | zero =>
    intro k U hk hz
    have e : k = 76 := by omega
    subst e
    exact ⟨U, rfl, fun _ _ => rfl, hz⟩
  | succ d ih =>
    intro k U hk hz
    obtain ⟨U', e1, e2, e3⟩ := ih (k + 1) (st U 5 k 0) (by omega) (fun j hj => by
      by_cases c : j = k
      · rw [c, st_same]
      · rw [st_ne2 c]; exact hz j (by omega))
    refine ⟨U', ?_, fun a ha => by rw [e2 a ha, st_id ha], e3⟩
    rw [← e1, show m + 1 + (d + 1) = (m + 1 + d) + 1 by omega, f_X7_sheet_11, if_neg (by rw [li, nle (by omega) (by omega)]; omega), if_pos (ibt (by omega) (by omega)), ncl (by omega), nI_1]
theorem sheet_loop {U : Mem} : ∀ (d n k : Nat), k + d = 76 → d < n → f_X7_sheet_142 n (nI k) (cp U 5 4 0 0 k) = some (cp U 5 4 0 0 76 4 0, cp U 5 4 0 0 76) := by
  intro d
  induction d with
  | zero =>
    intro n k hk hn
    obtain ⟨n, rfl⟩ : ∃ n', n = n' + 1 := ⟨n - 1, by omega⟩
    have e : k = 76 := by omega
    subst e
    rw [f_X7_sheet_142, if_pos (by rw [li, nle (by omega) (by omega)]; omega), if_pos ib076]
    rfl
  | succ d ih =>
    intro n k hk hn
    obtain ⟨n, rfl⟩ : ∃ n', n = n' + 1 := ⟨n - 1, by omega⟩
    rw [f_X7_sheet_142, if_neg (by rw [li, nle (by omega) (by omega)]; omega), if_pos (ibt (by omega) (by omega)), if_pos (ibt (by omega) (by omega)), ncl (by omega), nI_1]
    have e := cp_step (V := U) (s := 5) (d := 4) (sp := 0) (dp := 0) (k := k) (Or.inl (by omega))
    rw [Nat.zero_add] at e
    rw [e]
    exact ih n (k + 1) (by omega) (by omega)
theorem inv_told {V U V' U' : Mem} (h : Inv V U) (hV : ∀ a, a ≠ 0 → a ≠ 2 → a < 35 ∨ 39 < a → V' a = V a) (hV0 : ∀ k, k ≠ 13 → V' 0 k = V 0 k) (h2 : V' 2 1 = 0) (hU : ∀ a, a ≠ 0 → a ≠ 5 → U' a = U a) (hU0 : ∀ k, k ≠ 0 → k < 11 ∨ 18 < k → U' 0 k = U 0 k) (h11 : U' 0 11 = 0) (h13 : V' 0 13 = U' 0 18) : Inv V' U' := by
  obtain ⟨g1, g2, g3, g4, ⟨S, A, g5⟩, g6, g7⟩ := h
  refine ⟨g1.cg (fun i q1 q2 => hV i (by omega) (by omega) (by omega)) (hU 1 (by omega) (by omega)) (hU 2 (by omega) (by omega)) (hU 3 (by omega) (by omega)), ⟨?_, h13⟩, ⟨0, by omega, h2, h11, fun j hj => absurd hj (by omega)⟩, g4.cg (hV0 11 (by omega)) (hV 98 (by omega) (by omega) (by omega)) (hU0 29 (by omega) (by omega)) (hU 16 (by omega) (by omega)), ⟨S, A, ?_⟩, g6.cg (fun i q1 q2 => hV i (by omega) (by omega) (by omega)) (hU 14 (by omega) (by omega)) (hU 15 (by omega) (by omega)), fun x hx => by rw [hV 41 (by omega) (by omega) (by omega)]; exact g7 x hx⟩
  · rw [hV0 12 (by omega), hU0 1 (by omega) (by omega)]; exact g2.1
  · exact g5.cg (fun i q1 q2 => hV i (by omega) (by omega) (by omega)) (hV 67 (by omega) (by omega) (by omega)) (fun i hi => hV (69 + i) (by omega) (by omega) (by omega)) (hU 4 (by omega) (by omega)) (hU0 9 (by omega) (by omega)) (hU 7 (by omega) (by omega))
theorem s_sheet : S_sheet Inv := by
  intro V U h
  obtain ⟨n, hn, t1, t2, t3⟩ := h.2.2.1
  obtain ⟨b, hb⟩ : ∃ b : Nat → Nat, ∀ j, j < n → b j < 256 ∧ V 3 j = nI (b j) := ⟨fun j => (V 3 j).toNatClampNeg, fun j hj => by
    obtain ⟨-, c, hc, e⟩ := t3 j hj
    show (V 3 j).toNatClampNeg < 256 ∧ V 3 j = nI (V 3 j).toNatClampNeg
    rw [e, ncl (by omega)]
    exact ⟨hc, rfl⟩⟩
  have hEX : EX b n (st (st (st (st V 35 4 0) 35 6 0) 2 6 0) 2 3 0) := ⟨hn, by rw [st_ne2 (by omega), st_ne2 (by omega), st_ne1 (by omega), st_ne1 (by omega)]; exact t1, fun j hj => ⟨by rw [st_ne1 (by omega), st_ne1 (by omega), st_ne1 (by omega), st_ne1 (by omega)]; exact (hb j hj).2, (hb j hj).1⟩⟩
  have hEU : EU b n (st (st (st U 0 0 0) 0 12 0) 0 16 0) := ⟨hn, by rw [st_ne2 (by omega), st_ne2 (by omega), st_ne2 (by omega)]; exact t2, fun j hj => ⟨by rw [st_ne1 (by omega), st_ne1 (by omega), st_ne1 (by omega), ← (t3 j hj).1]; exact (hb j hj).2, (hb j hj).1⟩⟩
  obtain ⟨V3, U3, s1, s2, s3, s4, s5, s6⟩ := step_b (q := 0) hEX hEU (by rw [st_ne2 (by omega), st_same]) st_same st_same (by rw [st_ne2 (by omega), st_same]; rfl) (by omega)
  obtain ⟨U4, z1, z2, z3⟩ := fresh_loop (m := 4019) 76 0 U3 (by omega) (fun j hj => absurd hj (by omega))
  have p4 : PS b n V3 U4 := s5.cg rfl rfl (z2 0 (by omega)) (z2 8 (by omega))
  obtain ⟨V5, U5, l1, l2, l3, l4, l5, l6, l7, l8⟩ := law_b (m := 4019) p4
  have v35 : V5 35 = st (st V 35 4 0) 35 6 0 35 := by rw [l4 35 (by omega) (by omega), s3.1 35 (by omega), st_id (by omega), st_id (by omega)]
  have kv : KV V V5 := by
    refine ⟨fun a q1 q2 => ?_, ?_⟩
    · rw [l4 a q1 (by omega), s3.1 a q1, st_id q1, st_id q1, st_id (by omega), st_id (by omega)]
    · rw [l5, s3.2, st_ne2 (by omega), st_ne2 (by omega), st_ne1 (by omega), st_ne1 (by omega)]
  have kw : KW (st U 0 0 0) U5 := by
    refine ⟨fun a q1 q2 => ?_, fun k hk => ?_⟩
    · rw [l6.1 a q1 q2, z2 a q2, s4.1 a q1, st_id q1, st_id q1]
    · rw [l6.2 k hk, z2 0 (by omega), s4.2 k hk, st_ne2 (by omega), st_ne2 (by omega)]
  have h0 : V5 35 4 = 0 := by rw [v35, st_ne2 (by omega), st_same]
  have hEN : EN (V) (st U 0 0 0) (f_X5_readInto_25 2 4096 35 0 V5) (lawM U5) := by
    refine EN.tr ?_ kv kw
    by_cases h6 : V5 2 6 = 0
    · obtain ⟨a0, a1, a2, r0, r1, r2, ⟨r3, r4, r5⟩, r6, r7, r8⟩ := l8 h6
      refine first_b (L := [a0, a1, a2]) l3 ⟨rfl, fun s hs => ?_, by show 0 ≤ 24; omega, fun p hp => absurd hp (by simp)⟩ h0 (fun _ => ⟨⟨h0, fun l hl => ?_, fun k hk => absurd hk (by simp)⟩, ⟨0, by show 0 ≤ 0; omega, ?_, fun p hp x hx => ?_⟩, ⟨?_, fun l hl => ?_, fun k hk => absurd hk (by simp)⟩⟩)
      · simp only [List.mem_cons, List.not_mem_nil, or_false] at hs
        omega
      · rcases (show l = 0 ∨ l = 1 ∨ l = 2 by omega) with rfl | rfl | rfl
        · exact r3
        · exact r4
        · exact r5
      · rw [v35, st_same]; rfl
      · have e : p = 0 := by omega
        subst e
        show V5 41 x = nI 0
        rw [kv.1 41 (by omega) (by omega)]
        exact h.2.2.2.2.2.2 x hx
      · rw [l7 0 (by omega), z3 0 (by omega)]; rfl
      · rcases (show l = 0 ∨ l = 1 ∨ l = 2 by omega) with rfl | rfl | rfl
        · exact r6
        · exact r7
        · exact r8
    · exact first_b (L := [0, 0, 0]) l3 ⟨rfl, fun s hs => by
        simp only [List.mem_cons, List.not_mem_nil, or_false] at hs
        omega, by show 0 ≤ 24; omega, fun p hp => absurd hp (by simp)⟩ h0 (fun z => absurd z h6)
  have eX : f_X5_readInto 2 35 V = f_X5_readInto_25 2 4096 35 0 V5 := by
    unfold f_X5_readInto f_X3_clear
    rw [Option.bind_some, s1, Option.bind_some, l1, Option.bind_some]
  have eU : f_X7_sheet U = lawM U5 := by
    unfold f_X7_sheet f_X7_begin
    rw [s2, Option.bind_some, Option.bind_some]
    exact z1.trans l2
  rw [eU]
  unfold f_X6_sheet
  rw [eX]
  rcases hEN with ⟨V', U', S, e1, e2, e3, e4, e5, e6, e7, e8⟩ | ⟨V', U', f, e1, e2, e3, e4, e5, e6⟩
  · have h24 := e5.2.2.1
    have hX7 : ShX (st V' 2 1 0) 35 S := e7.cg (st_ne1 (by omega)) (fun j q1 q2 => st_id (by omega))
    obtain ⟨W, x1, x2, x3, x4, x5⟩ := sbecome_x (V := st V' 2 1 0) (z := 4) (r := 35) (by omega) h24 hX7
    have hl := sheet_loop (U := st (st (st U' 0 11 0) 0 18 (U' 0 18)) 0 9 0) 76 4096 0 (by omega) (by omega)
    rw [cp_zero] at hl
    have hl' : f_X7_sheet_142 4096 0 (st (st (st U' 0 11 0) 0 18 (U' 0 18)) 0 9 0) = _ := hl
    rw [e1, e2, Option.bind_some, if_pos rfl, hl']
    show ∃ q r, ((f_X3_become 4 35 (st V' 2 1 0)).bind fun q48 => ((f_X0_forgetAll 67 q48).bind fun q55 => some ((q55 4 4), q55))) = some q ∧ _
    rw [x1, Option.bind_some, f_X0_forgetAll, Option.bind_some]
    refine ⟨_, _, rfl, rfl, ?_, ?_⟩
    · show st (st W 67 1 0) 67 2 0 4 4 = cp (st (st (st U' 0 11 0) 0 18 (U' 0 18)) 0 9 0) 5 4 0 0 76 4 0
      rw [st_ne1 (by omega), st_ne1 (by omega), x2.1, cp_in (by omega), st_ne1 (by omega), st_ne1 (by omega), st_ne1 (by omega)]
      exact e8.1.symm
    · dsimp only
      have h1 : Inv (st V' 2 1 0) (st (st U' 0 11 0) 0 18 (U' 0 18)) := by
        refine inv_told h (fun a q1 q2 q3 => by rw [st_id q2, e3.1 a q2 q3]) (fun k q => by rw [st_ne1 (by omega), e3.1 0 (by omega) (by omega)]) st_same (fun a q1 q2 => by rw [st_id q1, st_id q1, e4.1 a q1 q2, st_id q1]) (fun k q1 q2 => by rw [st_ne2 (by omega), st_ne2 (by omega), e4.2 k (by omega), st_ne2 q1]) (by rw [st_ne2 (by omega), st_same]) ?_
        rw [st_ne1 (by omega), st_same, e3.1 0 (by omega) (by omega), e4.2 18 (by omega), st_ne2 (by omega)]
        exact h.2.1.2
      obtain ⟨S0, A0, hS0⟩ := h1.2.2.2.2.1
      refine inv_new h1 (S' := S) (A' := []) ⟨e5, ?_, ?_, ?_, ?_, ?_, trivial⟩ (fun i q1 q2 => ?_) (fun i q1 q2 q3 => ?_) (fun j q1 q2 => ?_)
      · exact x2.cg (by rw [st_ne1 (by omega), st_ne1 (by omega)]) (fun j q1 q2 => by rw [st_id (by omega), st_id (by omega)])
      · exact ci_new hS0.2.2.1 (by rw [st_ne1 (by omega), st_ne1 (by omega)]; exact x3) (by rw [st_id (by omega), st_id (by omega), x4 10 (by omega)])
      · refine ShM_cg h24 (fun j hj => ?_) e8
        rw [cp_in (by omega), st_ne1 (by omega), st_ne1 (by omega), st_ne1 (by omega)]
        exact congrArg (U' 5) (by omega)
      · exact ⟨by simp, by rw [st_same]; rfl, 0, by omega, by rw [st_ne2 (by omega), st_same]; rfl, fun k hk => absurd hk (by simp)⟩
      · rw [cp_ne (by omega), st_same]; rfl
      · rw [st_id (by omega), st_id (by omega), x4 i (by omega)]
      · rw [cp_id q2, st_id q1]
      · rw [cp_ne (by omega), st_ne2 q2]
  · have nf : ¬ nI f = 0 := ft_n ⟨e1, e2⟩
    rw [e3, e4, Option.bind_some, if_neg nf]
    refine ⟨_, _, rfl, rfl, ?_, ?_⟩
    · show (-1000100 : Int32) - st (st V' 2 1 0) 0 13 (nI f) 2 2 = _
      rw [st_ne1 (by omega), st_ne2 (by omega)]
    · dsimp only
      refine inv_told h (fun a q1 q2 q3 => by rw [st_id q1, st_id q2, e5.1 a q2 q3]) (fun k q => by rw [st_ne2 q, st_ne1 (by omega), e5.1 0 (by omega) (by omega)]) (by rw [st_ne1 (by omega), st_same]) (fun a q1 q2 => by rw [st_id q1, st_id q1, e6.1 a q1 q2, st_id q1]) (fun k q1 q2 => by rw [st_ne2 (by omega), st_ne2 (by omega), e6.2 k (by omega), st_ne2 q1]) (by rw [st_ne2 (by omega), st_same]) (by rw [st_same, st_same])

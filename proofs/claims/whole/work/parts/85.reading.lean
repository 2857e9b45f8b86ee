/-! The two readings of a sheet, step by step. -/
def GD (n : Nat) (V U : Mem) (t : Nat × Nat) (p q : Nat) : Prop := V 2 6 = 0 ∧ U 0 16 = 0 ∧ V 2 2 = nI p ∧ U 0 13 = nI p ∧ V 2 3 = nI q ∧ U 0 12 = nI q ∧ q ≤ n ∧ TKV t V ∧ TKU t U ∧ okT t
def FT (V U : Mem) (f : Nat) : Prop := 1 ≤ f ∧ f ≤ 3 ∧ V 2 6 = nI f ∧ U 0 16 = nI f ∧ V 2 2 = U 0 17
def PS (b : Nat → Nat) (n : Nat) (V U : Mem) : Prop := EX b n V ∧ EU b n U ∧ ((∃ t p q, GD n V U t p q) ∨ ∃ f, FT V U f)
def KX (V V' : Mem) : Prop := (∀ a, a ≠ 2 → V' a = V a) ∧ V' 2 1 = V 2 1
def KU (U U' : Mem) : Prop := (∀ a, a ≠ 0 → U' a = U a) ∧ ∀ k, k < 12 ∨ 17 < k → U' 0 k = U 0 k
theorem KX.rf {V : Mem} : KX V V := ⟨fun _ _ => rfl, rfl⟩
theorem KU.rf {U : Mem} : KU U U := ⟨fun _ _ => rfl, fun _ _ => rfl⟩
theorem KX.tr {V V' V'' : Mem} (h : KX V V') (h2 : KX V' V'') : KX V V'' := ⟨fun a q => (h2.1 a q).trans (h.1 a q), h2.2.trans h.2⟩
theorem KU.tr {U U' U'' : Mem} (h : KU U U') (h2 : KU U' U'') : KU U U'' := ⟨fun a q => (h2.1 a q).trans (h.1 a q), fun k q => (h2.2 k q).trans (h.2 k q)⟩
theorem EX.kx {b : Nat → Nat} {n : Nat} {V V' : Mem} (h : EX b n V) (hk : KX V V') : EX b n V' := ⟨h.1, by rw [hk.2]; exact h.2.1, by rw [hk.1 3 (by omega)]; exact h.2.2⟩
theorem EU.ku {b : Nat → Nat} {n : Nat} {U U' : Mem} (h : EU b n U) (hk : KU U U') : EU b n U' := ⟨h.1, by rw [hk.2 11 (by omega)]; exact h.2.1, by rw [hk.1 8 (by omega)]; exact h.2.2⟩
theorem PS.cg {b : Nat → Nat} {n : Nat} {V U V' U' : Mem} (h : PS b n V U) (h2 : V' 2 = V 2) (h3 : V' 3 = V 3) (h0 : U' 0 = U 0) (h8 : U' 8 = U 8) : PS b n V' U' := by
  unfold PS EX EU GD FT TKV TKU at h ⊢
  rw [h2, h3, h0, h8]
  exact h
theorem ft_n {f : Nat} (h : 1 ≤ f ∧ f ≤ 3) : ¬ nI f = 0 := by rw [li, neq (by omega) (by omega)]; omega
theorem step_b {b : Nat → Nat} {n q : Nat} {V U : Mem} (hV : EX b n V) (hU : EU b n U) (h6 : V 2 6 = 0) (h16 : U 0 16 = 0) (h3 : V 2 3 = nI q) (h12 : U 0 12 = nI q) (hq : q ≤ n) : ∃ V' U', f_X5_stepOn 2 V = some V' ∧ f_X7_nextToken U = some U' ∧ KX V V' ∧ KU U U' ∧ PS b n V' U' ∧ V' 2 6 = 0 := by
  obtain ⟨V', x1, x2, x3, x4, x5, x6, x7⟩ := step_x hV h6 h3 hq
  obtain ⟨U', y1, y2, y3, y4, y5, y6⟩ := step_m hU h12 hq
  have kx : KX V V' := ⟨x2, x3⟩
  have ku : KU U U' := ⟨y2, fun k hk => y3 k (by omega)⟩
  exact ⟨V', U', x1, y1, kx, ku, ⟨hV.kx kx, hU.ku ku, Or.inl ⟨_, _, _, x4, by rw [y3 16 (by omega)]; exact h16, x5, y4, x6, y5, (lexN_le hq).2, x7, y6, lexT_ok⟩⟩, x4⟩
theorem stop_x {V : Mem} (h : ¬ V 2 6 = 0) : f_X5_stepOn 2 V = some V := by
  unfold f_X5_stepOn
  rw [if_neg h]
theorem fault_b {b : Nat → Nat} {n p q f : Nat} {t : Nat × Nat} {V U : Mem} (hf : 1 ≤ f ∧ f ≤ 3) (hV : EX b n V) (hU : EU b n U) (h : GD n V U t p q) : ∃ U', f_X7_bad (nI f) U = some U' ∧ KX V (st V 2 6 (nI f)) ∧ KU U U' ∧ PS b n (st V 2 6 (nI f)) U' ∧ ¬ st V 2 6 (nI f) 2 6 = 0 ∧ ¬ U' 0 16 = 0 := by
  obtain ⟨g1, g2, g3, g4, -⟩ := h
  unfold f_X7_bad
  rw [if_pos g2, st_ne2 (show (13 : Nat) ≠ 16 by omega), g4]
  have kx : KX V (st V 2 6 (nI f)) := ⟨fun a ha => st_id ha, st_ne2 (by omega)⟩
  have ku : KU U (st (st U 0 16 (nI f)) 0 17 (nI p)) := ⟨fun a ha => by rw [st_id ha, st_id ha], fun k hk => by rw [st_ne2 (by omega), st_ne2 (by omega)]⟩
  refine ⟨_, rfl, kx, ku, ⟨hV.kx kx, hU.ku ku, Or.inr ⟨f, hf.1, hf.2, st_same, by rw [st_ne2 (by omega), st_same], by rw [st_ne2 (by omega), st_same]; exact g3⟩⟩, by rw [st_same]; exact ft_n hf, by rw [st_ne2 (by omega), st_same]; exact ft_n hf⟩
theorem tk_sign {t : Nat × Nat} {V U : Mem} {c : Nat} (hc : c = 44 ∨ c = 59) (hV : TKV t V) (hU : TKU t U) (hk : okT t) : (V 2 4 = nI c) ↔ (U 0 14 = 4 ∧ U 0 15 = nI c) := by
  obtain ⟨k0, k1, k3, k4⟩ := hk
  obtain ⟨v0, v1, v2, v3⟩ := hV
  obtain ⟨u0, u1, u2, u3, u4⟩ := hU
  rcases (show t.1 = 0 ∨ t.1 = 1 ∨ t.1 = 2 ∨ t.1 = 3 ∨ t.1 = 4 by omega) with e | e | e | e | e
  · rw [v0 e, u0 e]
    exact ⟨fun z => by rw [show (0 : Int32) = nI 0 from rfl, neq (by omega) (by omega)] at z; omega, fun z => absurd z.1 (by decide)⟩
  · rw [(v1 e).1, (u1 e).1]
    exact ⟨fun z => by rw [show (1 : Int32) = nI 1 from rfl, neq (by omega) (by omega)] at z; omega, fun z => absurd z.1 (by decide)⟩
  · rw [v2 e, u2 e]
    exact ⟨fun z => by rw [show (2 : Int32) = nI 2 from rfl, neq (by omega) (by omega)] at z; omega, fun z => absurd z.1 (by decide)⟩
  · have := k3 e
    rw [v3 (by omega), (u3 e).1]
    exact ⟨fun z => by rw [neq (by omega) (by omega)] at z; omega, fun z => absurd z.1 (by decide)⟩
  · rw [v3 (by omega), (u4 e).1, (u4 e).2]
    exact ⟨fun z => ⟨rfl, z⟩, fun z => z.2⟩
theorem tk_name {t : Nat × Nat} {V U : Mem} {c : Nat} (hc : 97 ≤ c ∧ c ≤ 122) (hV : TKV t V) (hU : TKU t U) (hk : okT t) : (V 2 4 = nI c) ↔ (U 0 14 = 2 ∧ U 0 15 = nI c) := by
  obtain ⟨k0, k1, k3, k4⟩ := hk
  obtain ⟨v0, v1, v2, v3⟩ := hV
  obtain ⟨u0, u1, u2, u3, u4⟩ := hU
  rcases (show t.1 = 0 ∨ t.1 = 1 ∨ t.1 = 2 ∨ t.1 = 3 ∨ t.1 = 4 by omega) with e | e | e | e | e
  · rw [v0 e, u0 e]
    exact ⟨fun z => by rw [show (0 : Int32) = nI 0 from rfl, neq (by omega) (by omega)] at z; omega, fun z => absurd z.1 (by decide)⟩
  · rw [(v1 e).1, (u1 e).1]
    exact ⟨fun z => by rw [show (1 : Int32) = nI 1 from rfl, neq (by omega) (by omega)] at z; omega, fun z => absurd z.1 (by decide)⟩
  · rw [v2 e, u2 e]
    exact ⟨fun z => by rw [show (2 : Int32) = nI 2 from rfl, neq (by omega) (by omega)] at z; omega, fun z => absurd z.1 (by decide)⟩
  · rw [v3 (by omega), (u3 e).1, (u3 e).2]
    exact ⟨fun z => ⟨rfl, z⟩, fun z => z.2⟩
  · have := k4 e
    rw [v3 (by omega), (u4 e).1]
    exact ⟨fun z => by rw [neq (by omega) (by omega)] at z; omega, fun z => absurd z.1 (by decide)⟩
theorem tk_num {t : Nat × Nat} {V U : Mem} (hV : TKV t V) (hU : TKU t U) (hk : okT t) : ((V 2 4 = 1) ↔ t.1 = 1) ∧ ((U 0 14 = 3) ↔ t.1 = 1) ∧ ((V 2 4 = 0) ↔ t.1 = 0) ∧ ((U 0 14 = 1) ↔ t.1 = 0) ∧ ((U 0 14 = 2) ↔ t.1 = 3) := by
  obtain ⟨k0, k1, k3, k4⟩ := hk
  obtain ⟨v0, v1, v2, v3⟩ := hV
  obtain ⟨u0, u1, u2, u3, u4⟩ := hU
  rcases (show t.1 = 0 ∨ t.1 = 1 ∨ t.1 = 2 ∨ t.1 = 3 ∨ t.1 = 4 by omega) with e | e | e | e | e
  · rw [v0 e, u0 e, e]; decide
  · rw [(v1 e).1, (u1 e).1, e]; decide
  · rw [v2 e, u2 e, e]; decide
  · have := k3 e
    rw [v3 (by omega), (u3 e).1, e, show (1 : Int32) = nI 1 from rfl, show (0 : Int32) = nI 0 from rfl, neq (by omega) (by omega), neq (by omega) (by omega)]
    refine ⟨⟨fun z => by omega, fun z => by omega⟩, ⟨fun z => absurd z (by decide), fun z => absurd z (by decide)⟩, ⟨fun z => by omega, fun z => by omega⟩, ⟨fun z => absurd z (by decide), fun z => absurd z (by decide)⟩, ⟨fun _ => rfl, fun _ => rfl⟩⟩
  · have := k4 e
    rw [v3 (by omega), (u4 e).1, e, show (1 : Int32) = nI 1 from rfl, show (0 : Int32) = nI 0 from rfl, neq (by omega) (by omega), neq (by omega) (by omega)]
    refine ⟨⟨fun z => by omega, fun z => by omega⟩, ⟨fun z => absurd z (by decide), fun z => absurd z (by decide)⟩, ⟨fun z => by omega, fun z => by omega⟩, ⟨fun z => absurd z (by decide), fun z => absurd z (by decide)⟩, ⟨fun z => absurd z (by decide), fun z => absurd z (by decide)⟩⟩
/-- the reference goes on, or stays at a fault -/
theorem must_f {U : Mem} (x : Int32) (h : ¬ U 0 16 = 0) : f_X7_must x U = some U := by
  unfold f_X7_must f_X7_must_9 f_X7_bad
  by_cases c : x = 0
  · rw [if_pos c, if_neg h, Option.bind_some, if_neg h]
  · rw [if_neg c, if_neg h]
theorem must_1 {U U' : Mem} (h : U 0 16 = 0) (hn : f_X7_nextToken U = some U') : f_X7_must 1 U = some U' := by
  unfold f_X7_must f_X7_must_9
  rw [if_neg (by decide), if_pos h, hn, Option.bind_some]
theorem must_0 {U U' : Mem} (hb : f_X7_bad 1 U = some U') (h : ¬ U' 0 16 = 0) : f_X7_must 0 U = some U' := by
  unfold f_X7_must f_X7_must_9
  rw [if_pos rfl, hb, Option.bind_some, if_neg h]
theorem pass_g {b : Nat → Nat} {n c : Nat} {V U : Mem} {x : Int32} (hP : PS b n V U) (hx : (∃ t p q, GD n V U t p q) → (x = 1 ∧ V 2 4 = nI c) ∨ (x = 0 ∧ ¬ V 2 4 = nI c)) : ∃ V' U', f_X5_pass 2 (nI c) V = some V' ∧ f_X7_must x U = some U' ∧ KX V V' ∧ KU U U' ∧ PS b n V' U' ∧ (V' 2 6 = 0 → V 2 6 = 0) := by
  obtain ⟨hV, hU, hs⟩ := id hP
  rcases hs with ⟨t, p, q, h⟩ | ⟨f, h⟩
  · obtain ⟨g1, g2, g3, g4, g5, g6, g7, g8, g9, g10⟩ := id h
    unfold f_X5_pass f_X5_pass_20
    rw [if_pos g1]
    rcases hx ⟨t, p, q, h⟩ with ⟨x1, x2⟩ | ⟨x1, x2⟩
    · obtain ⟨V', U', s1, s2, s3, s4, s5, s6⟩ := step_b hV hU g1 g2 g5 g6 g7
      rw [if_pos x2, s1, Option.bind_some, x1, must_1 g2 s2]
      exact ⟨V', U', rfl, rfl, s3, s4, s5, fun _ => g1⟩
    · obtain ⟨U', s1, s2, s3, s4, s5, s6⟩ := fault_b (f := 1) (by omega) hV hU h
      have s5' : ¬ st V 2 6 1 2 6 = 0 := s5
      rw [if_neg x2, stop_x s5', Option.bind_some, x1, must_0 s1 s6]
      exact ⟨_, U', rfl, rfl, s2, s3, s4, fun z => absurd z s5⟩
  · obtain ⟨g1, g2, g3, g4, g5⟩ := h
    have n6 : ¬ V 2 6 = 0 := by rw [g3]; exact ft_n ⟨g1, g2⟩
    have n16 : ¬ U 0 16 = 0 := by rw [g4]; exact ft_n ⟨g1, g2⟩
    unfold f_X5_pass f_X5_pass_20
    rw [if_neg n6, stop_x n6, Option.bind_some, must_f x n16]
    exact ⟨V, U, rfl, rfl, KX.rf, KU.rf, hP, fun z => z⟩
theorem pass_b {b : Nat → Nat} {n c : Nat} {V U : Mem} (hc : c = 44 ∨ c = 59) (hP : PS b n V U) : ∃ V' U', f_X5_pass 2 (nI c) V = some V' ∧ f_X7_mustSign (nI c) U = some U' ∧ KX V V' ∧ KU U U' ∧ PS b n V' U' ∧ (V' 2 6 = 0 → V 2 6 = 0) := by
  unfold f_X7_mustSign f_X7_mustSign_22_c0
  by_cases a : U 0 14 = 4
  · rw [if_pos a]
    by_cases a2 : U 0 15 = nI c
    · obtain ⟨V', U', p1, p2, p3⟩ := pass_g (x := 1) (c := c) hP (fun ⟨t, p, q, h⟩ => Or.inl ⟨rfl, (tk_sign hc h.2.2.2.2.2.2.2.1 h.2.2.2.2.2.2.2.2.1 h.2.2.2.2.2.2.2.2.2).mpr ⟨a, a2⟩⟩)
      rw [if_pos a2, p2, Option.bind_some]
      exact ⟨V', U', p1, rfl, p3⟩
    · obtain ⟨V', U', p1, p2, p3⟩ := pass_g (x := 0) (c := c) hP (fun ⟨t, p, q, h⟩ => Or.inr ⟨rfl, fun z => a2 ((tk_sign hc h.2.2.2.2.2.2.2.1 h.2.2.2.2.2.2.2.2.1 h.2.2.2.2.2.2.2.2.2).mp z).2⟩)
      rw [if_neg a2, p2, Option.bind_some]
      exact ⟨V', U', p1, rfl, p3⟩
  · obtain ⟨V', U', p1, p2, p3⟩ := pass_g (x := 0) (c := c) hP (fun ⟨t, p, q, h⟩ => Or.inr ⟨rfl, fun z => a ((tk_sign hc h.2.2.2.2.2.2.2.1 h.2.2.2.2.2.2.2.2.1 h.2.2.2.2.2.2.2.2.2).mp z).1⟩)
    rw [if_neg a, p2, Option.bind_some]
    exact ⟨V', U', p1, rfl, p3⟩
theorem letter_b {b : Nat → Nat} {n : Nat} {V U : Mem} (hP : PS b n V U) : ∃ x V' U', f_X5_pass 2 110 V = some V' ∧ f_X7_isLetter 110 U = some (x, U) ∧ f_X7_must x U = some U' ∧ KX V V' ∧ KU U U' ∧ PS b n V' U' ∧ (V' 2 6 = 0 → V 2 6 = 0) := by
  unfold f_X7_isLetter
  by_cases a0 : U 0 16 = 0
  · rw [if_pos a0]
    by_cases a : U 0 14 = 2
    · rw [if_pos a]
      by_cases a2 : U 0 15 = 110
      · obtain ⟨V', U', p1, p2, p3⟩ := pass_g (x := 1) (c := 110) hP (fun ⟨t, p, q, h⟩ => Or.inl ⟨rfl, (tk_name (c := 110) (by omega) h.2.2.2.2.2.2.2.1 h.2.2.2.2.2.2.2.2.1 h.2.2.2.2.2.2.2.2.2).mpr ⟨a, a2⟩⟩)
        rw [if_pos a2]
        exact ⟨1, V', U', p1, rfl, p2, p3⟩
      · obtain ⟨V', U', p1, p2, p3⟩ := pass_g (x := 0) (c := 110) hP (fun ⟨t, p, q, h⟩ => Or.inr ⟨rfl, fun z => a2 ((tk_name (c := 110) (by omega) h.2.2.2.2.2.2.2.1 h.2.2.2.2.2.2.2.2.1 h.2.2.2.2.2.2.2.2.2).mp z).2⟩)
        rw [if_neg a2]
        exact ⟨0, V', U', p1, rfl, p2, p3⟩
    · obtain ⟨V', U', p1, p2, p3⟩ := pass_g (x := 0) (c := 110) hP (fun ⟨t, p, q, h⟩ => Or.inr ⟨rfl, fun z => a ((tk_name (c := 110) (by omega) h.2.2.2.2.2.2.2.1 h.2.2.2.2.2.2.2.2.1 h.2.2.2.2.2.2.2.2.2).mp z).1⟩)
      rw [if_neg a]
      exact ⟨0, V', U', p1, rfl, p2, p3⟩
  · obtain ⟨V', U', p1, p2, p3⟩ := pass_g (x := 0) (c := 110) hP (fun ⟨t, p, q, h⟩ => absurd h.2.1 a0)
    rw [if_neg a0]
    exact ⟨0, V', U', p1, rfl, p2, p3⟩
theorem number_b {b : Nat → Nat} {n h : Nat} {V U : Mem} (hh : h ≤ 20) (hP : PS b n V U) : ∃ x y V' U', f_X5_passNumber 2 (nI h) V = some (x, V') ∧ f_X7_number 0 (nI h) U = some (y, U') ∧ KX V V' ∧ KU U U' ∧ PS b n V' U' ∧ (V' 2 6 = 0 → V 2 6 = 0 ∧ ∃ v, v ≤ h ∧ x = nI v ∧ y = nI v) := by
  obtain ⟨hV, hU, hs⟩ := id hP
  rcases hs with ⟨t, p, q, g⟩ | ⟨f, g⟩
  · obtain ⟨g1, g2, g3, g4, g5, g6, g7, g8, g9, g10⟩ := id g
    obtain ⟨n1, n2, -⟩ := tk_num g8 g9 g10
    unfold f_X5_passNumber f_X5_passNumber_20 f_X5_passNumber_40 f_X7_number f_X7_number_20 f_X7_number_47 f_X7_number_62
    rw [if_pos g1, if_pos g2]
    by_cases a : t.1 = 1
    · have v5 := (g8.2.1 a).2
      have u15 := (g9.2.1 a).2
      have h99 := g10.2.1 a
      have hin : f_X7_in (nI t.2).toInt64 (0 : Int32).toInt64 (nI h).toInt64 U = some (if t.2 ≤ h then 1 else 0, U) := by
        rw [inw]
        have e : ((0 : Int32) ≤ nI t.2 ∧ nI t.2 ≤ nI h) ↔ (t.2 ≤ h) := by
          rw [nle (by omega) (by omega)]
          exact ⟨fun z => z.2, fun z => ⟨nI_pos' (by omega), z⟩⟩
        simp only [e]
      rw [if_pos (n1.mpr a), if_pos (n2.mpr a), if_pos g1, if_pos g2, v5, u15, hin, Option.bind_some]
      by_cases c : t.2 ≤ h
      · obtain ⟨V', U', s1, s2, s3, s4, s5, s6⟩ := step_b hV hU g1 g2 g5 g6 g7
        rw [if_pos (by rw [nle (by omega) (by omega)]; exact c), s1, Option.bind_some, if_neg (fun z => ((b01z _).mp z) c)]
        simp only [g2, if_true, u15]
        rw [must_1 g2 s2, Option.bind_some]
        exact ⟨_, _, V', U', rfl, rfl, s3, s4, s5, fun _ => ⟨g1, t.2, c, rfl, rfl⟩⟩
      · obtain ⟨U', s1, s2, s3, s4, s5, s6⟩ := fault_b (f := 2) (by omega) hV hU g
        have s5' : ¬ st V 2 6 2 2 6 = 0 := s5
        have s1' : f_X7_bad 2 U = some U' := s1
        rw [if_neg (by rw [nle (by omega) (by omega)]; exact c), stop_x s5', Option.bind_some, if_pos ((b01z _).mpr c)]
        dsimp only
        rw [s1', Option.bind_some, if_neg s6, must_f 1 s6, Option.bind_some]
        exact ⟨_, _, _, U', rfl, rfl, s2, s3, s4, fun z => absurd z s5⟩
    · obtain ⟨U', s1, s2, s3, s4, s5, s6⟩ := fault_b (f := 1) (by omega) hV hU g
      have s5' : ¬ st V 2 6 1 2 6 = 0 := s5
      have s1' : f_X7_bad 1 U = some U' := s1
      rw [if_neg (fun z => a (n1.mp z)), if_neg (fun z => a (n2.mp z)), if_neg s5', stop_x s5', Option.bind_some, s1', Option.bind_some, if_neg s6, if_neg s6, must_f 1 s6, Option.bind_some]
      exact ⟨_, _, _, U', rfl, rfl, s2, s3, s4, fun z => absurd z s5⟩
  · obtain ⟨g1, g2, g3, g4, g5⟩ := g
    have n6 : ¬ V 2 6 = 0 := by rw [g3]; exact ft_n ⟨g1, g2⟩
    have n16 : ¬ U 0 16 = 0 := by rw [g4]; exact ft_n ⟨g1, g2⟩
    unfold f_X5_passNumber f_X5_passNumber_20 f_X5_passNumber_40 f_X7_number f_X7_number_20 f_X7_number_47 f_X7_number_62
    rw [if_neg n6, if_neg n6, stop_x n6, Option.bind_some, if_neg n16, if_neg n16, if_neg n16, must_f 1 n16, Option.bind_some]
    exact ⟨_, _, V, U, rfl, rfl, KX.rf, KU.rf, hP, fun z => absurd z n6⟩
def kd (c : Nat) : Nat := if c = 105 then 1 else if c = 114 then 2 else if c = 99 then 3 else if c = 116 then 4 else if c = 104 then 5 else 0
theorem kd_le (c : Nat) : kd c ≤ 5 := by
  unfold kd
  repeat' split
  all_goals omega
theorem kindBy_m {c : Nat} {U : Mem} (hc : c < 256) : f_X7_kindBy (nI c) U = some (if kd c = 0 then -1000000 else nI (kd c), U) := by
  unfold f_X7_kindBy kd
  by_cases c1 : c = 105
  · rw [if_pos (by rw [c1]; rfl), if_pos c1]; rfl
  rw [if_neg (by rw [li, neq (by omega) (by omega)]; exact c1), if_neg c1]
  by_cases c2 : c = 114
  · rw [if_pos (by rw [c2]; rfl), if_pos c2]; rfl
  rw [if_neg (by rw [li, neq (by omega) (by omega)]; exact c2), if_neg c2]
  by_cases c3 : c = 99
  · rw [if_pos (by rw [c3]; rfl), if_pos c3]; rfl
  rw [if_neg (by rw [li, neq (by omega) (by omega)]; exact c3), if_neg c3]
  by_cases c4 : c = 116
  · rw [if_pos (by rw [c4]; rfl), if_pos c4]; rfl
  rw [if_neg (by rw [li, neq (by omega) (by omega)]; exact c4), if_neg c4]
  by_cases c5 : c = 104
  · rw [if_pos (by rw [c5]; rfl), if_pos c5]; rfl
  rw [if_neg (by rw [li, neq (by omega) (by omega)]; exact c5), if_neg c5]
  rfl
abbrev srt (t : Nat × Nat) : Prop := t.1 = 3 ∧ ¬ kd t.2 = 0
theorem isSort_m {n p q : Nat} {t : Nat × Nat} {V U : Mem} (h : GD n V U t p q) : f_X7_isSort U = some (if srt t then 1 else 0, U) := by
  obtain ⟨g1, g2, g3, g4, g5, g6, g7, g8, g9, g10⟩ := h
  obtain ⟨-, -, -, -, n5⟩ := tk_num g8 g9 g10
  unfold f_X7_isSort
  rw [if_pos g2]
  by_cases a : t.1 = 3
  · have hc := g10.2.2.1 a
    rw [if_pos (n5.mpr a), (g9.2.2.2.1 a).2, kindBy_m (by omega), Option.bind_some]
    by_cases k : kd t.2 = 0
    · have e : (if kd t.2 = 0 then (-1000000 : Int32) else nI (kd t.2)) = -1000000 := if_pos k
      rw [e, if_pos rfl, if_neg (fun z => z.2 k)]
    · have e : (if kd t.2 = 0 then (-1000000 : Int32) else nI (kd t.2)) = nI (kd t.2) := if_neg k
      have k5 := kd_le t.2
      have nn : ¬ nI (kd t.2) = -1000000 := fun z => absurd (z ▸ nI_pos' (show kd t.2 < 2147483648 by omega)) (by decide)
      rw [e, if_neg nn, if_pos ⟨a, k⟩]
  · rw [if_neg (fun z => a (n5.mp z)), if_neg (fun z => a z.1)]
/-- the sort that the class finds -/
theorem sort_yes {c k : Nat} {V : Mem} (hc : c < 256) (h4 : V 2 4 = nI c) (h6 : V 2 6 = 0) (hk : ¬ kd c = 0) : f_X5_passSort 2 (nI k) V = f_X5_passSort_49 2 (nI k) (nI (kd c)) V := by
  have go : ∀ m, f_X5_passSort_2 2 (m + 5) (nI k) 1 V = f_X5_passSort_49 2 (nI k) (nI (kd c)) V := by
    intro m
    unfold kd at hk ⊢
    by_cases c1 : c = 105
    · subst c1
      rw [f_X5_passSort_2, if_neg (by decide), if_pos (by decide), h4, if_pos (by decide), f_X5_passSort_25, if_pos h6, if_pos (by decide), h4, if_pos (by decide)]
      rfl
    by_cases c2 : c = 114
    · subst c2
      rw [f_X5_passSort_2, if_neg (by decide), if_pos (by decide), h4, if_neg (by decide), f_X5_passSort_2, if_neg (by decide), if_pos (by decide), h4, if_pos (by decide), f_X5_passSort_25, if_pos h6, if_pos (by decide), h4, if_pos (by decide)]
      rfl
    by_cases c3 : c = 99
    · subst c3
      rw [f_X5_passSort_2, if_neg (by decide), if_pos (by decide), h4, if_neg (by decide), f_X5_passSort_2, if_neg (by decide), if_pos (by decide), h4, if_neg (by decide), f_X5_passSort_2, if_neg (by decide), if_pos (by decide), h4, if_pos (by decide), f_X5_passSort_25, if_pos h6, if_pos (by decide), h4, if_pos (by decide)]
      rfl
    by_cases c4 : c = 116
    · subst c4
      rw [f_X5_passSort_2, if_neg (by decide), if_pos (by decide), h4, if_neg (by decide), f_X5_passSort_2, if_neg (by decide), if_pos (by decide), h4, if_neg (by decide), f_X5_passSort_2, if_neg (by decide), if_pos (by decide), h4, if_neg (by decide), f_X5_passSort_2, if_neg (by decide), if_pos (by decide), h4, if_pos (by decide), f_X5_passSort_25, if_pos h6, if_pos (by decide), h4, if_pos (by decide)]
      rfl
    by_cases c5 : c = 104
    · subst c5
      rw [f_X5_passSort_2, if_neg (by decide), if_pos (by decide), h4, if_neg (by decide), f_X5_passSort_2, if_neg (by decide), if_pos (by decide), h4, if_neg (by decide), f_X5_passSort_2, if_neg (by decide), if_pos (by decide), h4, if_neg (by decide), f_X5_passSort_2, if_neg (by decide), if_pos (by decide), h4, if_neg (by decide), f_X5_passSort_2, if_pos (by decide), f_X5_passSort_25, if_pos h6, if_pos (by decide), h4, if_pos (by decide)]
      rfl
    rw [if_neg c1, if_neg c2, if_neg c3, if_neg c4, if_neg c5] at hk
    exact absurd rfl hk
  exact go 4091
theorem sort_no {k : Nat} {V : Mem} (h6 : V 2 6 = 0) (h1 : ¬ V 2 4 = 105) (h2 : ¬ V 2 4 = 114) (h3 : ¬ V 2 4 = 99) (h4 : ¬ V 2 4 = 116) (h5 : ¬ V 2 4 = 104) : f_X5_passSort 2 (nI k) V = some (5, st V 2 6 1) := by
  have e1 : ¬ tba 1 (Int32.toNatClampNeg 1) = V 2 4 := fun z => h1 z.symm
  have e2 : ¬ tba 1 (Int32.toNatClampNeg (1 + 1)) = V 2 4 := fun z => h2 z.symm
  have e3 : ¬ tba 1 (Int32.toNatClampNeg (1 + 1 + 1)) = V 2 4 := fun z => h3 z.symm
  have e4 : ¬ tba 1 (Int32.toNatClampNeg (1 + 1 + 1 + 1)) = V 2 4 := fun z => h4 z.symm
  have e5 : ¬ tba 1 (Int32.toNatClampNeg (1 + 1 + 1 + 1 + 1)) = V 2 4 := fun z => h5 z.symm
  have s5 : ¬ st V 2 6 1 2 6 = 0 := by rw [st_same]; decide
  have go : ∀ m, f_X5_passSort_2 2 (m + 5) (nI k) 1 V = some (5, st V 2 6 1) := by
    intro m
    rw [f_X5_passSort_2, if_neg (by decide), if_pos (by decide), if_neg e1, f_X5_passSort_2, if_neg (by decide), if_pos (by decide), if_neg e2, f_X5_passSort_2, if_neg (by decide), if_pos (by decide), if_neg e3, f_X5_passSort_2, if_neg (by decide), if_pos (by decide), if_neg e4, f_X5_passSort_2, if_pos (by decide), f_X5_passSort_25, if_pos h6, if_pos (by decide), if_neg e5, f_X5_passSort_49, if_neg s5, f_X5_passSort_67, stop_x s5, Option.bind_some]
    rfl
  exact go 4091

/-! sheet: the class and the reference read alike. -/
def KV (V V' : Mem) : Prop := (∀ a, a ≠ 2 → a < 35 ∨ 39 < a → V' a = V a) ∧ V' 2 1 = V 2 1
def KW (U U' : Mem) : Prop := (∀ a, a ≠ 0 → a ≠ 5 → U' a = U a) ∧ ∀ k, k < 12 ∨ 17 < k → U' 0 k = U 0 k
theorem KX.kv {V V' : Mem} (h : KX V V') : KV V V' := ⟨fun a q _ => h.1 a q, h.2⟩
theorem KU.kw {U U' : Mem} (h : KU U U') : KW U U' := ⟨fun a q _ => h.1 a q, h.2⟩
theorem KV.tr {V V' V'' : Mem} (h : KV V V') (h2 : KV V' V'') : KV V V'' := ⟨fun a q q2 => (h2.1 a q q2).trans (h.1 a q q2), h2.2.trans h.2⟩
theorem KW.tr {U U' U'' : Mem} (h : KW U U') (h2 : KW U' U'') : KW U U'' := ⟨fun a q q2 => (h2.1 a q q2).trans (h.1 a q q2), fun k q => (h2.2 k q).trans (h.2 k q)⟩
theorem passN_f {V : Mem} {x : Int32} (h : ¬ V 2 6 = 0) : f_X5_passNumber 2 x V = some (V 2 5, V) := by
  unfold f_X5_passNumber f_X5_passNumber_20 f_X5_passNumber_40
  rw [if_neg h, if_neg h, stop_x h, Option.bind_some]
theorem pass_f {V : Mem} {x : Int32} (h : ¬ V 2 6 = 0) : f_X5_pass 2 x V = some V := by
  unfold f_X5_pass f_X5_pass_20
  rw [if_neg h, stop_x h, Option.bind_some]
theorem PS.both {b : Nat → Nat} {n : Nat} {V U : Mem} (h : PS b n V U) : V 2 6 = 0 ↔ U 0 16 = 0 := by
  obtain ⟨-, -, ⟨t, p, q, g⟩ | ⟨f, g⟩⟩ := h
  · exact ⟨fun _ => g.2.1, fun _ => g.1⟩
  · rw [g.2.2.1, g.2.2.2.1]
theorem PS.good {b : Nat → Nat} {n : Nat} {V U : Mem} (h : PS b n V U) (h6 : V 2 6 = 0) : ∃ t p q, GD n V U t p q := by
  obtain ⟨-, -, g | ⟨f, g⟩⟩ := h
  · exact g
  · exact absurd h6 (by rw [g.2.2.1]; exact ft_n ⟨g.1, g.2.1⟩)
theorem PS.bad {b : Nat → Nat} {n : Nat} {V U : Mem} (h : PS b n V U) (h6 : ¬ V 2 6 = 0) : ∃ f, FT V U f := by
  obtain ⟨-, -, ⟨t, p, q, g⟩ | g⟩ := h
  · exact absurd g.1 h6
  · exact g
theorem level_b {b : Nat → Nat} {n l c : Nat} {V U : Mem} (hl : l < 3) (hc : c = 44 ∨ c = 59) (hP : PS b n V U) : ∃ x y V1 U1 V' U', f_X5_passNumber 2 3 V = some (x, V1) ∧ f_X5_pass 2 (nI c) (st V1 36 l x) = some V' ∧ f_X7_number 0 3 U = some (y, U1) ∧ f_X7_mustSign (nI c) (st U1 5 (1 + l) y) = some U' ∧ PS b n V' U' ∧ KV V V' ∧ KW U U' ∧ (∀ a, a ≠ 2 → a ≠ 36 → V' a = V a) ∧ (∀ k, k ≠ l → V' 36 k = V 36 k) ∧ (∀ k, k ≠ 1 + l → U' 5 k = U 5 k) ∧ (V' 2 6 = 0 → V 2 6 = 0 ∧ ∃ v, v ≤ 3 ∧ V' 36 l = nI v ∧ U' 5 (1 + l) = nI v) := by
  obtain ⟨x, y, V1, U1, e1, e2, k1, k2, p1, g1⟩ := number_b (h := 3) (by omega) hP
  have p1' : PS b n (st V1 36 l x) (st U1 5 (1 + l) y) := p1.cg (st_id (by omega)) (st_id (by omega)) (st_id (by omega)) (st_id (by omega))
  obtain ⟨V', U', e3, e4, k3, k4, p2, g2⟩ := pass_b hc p1'
  refine ⟨x, y, V1, U1, V', U', e1, e3, e2, e4, p2, ⟨fun a q1 q2 => ?_, ?_⟩, ⟨fun a q1 q2 => ?_, fun k hk => ?_⟩, fun a q1 q2 => ?_, fun k hk => ?_, fun k hk => ?_, fun h6 => ?_⟩
  · rw [k3.1 a q1, st_id (by omega), k1.1 a q1]
  · rw [k3.2, st_ne1 (by omega), k1.2]
  · rw [k4.1 a q1, st_id q2, k2.1 a q1]
  · rw [k4.2 k hk, st_ne1 (by omega), k2.2 k hk]
  · rw [k3.1 a q1, st_id q2, k1.1 a q1]
  · rw [k3.1 36 (by omega), st_ne2 hk, k1.1 36 (by omega)]
  · rw [k4.1 5 (by omega), st_ne2 hk, k2.1 5 (by omega)]
  · have h6' := g2 h6
    rw [st_ne1 (by omega)] at h6'
    obtain ⟨h7, v, hv, hx, hy⟩ := g1 h6'
    refine ⟨h7, v, hv, ?_, ?_⟩
    · rw [k3.1 36 (by omega), st_same, hx]
    · rw [k4.1 5 (by omega), st_same, hy]
theorem rl8_step {m l c : Nat} {V W : Mem} {x : Int32} (hc : (l < 2 ∧ c = 44) ∨ (l = 2 ∧ c = 59)) (h : f_X5_passNumber 2 3 V = some (x, W)) : f_X5_readLaw_8 2 (m + 1) 35 (nI l) V = (f_X5_pass 2 (nI c) (st W 36 l x)).bind fun q => f_X5_readLaw_8 2 m 35 (nI (l + 1)) q := by
  rw [f_X5_readLaw_8, if_neg (by rw [li, nle (by omega) (by omega)]; omega), h, Option.bind_some, if_pos (ibt (by omega) (by omega)), ncl (by omega)]
  rcases hc with ⟨c1, rfl⟩ | ⟨c1, rfl⟩
  · rw [if_neg (by rw [li, nle (by omega) (by omega)]; omega)]
    unfold f_X5_readLaw_37_cz
    rw [nI_1]
    rfl
  · rw [if_pos (by rw [li, nle (by omega) (by omega)]; omega)]
    unfold f_X5_readLaw_37_cz
    rw [nI_1]
    rfl
def lawM (U : Mem) : Option (Int32 × Mem) := (f_X7_isSort U).bind fun q95 => (if q95.1 = (0 : Int32) then ((f_X7_bad (1 : Int32) q95.2).bind fun q103 => (f_X7_sheet_106 4096  q103)) else (f_X7_sheet_106 4096  q95.2))
theorem law_b {b : Nat → Nat} {n m : Nat} {V U : Mem} (hP : PS b n V U) : ∃ V' U', f_X5_readLaw 2 35 V = some V' ∧ f_X7_sheet_11 (m + 1) 76 U = lawM U' ∧ PS b n V' U' ∧ (∀ a, a ≠ 2 → a ≠ 36 → V' a = V a) ∧ V' 2 1 = V 2 1 ∧ KW U U' ∧ (∀ k, k = 0 ∨ 3 < k → U' 5 k = U 5 k) ∧ (V' 2 6 = 0 → ∃ a0 a1 a2, a0 ≤ 3 ∧ a1 ≤ 3 ∧ a2 ≤ 3 ∧ (V' 36 0 = nI a0 ∧ V' 36 1 = nI a1 ∧ V' 36 2 = nI a2) ∧ U' 5 1 = nI a0 ∧ U' 5 2 = nI a1 ∧ U' 5 3 = nI a2) := by
  obtain ⟨x, V0, U0, e1, e2, e3, k1, k2, p0, g0⟩ := letter_b hP
  obtain ⟨x1, y1, W1, X1, V1, U1, a1, a2, a3, a4, p1, kv1, kw1, f1, s1, t1, g1⟩ := level_b (l := 0) (c := 44) (by omega) (by omega) p0
  obtain ⟨x2, y2, W2, X2, V2, U2, b1, b2, b3, b4, p2, kv2, kw2, f2, s2, t2, g2⟩ := level_b (l := 1) (c := 44) (by omega) (by omega) p1
  obtain ⟨x3, y3, W3, X3, V3, U3, c1, c2, c3, c4, p3, kv3, kw3, f3, s3, t3, g3⟩ := level_b (l := 2) (c := 59) (by omega) (by omega) p2
  have a4' : f_X7_mustSign (44 : Int32) (st X1 5 ((1 : Int32)).toNatClampNeg y1) = some U1 := a4
  have b4' : f_X7_mustSign (44 : Int32) (st X2 5 ((2 : Int32)).toNatClampNeg y2) = some U2 := b4
  have c4' : f_X7_mustSign (59 : Int32) (st X3 5 ((3 : Int32)).toNatClampNeg y3) = some U3 := c4
  refine ⟨V3, U3, ?_, ?_, p3, fun a q1 q2 => ?_, ?_, ((k2.kw.tr kw1).tr kw2).tr kw3, fun k hk => ?_, fun h6 => ?_⟩
  · unfold f_X5_readLaw
    have go : ∀ m, f_X5_readLaw_8 2 (m + 1 + 1 + 1 + 1) 35 (nI 0) V0 = some V3 := by
      intro m
      rw [rl8_step (c := 44) (by omega) a1, a2, Option.bind_some, rl8_step (c := 44) (by omega) b1, b2, Option.bind_some, rl8_step (c := 59) (by omega) c1, c2, Option.bind_some, f_X5_readLaw_8, if_pos (by rw [li, nle (by omega) (by omega)]; omega)]
    rw [e1, Option.bind_some]
    exact go 4092
  · rw [f_X7_sheet_11, if_pos (by decide), e2, Option.bind_some, e3, Option.bind_some, a3, Option.bind_some, if_pos (by decide), a4', Option.bind_some, b3, Option.bind_some, if_pos (by decide), b4', Option.bind_some, c3, Option.bind_some, if_pos (by decide), c4', Option.bind_some]
    rfl
  · rw [f3 a q1 q2, f2 a q1 q2, f1 a q1 q2, k1.1 a q1]
  · rw [kv3.2, kv2.2, kv1.2, k1.2]
  · rw [t3 k (by omega), t2 k (by omega), t1 k (by omega), k2.1 5 (by omega)]
  · obtain ⟨h2, v3, r3, r4, r5⟩ := g3 h6
    obtain ⟨h1, v2, r6, r7, r8⟩ := g2 h2
    obtain ⟨h0, v1, r9, r10, r11⟩ := g1 h1
    refine ⟨v1, v2, v3, r9, r6, r3, ⟨?_, ?_, r4⟩, ?_, ?_, r5⟩
    · rw [s3 0 (by omega), s2 0 (by omega)]; exact r10
    · rw [s3 1 (by omega)]; exact r7
    · rw [t3 1 (by omega), t2 1 (by omega)]; exact r11
    · rw [t3 2 (by omega)]; exact r8
def r24 (x1 : Int32) (V : Mem) : Option Mem := ((f_X7_number (0 : Int32) (2 : Int32) V).bind fun q32 => ((f_X7_mustSign (44 : Int32) q32.2).bind fun q39 => ((f_X7_number (0 : Int32) (20 : Int32) q39).bind fun q46 => ((f_X7_mustSign (59 : Int32) q46.2).bind fun q53 => (if (q53 0 16) = (0 : Int32) then (if ib (0 : Int32) 76 then ((f_X7_layAt 5 (q53 5 ((0 : Int32)).toNatClampNeg) x1 q32.1 q46.1 q53).bind fun q76 => (if ib (0 : Int32) 76 then (if ib (0 : Int32) 76 then some (st q76 5 ((0 : Int32)).toNatClampNeg ((q76 5 ((0 : Int32)).toNatClampNeg) + (1 : Int32))) else none) else none)) else none) else some q53)))))
theorem r24_eq {x : Int32} {U U' : Mem} (h : f_X7_must 1 U = some U') : f_X7_readParagraph_24 x U = r24 x U' := by
  unfold f_X7_readParagraph_24
  rw [h, Option.bind_some]
  rfl
theorem rp_m {k c : Nat} {U : Mem} {x : Int32} (h5 : U 5 0 = nI k) (hk : k ≤ 16) (hc : f_X7_kindBy (U 0 15) U = some (x, U)) : f_X7_readParagraph U = if k = 16 then (f_X7_bad 3 U).bind (fun q => f_X7_readParagraph_24 x q) else f_X7_readParagraph_24 x U := by
  unfold f_X7_readParagraph
  rw [hc, Option.bind_some, if_pos ib076]
  show (if U 5 0 = (16 : Int32) then _ else _) = _
  rw [h5]
  by_cases c : k = 16
  · rw [if_pos (by rw [li, neq (by omega) (by omega)]; exact c), if_pos c]
  · rw [if_neg (by rw [li, neq (by omega) (by omega)]; exact c), if_neg c]
theorem sort_b {b : Nat → Nat} {n k p q : Nat} {t : Nat × Nat} {V U : Mem} (hP : PS b n V U) (h : GD n V U t p q) (hs : srt t) (hk : k ≤ 16) (h5 : U 5 0 = nI k) : ∃ V' U', f_X5_passSort 2 (nI k) V = some (nI (kd t.2), V') ∧ f_X7_readParagraph U = r24 (nI (kd t.2)) U' ∧ KX V V' ∧ KU U U' ∧ PS b n V' U' ∧ (V' 2 6 = 0 → k < 16) := by
  obtain ⟨g1, g2, g3, g4, g5, g6, g7, g8, g9, g10⟩ := id h
  obtain ⟨hV, hU, -⟩ := id hP
  have hc := g10.2.2.1 hs.1
  have v4 : V 2 4 = nI t.2 := g8.2.2.2 (by have := hs.1; omega)
  have u15 : U 0 15 = nI t.2 := (g9.2.2.2.1 hs.1).2
  have ek : (if kd t.2 = 0 then (-1000000 : Int32) else nI (kd t.2)) = nI (kd t.2) := if_neg hs.2
  have ekb : f_X7_kindBy (U 0 15) U = some (nI (kd t.2), U) := by rw [u15, kindBy_m (by omega), ek]
  rw [sort_yes (by omega) v4 g1 hs.2, rp_m (c := 0) h5 hk ekb]
  unfold f_X5_passSort_49 f_X5_passSort_67
  rw [if_pos g1]
  by_cases c : k < 16
  · obtain ⟨V', U', s1, s2, s3, s4, s5, s6⟩ := step_b hV hU g1 g2 g5 g6 g7
    rw [if_pos (by rw [li, nlt (by omega) (by omega)]; exact c), if_neg (show ¬ k = 16 by omega), s1, Option.bind_some, r24_eq (must_1 g2 s2)]
    exact ⟨V', U', rfl, rfl, s3, s4, s5, fun _ => c⟩
  · obtain ⟨U', s1, s2, s3, s4, s5, s6⟩ := fault_b (f := 3) (by omega) hV hU h
    have s5' : ¬ st V 2 6 3 2 6 = 0 := s5
    have s1' : f_X7_bad 3 U = some U' := s1
    rw [if_neg (by rw [li, nlt (by omega) (by omega)]; exact c), if_pos (show k = 16 by omega), stop_x s5', Option.bind_some, s1', Option.bind_some, r24_eq (must_f 1 s6)]
    exact ⟨_, U', rfl, rfl, s2, s3, s4, fun z => absurd z s5⟩
theorem lay_new {f : Nat → Int32} {S : Sh} {q : Pg} (hS : ShM f S) : ShM (upd (l3 f S.2.length (nI q.1) (nI q.2.1) (nI q.2.2)) 0 (nI (S.2.length + 1))) (insS S S.2.length q) := by
  have hp : S.2.length ≤ S.2.length := Nat.le_refl _
  refine ⟨?_, fun l hl => ?_, fun k hk => ?_⟩
  · unfold insS upd
    rw [len_ins hp]
    rfl
  · unfold upd l3
    simp (disch := omega) only [if_pos, if_neg]
    exact hS.2.1 l hl
  · unfold insS at hk ⊢
    rw [len_ins hp] at hk
    dsimp only
    rw [pg_ins hp]
    unfold upd l3
    by_cases e1 : k < S.2.length
    · simp (disch := omega) only [if_pos, if_neg]
      exact hS.2.2 k (by omega)
    · have e2 : k = S.2.length := by omega
      simp (disch := omega) only [if_pos, if_neg]
      exact ⟨trivial, trivial, trivial⟩
theorem par_b {b : Nat → Nat} {n p q : Nat} {t : Nat × Nat} {V U : Mem} {S : Sh} (hP : PS b n V U) (h : GD n V U t p q) (hs : srt t) (hok : okS S) (hl : S.2.length ≤ 16) (hX : ShX V 35 S) (hC : CI V 35 S.2) (hM : ShM (U 5) S) : ∃ V' U', f_X5_readParagraph 2 35 V = some V' ∧ f_X7_readParagraph U = some U' ∧ KV V V' ∧ KW U U' ∧ PS b n V' U' ∧ (V' 2 6 = 0 → ∃ S', okS S' ∧ S'.2.length = S.2.length + 1 ∧ S'.2.length ≤ 16 ∧ ShX V' 35 S' ∧ CI V' 35 S'.2 ∧ ShM (U' 5) S') := by
  obtain ⟨V1, U1, e1, e2, k1, j1, p1, g1⟩ := sort_b hP h hs hl hM.1
  obtain ⟨x2, y2, V2, U2, a1, a2, k2, j2, p2, g2⟩ := number_b (h := 2) (by omega) p1
  obtain ⟨V3, U3, b1, b2, k3, j3, p3, g3⟩ := pass_b (c := 44) (by omega) p2
  obtain ⟨x4, y4, V4, U4, c1, c2, k4, j4, p4, g4⟩ := number_b (h := 20) (by omega) p3
  obtain ⟨V5, U5, d1, d2, k5, j5, p5, g5⟩ := pass_b (c := 59) (by omega) p4
  have kx := (((k1.tr k2).tr k3).tr k4).tr k5
  have ku := (((j1.tr j2).tr j3).tr j4).tr j5
  have a1' : f_X5_passNumber 2 2 V1 = some (x2, V2) := a1
  have a2' : f_X7_number 0 2 U1 = some (y2, U2) := a2
  have b1' : f_X5_pass 2 44 V2 = some V3 := b1
  have b2' : f_X7_mustSign 44 U2 = some U3 := b2
  have c1' : f_X5_passNumber 2 20 V3 = some (x4, V4) := c1
  have c2' : f_X7_number 0 20 U3 = some (y4, U4) := c2
  have d1' : f_X5_pass 2 59 V4 = some V5 := d1
  have d2' : f_X7_mustSign 59 U4 = some U5 := d2
  rw [e2]
  unfold f_X5_readParagraph r24
  rw [hX.1, e1, Option.bind_some, a1', Option.bind_some, b1', Option.bind_some, c1', Option.bind_some, d1', Option.bind_some, a2', Option.bind_some, b2', Option.bind_some, c2', Option.bind_some, d2', Option.bind_some]
  by_cases h6 : V5 2 6 = 0
  · have h16 := p5.both.mp h6
    obtain ⟨h3, v4, l4, rfl, rfl⟩ := g4 (g5 h6)
    obtain ⟨h1, v2, l2, rfl, rfl⟩ := g2 (g3 h3)
    have hk := g1 h1
    have kl := kd_le t.2
    have h24 := hok.2.2.1
    have hq : okP (kd t.2, v2, v4) := ⟨by have := hs.2; dsimp only; omega, kl, l2, l4⟩
    have hX5 : ShX V5 35 S := hX.cg (by rw [kx.1 35 (by omega)]) (fun j _ _ => kx.1 (35 + j) (by omega))
    obtain ⟨m, hm⟩ := hC
    have hC5 : CM V5 35 S.2 m := hm.cg h24 (by rw [kx.1 35 (by omega)]) (fun j _ => kx.1 _ (by omega))
    obtain ⟨V6, i1, i2, i3, i4⟩ := ins_x (q := (kd t.2, v2, v4)) hok hX5 hC5 (Nat.le_refl _) (by omega) hq
    have i1' : f_X3_insert 35 (nI S.2.length) (nI (kd t.2)) (nI v2) (nI v4) V5 = some V6 := i1
    have hM5 : ShM (U5 5) S := by rw [ku.1 5 (by omega)]; exact hM
    have e5 : U5 5 ((0 : Int32)).toNatClampNeg = nI S.2.length := hM5.1
    have eU : st (ms U5 5 (l3 (U5 5) S.2.length (nI (kd t.2)) (nI v2) (nI v4))) 5 ((0 : Int32)).toNatClampNeg ((ms U5 5 (l3 (U5 5) S.2.length (nI (kd t.2)) (nI v2) (nI v4))) 5 ((0 : Int32)).toNatClampNeg + 1) = ms U5 5 (upd (l3 (U5 5) S.2.length (nI (kd t.2)) (nI v2) (nI v4)) 0 (nI (S.2.length + 1))) := by
      show st (ms U5 5 (l3 (U5 5) S.2.length (nI (kd t.2)) (nI v2) (nI v4))) 5 0 ((ms U5 5 (l3 (U5 5) S.2.length (nI (kd t.2)) (nI v2) (nI v4))) 5 0 + 1) = _
      have z0 : l3 (U5 5) S.2.length (nI (kd t.2)) (nI v2) (nI v4) 0 = nI S.2.length := by
        unfold l3
        simp (disch := omega) only [if_neg]
        exact hM5.1
      rw [ms_same, z0, nI_1]
      unfold st
      rw [ms_eq, ms_ms]
    rw [if_pos h6, if_pos h16, if_pos ib076, hX5.1, i1', Option.bind_some, e5, layAt_eq (by omega), Option.bind_some, if_pos ib076, if_pos ib076, eU]
    refine ⟨V6, _, rfl, rfl, ⟨fun a q1 q2 => ?_, ?_⟩, ⟨fun a q1 q2 => ?_, fun k hk => ?_⟩, ?_, fun _ => ⟨_, ok_ins hok (by omega) (Nat.le_refl _) hq, ?_, ?_, i2, i3, ?_⟩⟩
    · rw [i4.1 a (by omega) (by omega) (by omega) (by omega), kx.1 a q1]
    · rw [i4.1 2 (by omega) (by omega) (by omega) (by omega), kx.2]
    · rw [ms_id q2, ku.1 a q1]
    · rw [ms_ne (by omega), ku.2 k hk]
    · exact p5.cg (i4.1 2 (by omega) (by omega) (by omega) (by omega)) (i4.1 3 (by omega) (by omega) (by omega) (by omega)) (ms_id (by omega)) (ms_id (by omega))
    · exact len_ins (Nat.le_refl _)
    · show (S.2.take S.2.length ++ (kd t.2, v2, v4) :: S.2.drop S.2.length).length ≤ 16
      rw [len_ins (Nat.le_refl _)]
      omega
    · rw [ms_eq]
      exact lay_new (q := (kd t.2, v2, v4)) hM5
  · rw [if_neg h6, if_neg (fun z => h6 (p5.both.mpr z))]
    exact ⟨V5, U5, rfl, rfl, kx.kv, ku.kw, p5, fun z => absurd z h6⟩
theorem no_sort {n p q c : Nat} {t : Nat × Nat} {V U : Mem} (h : GD n V U t p q) (hs : ¬ srt t) (hc : 97 ≤ c ∧ c ≤ 122) (hk : ¬ kd c = 0) : ¬ V 2 4 = nI c := by
  obtain ⟨g1, g2, g3, g4, g5, g6, g7, g8, g9, g10⟩ := h
  intro z
  obtain ⟨z1, z2⟩ := (tk_name hc g8 g9 g10).mp z
  have t3 := (tk_num g8 g9 g10).2.2.2.2.mp z1
  have z3 := (g9.2.2.2.1 t3).2
  have hr := g10.2.2.1 t3
  rw [z2, neq (by omega) (by omega)] at z3
  exact hs ⟨t3, by rw [← z3]; exact hk⟩
theorem parno_x {n p q k : Nat} {t : Nat × Nat} {V U : Mem} (h : GD n V U t p q) (hs : ¬ srt t) (hX : V 35 4 = nI k) : f_X5_readParagraph 2 35 V = some (st V 2 6 1) := by
  have e := sort_no (k := k) h.1 (no_sort (c := 105) h hs (by omega) (by decide)) (no_sort (c := 114) h hs (by omega) (by decide)) (no_sort (c := 99) h hs (by omega) (by decide)) (no_sort (c := 116) h hs (by omega) (by decide)) (no_sort (c := 104) h hs (by omega) (by decide))
  have s5 : ¬ st V 2 6 1 2 6 = 0 := by rw [st_same]; decide
  unfold f_X5_readParagraph
  rw [hX, e, Option.bind_some, passN_f s5, Option.bind_some, pass_f s5, Option.bind_some, passN_f s5, Option.bind_some, pass_f s5, Option.bind_some, if_neg s5]

/-! put, take, move, change, style. -/
theorem pg_ext {P Q : List Pg} (hl : P.length = Q.length) (h : ∀ k, k < P.length → pg P k = pg Q k) : P = Q := by
  apply List.ext_getElem hl
  intro k h1 h2
  have := h k h1
  unfold pg at this
  rw [List.getD_eq_getElem?_getD, List.getElem?_eq_getElem h1, List.getD_eq_getElem?_getD, List.getElem?_eq_getElem h2] at this
  exact this
theorem rmv_ins {S : Sh} {p : Nat} {q : Pg} (hp : p ≤ S.2.length) : rmvS (insS S p q) p = S := by
  have hl : (S.2.take p ++ q :: S.2.drop p).length = S.2.length + 1 := len_ins hp
  have : (S.2.take p ++ q :: S.2.drop p).take p ++ (S.2.take p ++ q :: S.2.drop p).drop (p + 1) = S.2 := by
    apply pg_ext
    · rw [len_rmv (by omega)]; omega
    · intro k hk
      rw [len_rmv (by omega)] at hk
      rw [pg_rmv (by omega), pg_ins hp, pg_ins hp]
      by_cases c : k < p
      · simp (disch := omega) only [if_pos, if_neg, if_true]
      · simp (disch := omega) only [if_pos, if_neg, if_true]
        rfl
  unfold rmvS insS
  exact Prod.ext rfl this
theorem ins_rmv {S : Sh} {p : Nat} (hp : p < S.2.length) : insS (rmvS S p) p (pg S.2 p) = S := by
  have hl : (S.2.take p ++ S.2.drop (p + 1)).length = S.2.length - 1 := len_rmv hp
  have : (S.2.take p ++ S.2.drop (p + 1)).take p ++ (pg S.2 p) :: (S.2.take p ++ S.2.drop (p + 1)).drop p = S.2 := by
    apply pg_ext
    · rw [len_ins (by omega)]; omega
    · intro k hk
      rw [len_ins (by omega)] at hk
      rw [pg_ins (by omega), pg_rmv hp, pg_rmv hp]
      by_cases c : k < p
      · simp (disch := omega) only [if_pos, if_neg, if_true]
      · by_cases c2 : k = p
        · subst c2
          simp (disch := omega) only [if_pos, if_neg, if_true]
        · simp (disch := omega) only [if_pos, if_neg, if_true]
          congr 1
          omega
  unfold rmvS insS
  exact Prod.ext rfl this
theorem set_set {S : Sh} {p : Nat} {q : Pg} (hp : p < S.2.length) : setS (setS S p q) p (pg S.2 p) = S := by
  unfold setS
  refine Prod.ext rfl ?_
  dsimp only
  rw [List.set_set]
  apply pg_ext
  · rw [List.length_set]
  · intro k hk
    rw [pg_set hp]
    by_cases c : k = p
    · rw [if_pos c, c]
    · rw [if_neg c]
theorem sty_sty {S : Sh} {l v : Nat} (hl : l < S.1.length) : styS (styS S l v) l (S.1.getD l 0) = S := by
  unfold styS
  refine Prod.ext ?_ rfl
  dsimp only
  rw [List.set_set]
  apply List.ext_getElem?
  intro i
  rw [List.getElem?_set]
  by_cases c : l = i
  · subst c
    rw [if_pos rfl, if_pos hl, List.getD_eq_getElem?_getD, List.getElem?_eq_getElem hl]
    rfl
  · rw [if_neg c]
theorem len_mv {S : Sh} {k t : Nat} (hk : k < S.2.length) (ht : t < S.2.length) : (mvS S k t).2.length = S.2.length := by
  unfold mvS insS
  have hl : (rmvS S k).2.length = S.2.length - 1 := len_rmv hk
  rw [len_ins (by omega)]
  omega
theorem pg_mv {S : Sh} {k t : Nat} (hk : k < S.2.length) (ht : t < S.2.length) : pg (mvS S k t).2 t = pg S.2 k := by
  unfold mvS insS
  have hl : (rmvS S k).2.length = S.2.length - 1 := len_rmv hk
  rw [pg_ins (by omega), if_neg (by omega), if_pos rfl]
theorem mv_mv {S : Sh} {k t : Nat} (hk : k < S.2.length) (ht : t < S.2.length) : mvS (mvS S k t) t k = S := by
  have hl : (rmvS S k).2.length = S.2.length - 1 := len_rmv hk
  have e : rmvS (mvS S k t) t = rmvS S k := by
    unfold mvS
    exact rmv_ins (by omega)
  rw [mvS, e, pg_mv hk ht]
  exact ins_rmv hk
theorem shift_x {z k t m : Nat} {S : Sh} {V : Mem} (hok : okS S) (hS : ShX V z S) (hC : CM V z S.2 m) (hk : k < S.2.length) (ht : t < S.2.length) : ∃ V', f_X3_shift z (nI k) (nI t) V = some V' ∧ ShX V' z (mvS S k t) ∧ CI V' z (mvS S k t).2 ∧ FX z V V' := by
  have h24 := hok.2.2.1
  have i24 : ib (nI k) 24 = true := ibt (by omega) (by omega)
  have ck : (nI k).toNatClampNeg = k := ncl (by omega)
  have hl : (rmvS S k).2.length = S.2.length - 1 := len_rmv hk
  obtain ⟨V1, x1, x2, ⟨m1, x3⟩, x4⟩ := rmv_x hok hS hC hk
  obtain ⟨V2, y1, y2, y3, y4⟩ := ins_x (ok_rmv hok hk) x2 x3 (p := t) (q := pg S.2 k) (by omega) (by omega) (pg_ok hok.2.2.2 hk)
  obtain ⟨s1, s2, s3⟩ := hS.2.2 k hk
  refine ⟨V2, ?_, y2, y3, x4.tr y4⟩
  unfold f_X3_shift
  rw [has_yes hS.1 (by omega) hk, Option.bind_some, if_neg i10]
  dsimp only
  rw [has_yes hS.1 (by omega) ht, Option.bind_some, if_neg i10, if_pos i24, if_pos i24, if_pos i24]
  dsimp only
  rw [x1, Option.bind_some, ck, s1, s2, s3, y1, Option.bind_some]
theorem moveTo_m {U : Mem} {r k t : Nat} {S : Sh} (hS : ShM (U r) S) (hok : okS S) (hk : k < S.2.length) (ht : t < S.2.length) : ∃ g, f_X7_moveTo r (nI k) (nI t) U = some (ms U r g) ∧ ShM g (mvS S k t) := by
  have h24 := hok.2.2.1
  have hl : (rmvS S k).2.length = S.2.length - 1 := len_rmv hk
  have o0 : f_X7_of r (nI k) 0 U = some (U r (4 + 3 * k + 0), U) := of_any (w := 0) (by omega) (by omega)
  have o1 : f_X7_of r (nI k) 1 U = some (U r (4 + 3 * k + 1), U) := of_any (w := 1) (by omega) (by omega)
  have o2 : f_X7_of r (nI k) 2 U = some (U r (4 + 3 * k + 2), U) := of_any (w := 2) (by omega) (by omega)
  obtain ⟨s1, s2, s3⟩ := hS.2.2 k hk
  obtain ⟨g, t1, t2⟩ := takeOut_m hS h24 hk
  obtain ⟨g', p1, p2⟩ := putAt_m (U := ms U r g) (r := r) (S := rmvS S k) (p := t) (q := pg S.2 k) (by rw [ms_eq]; exact t2) (by omega) (by omega)
  refine ⟨g', ?_, p2⟩
  unfold f_X7_moveTo
  rw [o0, Option.bind_some]
  dsimp only
  rw [o1, Option.bind_some]
  dsimp only
  rw [o2, Option.bind_some]
  dsimp only
  rw [t1, Option.bind_some, Nat.add_zero, s1, s2, s3, p1, Option.bind_some, ms_ms]
theorem inv_act {V U V' U' : Mem} {S S' : Sh} {A : List Act} {a : Act} (h : Inv V U) (hok : okS S') (hv : vA S' a) (hu : und S' a = S) (hX : ShX V' 4 S') (hC : CI V' 4 S'.2) (hAV : AV V' (a :: A.take 23)) (hV : ∀ i, i ≤ 3 ∨ 35 ≤ i → i < 67 ∨ i = 68 ∨ 92 < i → V' i = V i) (hM : ShM (U' 4) S') (h9 : U' 0 9 = nI ((A.take 23).length + 1)) (hAW : AW U' S (A.take 23)) (hsh : ShM (fun j => U' 7 (76 * (A.take 23).length + j)) S) (hU : ∀ i, i ≠ 0 → i ≠ 4 → i ≠ 7 → U' i = U i) (hU0 : ∀ k, k ≠ 0 → k ≠ 9 → U' 0 k = U 0 k) : Inv V' U' := by
  obtain ⟨g1, g2, g3, g4, -, g6, g7⟩ := h
  have v0 : V' 0 = V 0 := hV 0 (by omega) (by omega)
  refine ⟨g1.cg (fun i q1 q2 => hV i (by omega) (by omega)) (hU 1 (by omega) (by omega) (by omega)) (hU 2 (by omega) (by omega) (by omega)) (hU 3 (by omega) (by omega) (by omega)), g2.cg (by rw [v0]) (by rw [v0]) (hU0 1 (by omega) (by omega)) (hU0 18 (by omega) (by omega)), g3.cg (by rw [hV 2 (by omega) (by omega)]) (hV 3 (by omega) (by omega)) (hU0 11 (by omega) (by omega)) (hU 8 (by omega) (by omega) (by omega)), g4.cg (by rw [v0]) (hV 98 (by omega) (by omega)) (hU0 29 (by omega) (by omega)) (hU 16 (by omega) (by omega) (by omega)), ⟨S', a :: A.take 23, hok, hX, hC, hM, hAV, by rw [h9, List.length_cons], ?_⟩, g6.cg (fun i q1 q2 => hV i (by omega) (by omega)) (hU 14 (by omega) (by omega) (by omega)) (hU 15 (by omega) (by omega) (by omega)), fun x hx => by rw [hV 41 (by omega) (by omega)]; exact g7 x hx⟩
  exact ⟨hv, by rw [hu]; exact hsh, by rw [hu]; exact hAW⟩
abbrev told (a b c : Int32) : Prop := (1 ≤ a ∧ a ≤ 5) ∧ (0 ≤ b ∧ b ≤ 2) ∧ (0 ≤ c ∧ c ≤ 20)
theorem told_x (a b c : Int32) (V : Mem) : f_X6_isTold a b c V = some (if told a b c then 1 else 0, V) := by
  unfold f_X6_isTold
  rw [isBetween_eq, Option.bind_some]
  by_cases h1 : 1 ≤ a ∧ a ≤ 5
  · rw [if_neg (fun q => ((b01z _).mp q) h1)]
    dsimp only
    rw [isLevel_eq, Option.bind_some]
    by_cases h2 : 0 ≤ b ∧ b ≤ 2
    · rw [if_neg (fun q => ((b01z _).mp q) h2)]
      dsimp only
      rw [isBetween_eq, Option.bind_some]
      by_cases h3 : 0 ≤ c ∧ c ≤ 20
      · rw [if_neg (fun q => ((b01z _).mp q) h3), if_pos (show told a b c from ⟨h1, h2, h3⟩)]
      · rw [if_pos ((b01z _).mpr h3), if_neg (fun q : told a b c => h3 q.2.2)]
    · rw [if_pos ((b01z _).mpr h2), if_neg (fun q : told a b c => h2 q.2.1)]
  · rw [if_pos ((b01z _).mpr h1), if_neg (fun q : told a b c => h1 q.1)]
theorem such_m (a b c : Int32) (V : Mem) : f_X7_isSuch a b c V = some (if told a b c then 1 else 0, V) := by
  unfold f_X7_isSuch
  rw [show (1 : Int64) = (1 : Int32).toInt64 from rfl, show (5 : Int64) = (5 : Int32).toInt64 from rfl, show (0 : Int64) = (0 : Int32).toInt64 from rfl, show (2 : Int64) = (2 : Int32).toInt64 from rfl, show (20 : Int64) = (20 : Int32).toInt64 from rfl, inw, Option.bind_some]
  by_cases h1 : 1 ≤ a ∧ a ≤ 5
  · rw [if_neg (fun q => ((b01z _).mp q) h1)]
    dsimp only
    rw [inw, Option.bind_some]
    by_cases h2 : 0 ≤ b ∧ b ≤ 2
    · rw [if_neg (fun q => ((b01z _).mp q) h2)]
      dsimp only
      rw [inw, Option.bind_some]
      by_cases h3 : 0 ≤ c ∧ c ≤ 20
      · rw [if_neg (fun q => ((b01z _).mp q) h3), if_pos (show told a b c from ⟨h1, h2, h3⟩)]
      · rw [if_pos ((b01z _).mpr h3), if_neg (fun q : told a b c => h3 q.2.2)]
    · rw [if_pos ((b01z _).mpr h2), if_neg (fun q : told a b c => h2 q.2.1)]
  · rw [if_pos ((b01z _).mpr h1), if_neg (fun q : told a b c => h1 q.1)]
theorem told_of {a b c : Int32} (h : told a b c) : ∃ q : Pg, okP q ∧ a = nI q.1 ∧ b = nI q.2.1 ∧ c = nI q.2.2 := by
  obtain ⟨h1, h2, h3⟩ := h
  obtain ⟨x, x1, rfl⟩ := btw (n := 5) (by omega) ⟨Int32.le_trans (by decide) h1.1, h1.2⟩
  obtain ⟨y, y1, rfl⟩ := btw (n := 2) (by omega) h2
  obtain ⟨w, w1, rfl⟩ := btw (n := 20) (by omega) h3
  refine ⟨(x, y, w), ⟨?_, x1, y1, w1⟩, rfl, rfl, rfl⟩
  have := h1.1
  rw [show (1 : Int32) = nI 1 from rfl, nle (by omega) (by omega)] at this
  exact this
theorem FX.av {V V' : Mem} {A : List Act} (h : FX 4 V V') (hA : AV V A) : AV V' A := hA.cg (h.1 67 (by omega) (by omega) (by omega) (by omega)) (fun i hi => h.1 (69 + i) (by omega) (by omega) (by omega) (by omega))
theorem CM.cg {V V' : Mem} {z m : Nat} {P : List Pg} (hl : P.length ≤ 24) (h : CM V z P m) (a : V' z 6 = V z 6) (b : ∀ k, k ≤ 24 → V' (z + 5 + 1 + k) = V (z + 5 + 1 + k)) : CM V' z P m := by
  obtain ⟨h1, h2, h3⟩ := h
  exact ⟨h1, by rw [a]; exact h2, fun p hp => by rw [b p (by omega)]; exact h3 p hp⟩
theorem ib076 : ib 0 76 = true := by decide
theorem s_put : S_put Inv := by
  intro a b c d V U h
  obtain ⟨S, A, hSS⟩ := h.2.2.2.2.1
  obtain ⟨hok, hX, hC, hM, hAV, h9, hAW⟩ := id hSS
  have h24 := hok.2.2.1
  have hM' : ShM (st U 0 0 0 4) S := by rw [st_id (by omega)]; exact hM
  have e0 : st U 0 0 0 4 ((0 : Int32)).toNatClampNeg = nI S.2.length := hM'.1
  unfold f_X6_put f_X7_put
  rw [none_x hX.1 (by omega), there_m hM'.1 (by omega), Option.bind_some, Option.bind_some]
  by_cases hn : S.2.length = 0
  · rw [if_neg (fun q => ((b01z _).mp q) hn), if_pos ((b01z _).mpr (by omega))]
    exact ⟨_, _, rfl, rfl, rfl, inv_t h⟩
  · rw [if_pos ((b01z _).mpr hn), if_neg (fun q => ((b01z _).mp q) (by omega))]
    dsimp only
    rw [isBetween_eq, if_pos ib076, e0, show (0 : Int64) = (0 : Int32).toInt64 from rfl, inw, hX.1, Option.bind_some, Option.bind_some]
    by_cases hp : 0 ≤ a ∧ a ≤ nI S.2.length
    · rw [if_neg (fun q => ((b01z _).mp q) hp), if_neg (fun q => ((b01z _).mp q) hp)]
      dsimp only
      rw [told_x, such_m, Option.bind_some, Option.bind_some]
      by_cases ht : told b c d
      · rw [if_neg (fun q => ((b01z _).mp q) ht), if_neg (fun q => ((b01z _).mp q) ht)]
        obtain ⟨p, hp1, rfl⟩ := btw (by omega) hp
        obtain ⟨q, hq, rfl, rfl, rfl⟩ := told_of ht
        simp only [hX.1, if_pos ib076, e0]
        by_cases hf : S.2.length = 24
        · rw [if_neg (by rw [li, nlt (by omega) (by omega)]; omega), if_pos (by rw [hf]; rfl)]
          exact ⟨_, _, rfl, rfl, rfl, inv_t h⟩
        · rw [if_pos (by rw [li, nlt (by omega) (by omega)]; omega), if_neg (by rw [li, neq (by omega) (by omega)]; exact hf)]
          obtain ⟨m, hm⟩ := hC
          obtain ⟨V1, x1, x2, x3, x4⟩ := ins_x hok hX hm hp1 (by omega) hq
          obtain ⟨V2, y1, y2, y3⟩ := keep_x (a := (0, p, p, q)) (x4.av hAV)
          have y1' : f_X0_keep 67 0 (nI p) (nI p) (nI q.1) (nI q.2.1) (nI q.2.2) V1 = some V2 := y1
          obtain ⟨U1, k1, k2, k3, k4, k5, k6⟩ := keep_m hok hM' (by rw [st_ne2 (by omega)]; exact h9) hAV.1 (hAW.cg (st_id (by omega)))
          obtain ⟨g, p1, p2⟩ := putAt_m (q := q) (U := U1) (r := 4) (by rw [k2 4 (by omega) (by omega)]; exact hM') (by omega) hp1
          rw [x1, Option.bind_some, y1', Option.bind_some, k1, Option.bind_some, p1, Option.bind_some]
          have hX2 : ShX V2 4 (insS S p q) := x2.cg (by rw [y3 4 (by omega)]) (fun k _ _ => y3 (4 + k) (by omega))
          have hlen : (insS S p q).2.length = S.2.length + 1 := len_ins hp1
          have hC2 : CI V2 4 (insS S p q).2 := x3.cg (by omega) (by rw [y3 4 (by omega)]) (fun k _ => y3 (4 + 5 + 1 + k) (by omega))
          refine ⟨_, _, rfl, rfl, ?_, inv_act (A := A) (a := (0, p, p, q)) h (ok_ins hok (by omega) hp1 hq) ?_ (rmv_ins hp1) hX2 hC2 y2 (fun i q1 q2 => by dsimp only; rw [y3 i q2, x4.1 i (by omega) (by omega) (by omega) (by omega)]) (by dsimp only; rw [ms_eq]; exact p2) (by dsimp only; rw [ms_ne (by omega)]; exact k4) (k5.cg (ms_id (by omega))) (by dsimp only; rw [ms_id (show (7 : Nat) ≠ 4 by omega)]; exact k6) (fun i q1 q2 q3 => by dsimp only; rw [ms_id q2, k2 i q1 q3, st_id q1]) (fun k q1 q2 => by dsimp only; rw [ms_ne (by omega), k3 k q2, st_ne2 q1])⟩
          · show V2 4 4 = ms U1 4 g 4 0
            rw [hX2.1, ms_same, p2.1]
          · show p < (insS S p q).2.length ∧ 1 < (insS S p q).2.length
            omega
      · rw [if_pos ((b01z _).mpr ht), if_pos ((b01z _).mpr ht)]
        exact ⟨_, _, rfl, rfl, rfl, inv_t h⟩
    · rw [if_pos ((b01z _).mpr hp), if_pos ((b01z _).mpr hp)]
      exact ⟨_, _, rfl, rfl, rfl, inv_t h⟩
theorem keepAct_x {V : Mem} {S : Sh} {A : List Act} {t p o : Nat} (hok : okS S) (hX : ShX V 4 S) (hA : AV V A) (hp : p < S.2.length) : ∃ V', f_X6_keepAct (nI t) (nI p) (nI o) V = some V' ∧ AV V' ((t, p, o, pg S.2 p) :: A.take 23) ∧ (∀ i, i < 67 ∨ i = 68 ∨ 92 < i → V' i = V i) := by
  have h24 := hok.2.2.1
  have i24 : ib (nI p) 24 = true := ibt (by omega) (by omega)
  have ck : (nI p).toNatClampNeg = p := ncl (by omega)
  obtain ⟨s1, s2, s3⟩ := hX.2.2 p hp
  obtain ⟨V2, y1, y2, y3⟩ := keep_x (a := (t, p, o, pg S.2 p)) hA
  refine ⟨V2, ?_, y2, y3⟩
  unfold f_X6_keepAct
  have s1' : V 6 p = nI (pg S.2 p).1 := s1
  have s2' : V 7 p = nI (pg S.2 p).2.1 := s2
  have s3' : V 8 p = nI (pg S.2 p).2.2 := s3
  rw [if_pos i24, if_pos i24, if_pos i24, ck, s1', s2', s3', y1, Option.bind_some]
theorem s_take : S_take Inv := by
  intro a V U h
  obtain ⟨S, A, hSS⟩ := h.2.2.2.2.1
  obtain ⟨hok, hX, hC, hM, hAV, h9, hAW⟩ := id hSS
  have h24 := hok.2.2.1
  have hM' : ShM (st U 0 0 0 4) S := by rw [st_id (by omega)]; exact hM
  have e0 : st U 0 0 0 4 ((0 : Int32)).toNatClampNeg = nI S.2.length := hM'.1
  unfold f_X6_take f_X7_take
  rcases dich a S.2.length with ⟨p, hp, rfl⟩ | hk
  · rw [has_yes hX.1 (by omega) hp, par_yes hM'.1 (by omega) hp, Option.bind_some, Option.bind_some, if_neg i10, if_neg i10, if_pos ib076]
    simp only [hX.1, if_pos ib076, e0]
    by_cases hf : S.2.length = 1
    · rw [if_pos (by rw [hf]; rfl), if_pos (by rw [hf]; rfl)]
      exact ⟨_, _, rfl, rfl, rfl, inv_t h⟩
    · rw [if_neg (by rw [li, neq (by omega) (by omega)]; exact hf), if_neg (by rw [li, neq (by omega) (by omega)]; exact hf)]
      obtain ⟨m, hm⟩ := hC
      obtain ⟨V1, y1, y2, y3⟩ := keepAct_x (t := 1) (o := p) hok hX hAV hp
      have y1' : f_X6_keepAct 1 (nI p) (nI p) V = some V1 := y1
      have hX1 : ShX V1 4 S := hX.cg (by rw [y3 4 (by omega)]) (fun k _ _ => y3 (4 + k) (by omega))
      have hm1 : CM V1 4 S.2 m := hm.cg h24 (by rw [y3 4 (by omega)]) (fun k _ => y3 (4 + 5 + 1 + k) (by omega))
      obtain ⟨V2, x1, x2, x3, x4⟩ := rmv_x hok hX1 hm1 hp
      obtain ⟨U1, k1, k2, k3, k4, k5, k6⟩ := keep_m hok hM' (by rw [st_ne2 (by omega)]; exact h9) hAV.1 (hAW.cg (st_id (by omega)))
      obtain ⟨g, p1, p2⟩ := takeOut_m (U := U1) (r := 4) (by rw [k2 4 (by omega) (by omega)]; exact hM') h24 hp
      rw [y1', Option.bind_some, x1, Option.bind_some, k1, Option.bind_some, p1, Option.bind_some]
      have hlen : (rmvS S p).2.length = S.2.length - 1 := len_rmv hp
      refine ⟨_, _, rfl, rfl, ?_, inv_act (A := A) (a := (1, p, p, pg S.2 p)) h (ok_rmv hok hp) ?_ (ins_rmv hp) x2 x3 (x4.av y2) (fun i q1 q2 => by dsimp only; rw [x4.1 i (by omega) (by omega) (by omega) (by omega), y3 i q2]) (by dsimp only; rw [ms_eq]; exact p2) (by dsimp only; rw [ms_ne (by omega)]; exact k4) (k5.cg (ms_id (by omega))) (by dsimp only; rw [ms_id (show (7 : Nat) ≠ 4 by omega)]; exact k6) (fun i q1 q2 q3 => by dsimp only; rw [ms_id q2, k2 i q1 q3, st_id q1]) (fun k q1 q2 => by dsimp only; rw [ms_ne (by omega), k3 k q2, st_ne2 q1])⟩
      · show V2 4 4 = ms U1 4 g 4 0
        rw [x2.1, ms_same, p2.1]
      · show p ≤ (rmvS S p).2.length ∧ (rmvS S p).2.length < 24 ∧ okP (pg S.2 p)
        exact ⟨by omega, by omega, pg_ok hok.2.2.2 hp⟩
  · rw [has_no hX.1 (by omega) hk, par_no hM'.1 (by omega) hk, Option.bind_some, Option.bind_some, if_pos rfl, if_pos rfl]
    exact ⟨_, _, rfl, rfl, rfl, inv_t h⟩
theorem s_move : S_move Inv := by
  intro a b V U h
  obtain ⟨S, A, hSS⟩ := h.2.2.2.2.1
  obtain ⟨hok, hX, hC, hM, hAV, h9, hAW⟩ := id hSS
  have h24 := hok.2.2.1
  have hM' : ShM (st U 0 0 0 4) S := by rw [st_id (by omega)]; exact hM
  unfold f_X6_move f_X7_move
  rcases dich a S.2.length with ⟨p, hp, rfl⟩ | hk
  · rw [has_yes hX.1 (by omega) hp, par_yes hM'.1 (by omega) hp, Option.bind_some, Option.bind_some, if_neg i10, if_neg i10]
    dsimp only
    rcases dich b S.2.length with ⟨t, ht, rfl⟩ | hk
    · rw [has_yes hX.1 (by omega) ht, par_yes hM'.1 (by omega) ht, Option.bind_some, Option.bind_some, if_neg i10, if_neg i10]
      dsimp only
      by_cases hf : nI p = nI t
      · rw [if_pos hf, if_pos hf]
        exact ⟨_, _, rfl, rfl, rfl, inv_t h⟩
      · rw [if_neg hf, if_neg hf]
        obtain ⟨m, hm⟩ := hC
        obtain ⟨V1, y1, y2, y3⟩ := keepAct_x (t := 2) (o := t) hok hX hAV hp
        have y1' : f_X6_keepAct 2 (nI p) (nI t) V = some V1 := y1
        have hX1 : ShX V1 4 S := hX.cg (by rw [y3 4 (by omega)]) (fun k _ _ => y3 (4 + k) (by omega))
        have hm1 : CM V1 4 S.2 m := hm.cg h24 (by rw [y3 4 (by omega)]) (fun k _ => y3 (4 + 5 + 1 + k) (by omega))
        obtain ⟨V2, x1, x2, x3, x4⟩ := shift_x hok hX1 hm1 hp ht
        obtain ⟨U1, k1, k2, k3, k4, k5, k6⟩ := keep_m hok hM' (by rw [st_ne2 (by omega)]; exact h9) hAV.1 (hAW.cg (st_id (by omega)))
        have hU1 : ShM (U1 4) S := by rw [k2 4 (by omega) (by omega)]; exact hM'
        obtain ⟨g, p1, p2⟩ := moveTo_m (U := U1) (r := 4) hU1 hok hp ht
        have o1 : f_X7_of 4 (nI p) 1 U1 = some (U1 4 (4 + 3 * p + 1), U1) := of_any (w := 1) (by omega) (by omega)
        have i24 : ib (nI t) 24 = true := ibt (by omega) (by omega)
        have ct : (nI t).toNatClampNeg = t := ncl (by omega)
        rw [y1', Option.bind_some, x1, Option.bind_some, k1, Option.bind_some, o1, Option.bind_some, if_pos i24, ct]
        dsimp only
        rw [p1, Option.bind_some]
        have hlen : (mvS S p t).2.length = S.2.length := len_mv hp ht
        refine ⟨_, _, rfl, rfl, ?_, inv_act (A := A) (a := (2, p, t, pg S.2 p)) h (ok_mv hok hp ht) ?_ (mv_mv hp ht) x2 x3 (x4.av y2) (fun i q1 q2 => by dsimp only; rw [x4.1 i (by omega) (by omega) (by omega) (by omega), y3 i q2]) (by dsimp only; rw [ms_eq]; exact p2) (by dsimp only; rw [ms_ne (by omega)]; exact k4) (k5.cg (ms_id (by omega))) (by dsimp only; rw [ms_id (show (7 : Nat) ≠ 4 by omega)]; exact k6) (fun i q1 q2 q3 => by dsimp only; rw [ms_id q2, k2 i q1 q3, st_id q1]) (fun k q1 q2 => by dsimp only; rw [ms_ne (by omega), k3 k q2, st_ne2 q1])⟩
        · have e := (x2.2.2 t (by omega)).2.1
          rw [pg_mv hp ht] at e
          exact e.trans (hU1.2.2 p hp).2.1.symm
        · show t < (mvS S p t).2.length ∧ p < (mvS S p t).2.length
          omega
    · rw [has_no hX.1 (by omega) hk, par_no hM'.1 (by omega) hk, Option.bind_some, Option.bind_some, if_pos rfl, if_pos rfl]
      exact ⟨_, _, rfl, rfl, rfl, inv_t h⟩
  · rw [has_no hX.1 (by omega) hk, par_no hM'.1 (by omega) hk, Option.bind_some, Option.bind_some, if_pos rfl, if_pos rfl]
    exact ⟨_, _, rfl, rfl, rfl, inv_t h⟩
theorem lay_set {f : Nat → Int32} {S : Sh} {p : Nat} {q : Pg} (hS : ShM f S) (hp : p < S.2.length) : ShM (l3 f p (nI q.1) (nI q.2.1) (nI q.2.2)) (setS S p q) := by
  have hl : (setS S p q).2.length = S.2.length := List.length_set
  refine ⟨?_, fun l hl2 => ?_, fun k hk => ?_⟩
  · rw [hl]
    unfold l3
    simp (disch := omega) only [if_neg]
    exact hS.1
  · unfold l3
    simp (disch := omega) only [if_neg]
    exact hS.2.1 l hl2
  · rw [hl] at hk
    have e : pg (setS S p q).2 k = if k = p then q else pg S.2 k := pg_set hp k
    rw [e]
    unfold l3
    by_cases c : k = p
    · subst c
      simp (disch := omega) only [if_pos, if_neg, if_true]
      exact ⟨trivial, trivial, trivial⟩
    · simp (disch := omega) only [if_neg]
      exact hS.2.2 k hk
theorem s_change : S_change Inv := by
  intro a b c d V U h
  obtain ⟨S, A, hSS⟩ := h.2.2.2.2.1
  obtain ⟨hok, hX, hC, hM, hAV, h9, hAW⟩ := id hSS
  have h24 := hok.2.2.1
  have hM' : ShM (st U 0 0 0 4) S := by rw [st_id (by omega)]; exact hM
  unfold f_X6_change f_X7_change
  rcases dich a S.2.length with ⟨p, hp, rfl⟩ | hk
  · rw [has_yes hX.1 (by omega) hp, par_yes hM'.1 (by omega) hp, Option.bind_some, Option.bind_some, if_neg i10, if_neg i10]
    dsimp only
    rw [told_x, such_m, Option.bind_some, Option.bind_some]
    by_cases ht : told b c d
    · rw [if_neg (fun q => ((b01z _).mp q) ht), if_neg (fun q => ((b01z _).mp q) ht)]
      obtain ⟨q, hq, rfl, rfl, rfl⟩ := told_of ht
      obtain ⟨m, hm⟩ := hC
      obtain ⟨V1, y1, y2, y3⟩ := keepAct_x (t := 3) (o := p) hok hX hAV hp
      have y1' : f_X6_keepAct 3 (nI p) (nI p) V = some V1 := y1
      have hX1 : ShX V1 4 S := hX.cg (by rw [y3 4 (by omega)]) (fun k _ _ => y3 (4 + k) (by omega))
      have hm1 : CM V1 4 S.2 m := hm.cg h24 (by rw [y3 4 (by omega)]) (fun k _ => y3 (4 + 5 + 1 + k) (by omega))
      obtain ⟨V2, x1, x2, x3, x4⟩ := alt_x (q := q) hok hX1 hm1 hp
      obtain ⟨U1, k1, k2, k3, k4, k5, k6⟩ := keep_m hok hM' (by rw [st_ne2 (by omega)]; exact h9) hAV.1 (hAW.cg (st_id (by omega)))
      have hU1 : ShM (U1 4) S := by rw [k2 4 (by omega) (by omega)]; exact hM'
      have o1 : f_X7_of 4 (nI p) 0 U1 = some (U1 4 (4 + 3 * p + 0), U1) := of_any (w := 0) (by omega) (by omega)
      have i24 : ib (nI p) 24 = true := ibt (by omega) (by omega)
      have ct : (nI p).toNatClampNeg = p := ncl (by omega)
      dsimp only
      rw [if_pos i24, y1', Option.bind_some, x1, Option.bind_some, k1, Option.bind_some, o1, Option.bind_some, ct]
      dsimp only
      rw [layAt_eq (by omega), Option.bind_some]
      refine ⟨_, _, rfl, rfl, ?_, inv_act (A := A) (a := (3, p, p, pg S.2 p)) h (ok_set hok hq) ?_ (set_set hp) x2 x3 (x4.av y2) (fun i q1 q2 => by dsimp only; rw [x4.1 i (by omega) (by omega) (by omega) (by omega), y3 i q2]) (by dsimp only; rw [ms_eq]; exact lay_set hU1 hp) (by dsimp only; rw [ms_ne (by omega)]; exact k4) (k5.cg (ms_id (by omega))) (by dsimp only; rw [ms_id (show (7 : Nat) ≠ 4 by omega)]; exact k6) (fun i q1 q2 q3 => by dsimp only; rw [ms_id q2, k2 i q1 q3, st_id q1]) (fun k q1 q2 => by dsimp only; rw [ms_ne (by omega), k3 k q2, st_ne2 q1])⟩
      · exact (hX.2.2 p hp).1.trans (hU1.2.2 p hp).1.symm
      · show p < (setS S p q).2.length ∧ okP (pg S.2 p)
        exact ⟨by unfold setS; rw [List.length_set]; exact hp, pg_ok hok.2.2.2 hp⟩
    · rw [if_pos ((b01z _).mpr ht), if_pos ((b01z _).mpr ht)]
      exact ⟨_, _, rfl, rfl, rfl, inv_t h⟩
  · rw [has_no hX.1 (by omega) hk, par_no hM'.1 (by omega) hk, Option.bind_some, Option.bind_some, if_pos rfl, if_pos rfl]
    exact ⟨_, _, rfl, rfl, rfl, inv_t h⟩
theorem getD_set {L : List Nat} {l v k : Nat} (hl : l < L.length) : (L.set l v).getD k 0 = if k = l then v else L.getD k 0 := by
  simp only [List.getD_eq_getElem?_getD]
  rw [List.getElem?_set]
  by_cases c : l = k
  · subst c
    rw [if_pos rfl, if_pos rfl, if_pos hl]
    rfl
  · rw [if_neg c, if_neg (fun e => c e.symm)]
theorem sty_x {V : Mem} {S : Sh} {z l v : Nat} (hok : okS S) (hX : ShX V z S) (hl : l < 3) : ShX (st V (z + 1) l (nI v)) z (styS S l v) := by
  refine ⟨by rw [st_ne1 (by omega)]; exact hX.1, fun k hk => ?_, fun k hk => ?_⟩
  · have e : (styS S l v).1.getD k 0 = if k = l then v else S.1.getD k 0 := getD_set (by rw [hok.1]; exact hl)
    rw [e, st_at]
    by_cases c : k = l
    · rw [if_pos ⟨rfl, c⟩, if_pos c]
    · rw [if_neg (fun q => c q.2), if_neg c]
      exact hX.2.1 k hk
  · rw [st_ne1 (by omega), st_ne1 (by omega), st_ne1 (by omega)]
    exact hX.2.2 k hk
theorem sty_m {f : Nat → Int32} {S : Sh} {l v : Nat} (hok : okS S) (hS : ShM f S) (hl : l < 3) : ShM (upd f (1 + l) (nI v)) (styS S l v) := by
  have hu : ∀ y, upd f (1 + l) (nI v) y = if y = 1 + l then nI v else f y := fun _ => rfl
  refine ⟨by rw [hu, if_neg (by omega)]; exact hS.1, fun k hk => ?_, fun k hk => ?_⟩
  · have e : (styS S l v).1.getD k 0 = if k = l then v else S.1.getD k 0 := getD_set (by rw [hok.1]; exact hl)
    rw [e, hu]
    by_cases c : k = l
    · rw [if_pos (by omega), if_pos c]
    · rw [if_neg (by omega), if_neg c]
      exact hS.2.1 k hk
  · rw [hu, hu, hu]
    simp (disch := omega) only [if_neg]
    exact hS.2.2 k hk
theorem s_style : S_style Inv := by
  intro a b V U h
  obtain ⟨S, A, hSS⟩ := h.2.2.2.2.1
  obtain ⟨hok, hX, hC, hM, hAV, h9, hAW⟩ := id hSS
  have h24 := hok.2.2.1
  have hM' : ShM (st U 0 0 0 4) S := by rw [st_id (by omega)]; exact hM
  unfold f_X6_style f_X7_style
  rw [none_x hX.1 (by omega), there_m hM'.1 (by omega), Option.bind_some, Option.bind_some]
  by_cases hn : S.2.length = 0
  · rw [if_neg (fun q => ((b01z _).mp q) hn), if_pos ((b01z _).mpr (by omega))]
    exact ⟨_, _, rfl, rfl, rfl, inv_t h⟩
  · rw [if_pos ((b01z _).mpr hn), if_neg (fun q => ((b01z _).mp q) (by omega))]
    dsimp only
    rw [isLevel_eq, show (0 : Int64) = (0 : Int32).toInt64 from rfl, show (2 : Int64) = (2 : Int32).toInt64 from rfl, show (3 : Int64) = (3 : Int32).toInt64 from rfl, inw, Option.bind_some, Option.bind_some]
    by_cases hp : 0 ≤ a ∧ a ≤ 2
    · rw [if_neg (fun q => ((b01z _).mp q) hp), if_neg (fun q => ((b01z _).mp q) hp)]
      dsimp only
      rw [isBetween_eq, inw, Option.bind_some, Option.bind_some]
      by_cases ht : 0 ≤ b ∧ b ≤ 3
      · rw [if_neg (fun q => ((b01z _).mp q) ht), if_neg (fun q => ((b01z _).mp q) ht)]
        obtain ⟨l, hl, rfl⟩ := btw (n := 2) (by omega) hp
        obtain ⟨v, hv, rfl⟩ := btw (n := 3) (by omega) ht
        have i3 : ib (nI l) 3 = true := ibt (by omega) (by omega)
        have cl : (nI l).toNatClampNeg = l := ncl (by omega)
        have e1 : (1 : Int32) + nI l = nI (1 + l) := by rw [li, nad]
        have i76 : ib (nI (1 + l)) 76 = true := ibt (by omega) (by omega)
        have cl1 : (nI (1 + l)).toNatClampNeg = 1 + l := ncl (by omega)
        have s1 : V 5 l = nI (S.1.getD l 0) := hX.2.1 l (by omega)
        obtain ⟨V1, y1, y2, y3⟩ := keep_x (a := (4, l, S.1.getD l 0, 0, 0, 0)) hAV
        have y1' : f_X0_keep 67 4 (nI l) (nI (S.1.getD l 0)) 0 0 0 V = some V1 := y1
        obtain ⟨U1, k1, k2, k3, k4, k5, k6⟩ := keep_m hok hM' (by rw [st_ne2 (by omega)]; exact h9) hAV.1 (hAW.cg (st_id (by omega)))
        have hU1 : ShM (U1 4) S := by rw [k2 4 (by omega) (by omega)]; exact hM'
        have hX1 : ShX V1 4 S := hX.cg (by rw [y3 4 (by omega)]) (fun k _ _ => y3 (4 + k) (by omega))
        have hC1 : CI V1 4 S.2 := hC.cg h24 (by rw [y3 4 (by omega)]) (fun k _ => y3 (4 + 5 + 1 + k) (by omega))
        dsimp only
        rw [if_pos i3, cl, s1, y1', Option.bind_some, if_pos i3, k1, Option.bind_some, e1, if_pos i76, if_pos i76, cl1]
        have hX2 : ShX (st V1 5 l (nI v)) 4 (styS S l v) := sty_x hok hX1 (by omega)
        have hC2 : CI (st V1 5 l (nI v)) 4 (styS S l v).2 := hC1.cg h24 (by rw [st_ne1 (by omega)]) (fun k _ => st_id (by omega))
        have hA2 : AV (st V1 5 l (nI v)) ((4, l, S.1.getD l 0, 0, 0, 0) :: A.take 23) := y2.cg (st_id (by omega)) (fun i hi => st_id (by omega))
        refine ⟨_, _, rfl, rfl, ?_, inv_act (A := A) (a := (4, l, S.1.getD l 0, 0, 0, 0)) h (ok_sty hok hv) ?_ (sty_sty (show l < S.1.length by rw [hok.1]; omega)) hX2 hC2 hA2 (fun i q1 q2 => by dsimp only; rw [st_id (by omega), y3 i q2]) (sty_m hok hU1 (by omega)) (by dsimp only; rw [st_ne1 (by omega)]; exact k4) (k5.cg (st_id (by omega))) (by dsimp only; rw [st_id (show (7 : Nat) ≠ 4 by omega)]; exact k6) (fun i q1 q2 q3 => by dsimp only; rw [st_id q2, k2 i q1 q3, st_id q1]) (fun k q1 q2 => by dsimp only; rw [st_ne1 (by omega), k3 k q2, st_ne2 q1])⟩
        · exact (hU1.2.1 l (by omega)).symm
        · show 4 = 4 ∧ l < 3 ∧ S.1.getD l 0 ≤ 3
          exact ⟨rfl, by omega, sty_le hok (by omega)⟩
      · rw [if_pos ((b01z _).mpr ht), if_pos ((b01z _).mpr ht)]
        exact ⟨_, _, rfl, rfl, rfl, inv_t h⟩
    · rw [if_pos ((b01z _).mpr hp), if_pos ((b01z _).mpr hp)]
      exact ⟨_, _, rfl, rfl, rfl, inv_t h⟩

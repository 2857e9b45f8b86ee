/-! Rows: row, set, copy, drop; fault, status, trace. -/
theorem inv_mk {V U V' U' : Mem} (h : Inv V U) (hr : RR V' U') (hs : SN V' U') (hV : ∀ a, a ≠ 0 → (a < 99 ∨ 115 ≤ a) → V' a = V a) (h11 : V' 0 11 = V 0 11) (hU : ∀ a, 4 ≤ a → U' a = U a) (u9 : U' 0 9 = U 0 9) (u11 : U' 0 11 = U 0 11) (u29 : U' 0 29 = U 0 29) : Inv V' U' := by
  obtain ⟨g1, g2, g3, g4, ⟨S, A, g5⟩, g6, g7⟩ := h
  refine ⟨hr, hs, g3.cg (by rw [hV 2 (by omega) (by omega)]) (hV 3 (by omega) (by omega)) u11 (hU 8 (by omega)), g4.cg h11 (hV 98 (by omega) (by omega)) u29 (hU 16 (by omega)), ⟨S, A, g5.cg (fun i a b => hV i (by omega) (by omega)) (hV 67 (by omega) (by omega)) (fun i hi => hV (69 + i) (by omega) (by omega)) (hU 4 (by omega)) u9 (hU 7 (by omega))⟩, g6.cg (fun i a b => hV i (by omega) (by omega)) (hU 14 (by omega)) (hU 15 (by omega)), ?_⟩
  intro x hx
  rw [hV 41 (by omega) (by omega)]
  exact g7 x hx
/-- only the reference's 'thrown' has changed -/
theorem inv_t {V U : Mem} {x : Int32} (h : Inv V U) : Inv V (st U 0 0 x) := by
  refine inv_mk h (h.1.cg (fun _ _ _ => rfl) (st_id (by omega)) (st_id (by omega)) (st_id (by omega))) (h.2.1.cg rfl rfl (by rw [st_at, if_neg (by omega)]) (by rw [st_at, if_neg (by omega)])) (fun _ _ _ => rfl) rfl (fun a ha => st_id (by omega)) (by rw [st_at, if_neg (by omega)]) (by rw [st_at, if_neg (by omega)]) (by rw [st_at, if_neg (by omega)])
/-- the finding is told on both sides -/
theorem inv_f {V U U' : Mem} {x : Int32} (h : Inv V U) (hU : ∀ a, a ≠ 0 → U' a = U a) (hk : ∀ k, k ≠ 0 → k ≠ 1 → U' 0 k = U 0 k) (h1 : U' 0 1 = x) : Inv (st V 0 12 x) U' := by
  refine inv_mk h (h.1.cg (fun a q1 q2 => st_id (by omega)) (hU 1 (by omega)) (hU 2 (by omega)) (hU 3 (by omega))) ⟨by rw [st_at, if_pos ⟨rfl, rfl⟩, h1], by rw [st_at, if_neg (by omega), hk 18 (by omega) (by omega)]; exact h.2.1.2⟩ (fun a q1 q2 => st_id q1) (by rw [st_at, if_neg (by omega)]) (fun a q => hU a (by omega)) (hk 9 (by omega) (by omega)) (hk 11 (by omega) (by omega)) (hk 29 (by omega) (by omega))
theorem s_fault : S_fault Inv := by
  intro V U h
  refine ⟨_, _, rfl, rfl, ?_, inv_t h⟩
  show V 0 13 = st U 0 0 0 0 18
  rw [st_at, if_neg (by omega)]
  exact h.2.1.2
theorem s_status : S_status Inv := by
  intro V U h
  refine ⟨_, _, rfl, rfl, ?_, inv_t h⟩
  show V 0 12 = st U 0 0 0 0 1
  rw [st_at, if_neg (by omega)]
  exact h.2.1.1
theorem fill_loop (r : Nat) : ∀ (d n : Nat) (V : Mem) (k : Nat), k + d = 40 → d < n → f_J7_fill_53178_5 n r 0 (nI k) 40 V = some (ms V r (fun x => if k ≤ x ∧ x < 40 then 0 else V r x)) := by
  intro d
  induction d with
  | zero =>
    intro n V k hk hn
    obtain ⟨n, rfl⟩ : ∃ n', n = n' + 1 := ⟨n - 1, by omega⟩
    have hk3 : k = 40 := by omega
    subst hk3
    unfold f_J7_fill_53178_5
    rw [if_pos (by rw [li, nle (by omega) (by omega)]; omega)]
    congr 1
    funext a
    by_cases h : a = r
    · subst h
      rw [ms_eq]
      funext x
      rw [if_neg (by omega)]
    · rw [ms_id h]
  | succ d ih =>
    intro n V k hk hn
    obtain ⟨n, rfl⟩ : ∃ n', n = n' + 1 := ⟨n - 1, by omega⟩
    unfold f_J7_fill_53178_5
    have e1 : nI k + 1 = nI (k + 1) := nI_1 k
    rw [if_neg (by rw [li, nle (by omega) (by omega)]; omega), if_pos (ibt (by omega) (by omega)), e1, ih n _ (k + 1) (by omega) (by omega), ncl (by omega)]
    congr 1
    funext a
    by_cases h : a = r
    · subst h
      rw [ms_eq, ms_eq]
      funext x
      rw [st_at]
      by_cases hx : x = k
      · subst hx
        rw [if_neg (by omega), if_pos ⟨rfl, rfl⟩, if_pos (by omega)]
      · by_cases h1 : k ≤ x ∧ x < 40
        · rw [if_pos h1, if_pos (by omega)]
        · rw [if_neg h1, if_neg (by omega), if_neg (by omega)]
    · rw [ms_id h, ms_id h, st_id h]
theorem become_eq (z : Nat) (a b : Int32) (V : Mem) : f_X2_become z a b V = some (ms (st (st V z 1 a) z 2 b) (z + 1) (fun x => if x < 40 then 0 else V (z + 1) x)) := by
  unfold f_X2_become f_J7_fill_53178
  have h := fill_loop (z + 1) 40 4096 (st (st V z 1 a) z 2 b) 0 (by omega) (by omega)
  rw [show (0 : Int32) = nI 0 from rfl] at h ⊢
  rw [h, Option.bind_some]
  congr 2
  funext x
  by_cases hx : x < 40
  · rw [if_pos (by omega), if_pos hx]
  · rw [if_neg (by omega), if_neg hx, st_id (by omega), st_id (by omega)]
theorem mrow_loop (a : Nat) (x3 : Int32) (ha : a < 8) : ∀ (d n : Nat) (V : Mem) (k : Nat), k + d = 40 → d < n → f_X7_row_65 n (nI a) x3 (nI k) V = some (x3, ms V 3 (fun x => if 40 * a + k ≤ x ∧ x < 40 * a + 40 then 0 else V 3 x)) := by
  intro d
  induction d with
  | zero =>
    intro n V k hk hn
    obtain ⟨n, rfl⟩ : ∃ n', n = n' + 1 := ⟨n - 1, by omega⟩
    have hk3 : k = 40 := by omega
    subst hk3
    unfold f_X7_row_65
    rw [if_pos (by rw [li, nle (by omega) (by omega)]; omega)]
    congr 2
    funext b
    by_cases h : b = 3
    · subst h
      rw [ms_eq]
      funext x
      rw [if_neg (by omega)]
    · rw [ms_id h]
  | succ d ih =>
    intro n V k hk hn
    obtain ⟨n, rfl⟩ : ∃ n', n = n' + 1 := ⟨n - 1, by omega⟩
    unfold f_X7_row_65
    have e1 : nI k + 1 = nI (k + 1) := nI_1 k
    have e2 : (40 : Int32) * nI a + nI k = nI (40 * a + k) := by rw [li, pk_mul, nad]
    rw [if_neg (by rw [li, nle (by omega) (by omega)]; omega), e2, if_pos (ibt (by omega) (by omega)), e1, ih n _ (k + 1) (by omega) (by omega), ncl (by omega)]
    congr 2
    funext b
    by_cases h : b = 3
    · subst h
      rw [ms_eq, ms_eq]
      funext x
      rw [st_at]
      by_cases hx : x = 40 * a + k
      · subst hx
        rw [if_neg (by omega), if_pos ⟨rfl, rfl⟩, if_pos (by omega)]
      · by_cases h1 : 40 * a + k ≤ x ∧ x < 40 * a + 40
        · rw [if_pos h1, if_pos (by omega)]
        · rw [if_neg h1, if_neg (by omega), if_neg (by omega)]
    · rw [ms_id h, ms_id h, st_id h]
theorem s_row : S_row Inv := by
  intro a b c V U h
  unfold f_X6_row f_X7_row
  rw [isRow_eq, mRow_eq, Option.bind_some, Option.bind_some]
  by_cases h1 : 0 ≤ a ∧ a ≤ 7
  · rw [if_neg (fun q => ((b01z _).mp q) h1), if_neg (fun q => ((b01z _).mp q) h1)]
    dsimp only
    rw [isBetween_eq, show (0 : Int64) = (0 : Int32).toInt64 from rfl, show (2 : Int64) = (2 : Int32).toInt64 from rfl, inw, Option.bind_some, Option.bind_some]
    by_cases h2 : 0 ≤ b ∧ b ≤ 2
    · rw [if_neg (fun q => ((b01z _).mp q) h2), if_neg (fun q => ((b01z _).mp q) h2)]
      by_cases h3 : c ≤ 40
      · rw [if_pos h3, if_pos h3]
        by_cases h4 : 0 ≤ c
        · obtain ⟨r, r1, rfl⟩ := btw (n := 7) (by omega) h1
          obtain ⟨l, l1, rfl⟩ := btw (n := 2) (by omega) h2
          obtain ⟨n, n1, rfl⟩ := btw (n := 40) (by omega) ⟨h4, h3⟩
          rw [if_pos h4, if_pos h4, if_pos (ibt (by omega) (by omega)), if_pos (ibt (by omega) (by omega)), if_pos (ibt (by omega) (by omega)), ncl (by omega), become_eq, Option.bind_some]
          have e := mrow_loop r (nI n) (by omega) 40 4096 (st (st (st (st U 0 0 0) 0 1 0) 1 r (nI l)) 2 r (nI n)) 0 (by omega) (by omega)
          have e' : f_X7_row_65 4096 (nI r) (nI n) 0 (st (st (st (st U 0 0 0) 0 1 0) 1 r (nI l)) 2 r (nI n)) = _ := e
          rw [e']
          refine ⟨_, _, rfl, rfl, rfl, ?_⟩
          dsimp only
          refine inv_mk h ?_ ?_ ?_ ?_ ?_ ?_ ?_ ?_
          · intro r' hr'
            obtain ⟨g1, g2⟩ := h.1 r' hr'
            by_cases hrr : r' = r
            · subst hrr
              refine ⟨?_, Or.inr ⟨l, n, l1, n1, ?_, ?_, ?_, ?_⟩⟩
              · simp (disch := omega) only [st_same, st_ne1, st_ne2, ms_ne, ms_same]
              · simp (disch := omega) only [st_same, st_ne1, st_ne2, ms_ne, ms_same]
              · simp (disch := omega) only [st_same, st_ne1, st_ne2, ms_ne, ms_same]
              · simp (disch := omega) only [st_same, st_ne1, st_ne2, ms_ne, ms_same]
              · intro j hj
                simp (disch := omega) only [st_same, st_ne1, st_ne2, ms_ne, ms_same]
                rw [if_pos (by omega), if_pos (by omega)]
            · simp (disch := omega) only [st_same, st_ne1, st_ne2, ms_ne, ms_same]
              refine ⟨g1, ?_⟩
              rcases g2 with g2 | ⟨l', n', p1, p2, p3, p4, p5, p6⟩
              · exact Or.inl g2
              · refine Or.inr ⟨l', n', p1, p2, p3, p4, p5, fun j hj => ?_⟩
                rw [if_neg (by omega)]
                exact p6 j hj
          · refine ⟨?_, ?_⟩
            · simp (disch := omega) only [st_same, st_ne1, st_ne2, ms_ne, ms_same]
            · simp (disch := omega) only [st_same, st_ne1, st_ne2, ms_ne, ms_same]
              exact h.2.1.2
          · intro x q1 q2
            rw [st_id q1, ms_id (by omega), st_id (by omega), st_id (by omega)]
          · simp (disch := omega) only [st_same, st_ne1, st_ne2, ms_ne, ms_same]
          · intro x q
            rw [ms_id (by omega), st_id (by omega), st_id (by omega), st_id (by omega), st_id (by omega)]
          all_goals simp (disch := omega) only [st_same, st_ne1, st_ne2, ms_ne, ms_same]
        · rw [if_neg h4, if_neg h4]
          refine ⟨_, _, rfl, rfl, rfl, ?_⟩
          refine inv_f h (fun x q => ?_) (fun k q1 q2 => ?_) ?_
          · dsimp only
            rw [st_id q, st_id q, st_id q]
          · dsimp only
            simp (disch := omega) only [st_same, st_ne1, st_ne2]
          · dsimp only
            rw [st_same]
      · rw [if_neg h3, if_neg h3]
        exact ⟨_, _, rfl, rfl, rfl, inv_t h⟩
    · rw [if_pos ((b01z _).mpr h2), if_pos ((b01z _).mpr h2)]
      exact ⟨_, _, rfl, rfl, rfl, inv_t h⟩
  · rw [if_pos ((b01z _).mpr h1), if_pos ((b01z _).mpr h1)]
    exact ⟨_, _, rfl, rfl, rfl, inv_t h⟩

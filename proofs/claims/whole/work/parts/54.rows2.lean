/-! set, drop, copy, feed, trace. -/
theorem nm1 {l : Nat} (h : l < 2147483648) : ¬ nI l = -1 := fun q => absurd (q ▸ nI_pos' h) (by decide)
theorem isMissing_eq (z : Nat) (V : Mem) : f_X2_isMissing z V = some (if V z 1 = -1 then 1 else 0, V) := by
  unfold f_X2_isMissing
  by_cases h : V z 1 = -1
  · rw [if_pos h, if_pos h]
  · rw [if_neg h, if_neg h]
theorem holds_eq (z : Nat) (a b : Int32) (V : Mem) : f_X2_holds z a b V = some (if 0 ≤ a ∧ 0 ≤ b ∧ a ≤ V z 2 - b then 1 else 0, V) := by
  unfold f_X2_holds
  by_cases h1 : a < 0
  · rw [if_pos h1, if_neg (fun q => Int32.not_le.mpr h1 q.1)]
  · rw [if_neg h1]
    by_cases h2 : b < 0
    · rw [if_pos h2, if_neg (fun q => Int32.not_le.mpr h2 q.2.1)]
    · rw [if_neg h2]
      by_cases h3 : V z 2 - b < a
      · rw [if_pos h3, if_neg (fun q => Int32.not_le.mpr h3 q.2.2)]
      · rw [if_neg h3, if_pos ⟨Int32.not_lt.mp h1, Int32.not_lt.mp h2, Int32.not_lt.mp h3⟩]
theorem findingAt_eq (z : Nat) (a b : Int32) (V : Mem) : f_X2_findingAt z a b V = some (if V z 1 = -1 then 1 else if 0 ≤ a ∧ 0 ≤ b ∧ a ≤ V z 2 - b then 0 else 2, V) := by
  unfold f_X2_findingAt
  rw [isMissing_eq, Option.bind_some]
  by_cases h : V z 1 = -1
  · simp [h]
  · rw [if_pos ((b01z _).mpr h)]
    dsimp only
    rw [holds_eq, Option.bind_some]
    by_cases h2 : 0 ≤ a ∧ 0 ≤ b ∧ a ≤ V z 2 - b
    · simp [h, h2]
    · simp [h, h2]
/-- one item of a row is written on both sides -/
theorem inv_item {V U : Mem} (h : Inv V U) {r n j : Nat} (hr : r < 8) (hn : n ≤ 40) (hj : j < n) (hV : V (99 + 2 * r) 2 = nI n) {v : Int32} : Inv (st (st V (99 + 2 * r + 1) j v) 0 12 0) (st (st (st U 0 0 0) 0 1 0) 3 (40 * r + j) v) := by
  refine inv_mk h ?_ ?_ ?_ ?_ ?_ ?_ ?_ ?_
  · intro r' hr'
    obtain ⟨g1, g2⟩ := h.1 r' hr'
    simp (disch := omega) only [st_same, st_ne1, st_ne2]
    refine ⟨g1, ?_⟩
    rcases g2 with g2 | ⟨l', n', p1, p2, p3, p4, p5, p6⟩
    · exact Or.inl g2
    · refine Or.inr ⟨l', n', p1, p2, p3, p4, p5, fun k hk => ?_⟩
      by_cases e : r' = r ∧ k = j
      · obtain ⟨rfl, rfl⟩ := e
        rw [st_same, st_same]
      · rw [st_at, if_neg (by omega), st_at, if_neg (by omega)]
        simp (disch := omega) only [st_ne1]
        exact p6 k hk
  · refine ⟨?_, ?_⟩
    · simp (disch := omega) only [st_same, st_ne1, st_ne2]
    · simp (disch := omega) only [st_same, st_ne1, st_ne2]
      exact h.2.1.2
  · intro x q1 q2
    rw [st_id q1, st_id (by omega)]
  · simp (disch := omega) only [st_same, st_ne1, st_ne2]
  · intro x q
    rw [st_id (by omega), st_id (by omega), st_id (by omega)]
  all_goals simp (disch := omega) only [st_same, st_ne1, st_ne2]
theorem s_set : S_set Inv := by
  intro a b c V U h
  unfold f_X6_set f_X7_set
  rw [isRow_eq, mRow_eq, Option.bind_some, Option.bind_some]
  by_cases h1 : 0 ≤ a ∧ a ≤ 7
  · rw [if_neg (fun q => ((b01z _).mp q) h1), if_neg (fun q => ((b01z _).mp q) h1)]
    dsimp only
    obtain ⟨r, r1, rfl⟩ := btw (n := 7) (by omega) h1
    obtain ⟨g1, g2⟩ := h.1 r (by omega)
    have e8 : ib (nI r) 8 = true := ibt (by omega) (by omega)
    simp (disch := omega) only [if_pos e8, ncl, st_ne1]
    rw [findingAt_eq, Option.bind_some]
    dsimp only
    rcases g2 with g2 | ⟨l, n, p1, p2, p3, p4, p5, p6⟩
    · rw [g1, if_pos g2, g2, if_neg (by decide), if_neg (by decide)]
      refine ⟨_, _, rfl, rfl, rfl, ?_⟩
      refine inv_f h (fun x q => ?_) (fun k q1 q2 => ?_) ?_
      · dsimp only
        rw [st_id q, st_id q, st_id q]
      · dsimp only
        simp (disch := omega) only [st_same, st_ne1, st_ne2]
      · dsimp only
        rw [st_same]
    · have z1 : ¬ V (99 + 2 * r) 1 = -1 := by rw [g1, p3]; exact nm1 (by omega)
      rw [if_neg z1, p3, if_pos (nI_pos' (by omega)), p5, p4, show (0 : Int64) = (0 : Int32).toInt64 from rfl, inw, Option.bind_some]
      by_cases h2 : 0 ≤ b ∧ b ≤ nI n - 1
      · have hc : (if 0 ≤ b ∧ (0 : Int32) ≤ 1 ∧ b ≤ nI n - 1 then (0 : Int32) else 2) = 0 := if_pos ⟨h2.1, by decide, h2.2⟩
        rw [hc, if_pos rfl, if_neg (fun q => ((b01z _).mp q) h2)]
        have hn0 : 0 < n := by
          rcases Nat.eq_zero_or_pos n with e | e
          · subst e
            exact absurd (Int32.le_trans h2.1 h2.2) (by decide)
          · exact e
        have e1 : nI n - 1 = nI (n - 1) := nsb (b := 1) hn0
        rw [e1] at h2
        obtain ⟨j, j1, rfl⟩ := btw (by omega) h2
        have e40 : ib (nI j) 40 = true := ibt (by omega) (by omega)
        have e2 : (40 : Int32) * nI r + nI j = nI (40 * r + j) := by rw [li, pk_mul, nad]
        have e320 : ib (nI (40 * r + j)) 320 = true := ibt (by omega) (by omega)
        unfold f_X2_narrowed
        unfold f_X7_set_99_c3
        simp (disch := omega) only [if_pos e40, e2, if_pos e320, ncl, st_same, st_ne1, p3, g1]
        by_cases c0 : nI l = 0
        · simp only [if_pos c0, Option.bind_some]
          exact ⟨_, _, rfl, rfl, rfl, inv_item h (by omega) p2 (by omega) p4⟩
        · by_cases c1 : nI l = 1
          · simp only [if_neg c0, if_pos c1, Option.bind_some]
            exact ⟨_, _, rfl, rfl, rfl, inv_item h (by omega) p2 (by omega) p4⟩
          · simp only [if_neg c0, if_neg c1, Option.bind_some]
            exact ⟨_, _, rfl, rfl, rfl, inv_item h (by omega) p2 (by omega) p4⟩
      · have hc : (if 0 ≤ b ∧ (0 : Int32) ≤ 1 ∧ b ≤ nI n - 1 then (0 : Int32) else 2) = 2 := if_neg (fun q => h2 ⟨q.1, q.2.2⟩)
        rw [hc, if_neg (by decide), if_pos ((b01z _).mpr h2)]
        refine ⟨_, _, rfl, rfl, rfl, ?_⟩
        refine inv_f h (fun x q => ?_) (fun k q1 q2 => ?_) ?_
        · dsimp only
          rw [st_id q, st_id q, st_id q]
        · dsimp only
          simp (disch := omega) only [st_same, st_ne1, st_ne2]
        · dsimp only
          rw [st_same]
  · rw [if_pos ((b01z _).mpr h1), if_pos ((b01z _).mpr h1)]
    exact ⟨_, _, rfl, rfl, rfl, inv_t h⟩
theorem s_drop : S_drop Inv := by
  intro a V U h
  unfold f_X6_drop f_X7_drop
  rw [isRow_eq, mRow_eq, Option.bind_some, Option.bind_some]
  by_cases h1 : 0 ≤ a ∧ a ≤ 7
  · rw [if_neg (fun q => ((b01z _).mp q) h1), if_neg (fun q => ((b01z _).mp q) h1)]
    dsimp only
    obtain ⟨r, r1, rfl⟩ := btw (n := 7) (by omega) h1
    obtain ⟨g1, g2⟩ := h.1 r (by omega)
    have e8 : ib (nI r) 8 = true := ibt (by omega) (by omega)
    simp (disch := omega) only [if_pos e8, ncl, st_ne1]
    rw [isMissing_eq, Option.bind_some]
    dsimp only
    rcases g2 with g2 | ⟨l, n, p1, p2, p3, p4, p5, p6⟩
    · rw [g1, if_neg (fun q => ((b01z _).mp q) g2), g2, if_neg (by decide)]
      refine ⟨_, _, rfl, rfl, rfl, ?_⟩
      refine inv_f h (fun x q => ?_) (fun k q1 q2 => ?_) ?_
      · dsimp only
        rw [st_id q, st_id q, st_id q]
      · dsimp only
        simp (disch := omega) only [st_same, st_ne1, st_ne2]
      · dsimp only
        rw [st_same]
    · have z1 : ¬ V (99 + 2 * r) 1 = -1 := by rw [g1, p3]; exact nm1 (by omega)
      rw [if_pos ((b01z _).mpr z1), p3, if_pos (nI_pos' (by omega)), become_eq, Option.bind_some]
      refine ⟨_, _, rfl, rfl, ?_, ?_⟩
      · dsimp only
        rw [p4, p5]
      · dsimp only
        refine inv_mk h ?_ ?_ ?_ ?_ ?_ ?_ ?_ ?_
        · intro r' hr'
          obtain ⟨g3, g4⟩ := h.1 r' hr'
          by_cases hrr : r' = r
          · subst hrr
            refine ⟨?_, Or.inl ?_⟩
            · simp (disch := omega) only [st_same, st_ne1, st_ne2, ms_ne, ms_same]
            · simp (disch := omega) only [st_same, st_ne1, st_ne2, ms_ne, ms_same]
          · simp (disch := omega) only [st_same, st_ne1, st_ne2, ms_ne, ms_same]
            exact ⟨g3, g4⟩
        · refine ⟨?_, ?_⟩
          · simp (disch := omega) only [st_same, st_ne1, st_ne2, ms_ne, ms_same]
          · simp (disch := omega) only [st_same, st_ne1, st_ne2, ms_ne, ms_same]
            exact h.2.1.2
        · intro x q1 q2
          rw [st_id q1, ms_id (by omega), st_id (by omega), st_id (by omega)]
        · simp (disch := omega) only [st_same, st_ne1, st_ne2, ms_ne, ms_same]
        · intro x q
          rw [st_id (by omega), st_id (by omega), st_id (by omega)]
        all_goals simp (disch := omega) only [st_same, st_ne1, st_ne2, ms_ne, ms_same]
  · rw [if_pos ((b01z _).mpr h1), if_pos ((b01z _).mpr h1)]
    exact ⟨_, _, rfl, rfl, rfl, inv_t h⟩
theorem s_trace : S_trace Inv := by
  intro a V U h
  obtain ⟨n, n1, n2, n3, n4⟩ := h.2.2.2.1
  unfold f_X6_trace f_X7_trace
  simp (disch := omega) only [st_ne1, st_ne2]
  rw [n2, n3, show (0 : Int64) = (0 : Int32).toInt64 from rfl, inw, Option.bind_some]
  by_cases h1 : a < 0
  · rw [if_pos h1, if_pos ((b01z _).mpr (fun q => Int32.not_le.mpr h1 q.1))]
    exact ⟨_, _, rfl, rfl, rfl, inv_t h⟩
  · rw [if_neg h1]
    by_cases h2 : nI n ≤ a
    · rw [if_pos h2, if_pos ((b01z _).mpr ?_)]
      · exact ⟨_, _, rfl, rfl, rfl, inv_t h⟩
      · intro q
        rcases Nat.eq_zero_or_pos n with e | e
        · subst e
          exact absurd (Int32.le_trans q.1 q.2) (by decide)
        · have e1 : nI n - 1 = nI (n - 1) := nsb (b := 1) e
          have := Int32.le_trans h2 (e1 ▸ q.2)
          rw [nle (by omega) (by omega)] at this
          omega
    · rw [if_neg h2]
      rcases rng a n (by omega) with ⟨j, j1, rfl⟩ | q | q
      · have e1 : nI n - 1 = nI (n - 1) := nsb (b := 1) (by omega)
        rw [if_neg (fun q => ((b01z _).mp q) ⟨nI_pos' (by omega), by rw [e1, nle (by omega) (by omega)]; omega⟩), if_pos (ibt (by omega) (by omega)), if_pos (ibt (by omega) (by omega)), ncl (by omega)]
        refine ⟨_, _, rfl, rfl, ?_, inv_t h⟩
        dsimp only
        rw [st_ne1 (by omega)]
        exact n4 j j1
      · exact absurd q h1
      · exact absurd q h2

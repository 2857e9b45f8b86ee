theorem s_copy : S_copy Inv := by
  intro a i b j n V U h
  unfold f_X6_copy f_X7_copy
  rw [isRow_eq, mRow_eq, Option.bind_some, Option.bind_some]
  by_cases h1 : 0 ≤ a ∧ a ≤ 7
  · rw [if_neg (fun q => ((b01z _).mp q) h1), if_neg (fun q => ((b01z _).mp q) h1)]
    dsimp only
    rw [isRow_eq, mRow_eq, Option.bind_some, Option.bind_some]
    by_cases h2 : 0 ≤ b ∧ b ≤ 7
    · rw [if_neg (fun q => ((b01z _).mp q) h2), if_neg (fun q => ((b01z _).mp q) h2)]
      dsimp only
      obtain ⟨ra, ra1, rfl⟩ := btw (n := 7) (by omega) h1
      obtain ⟨rb, rb1, rfl⟩ := btw (n := 7) (by omega) h2
      obtain ⟨ga, ga2⟩ := h.1 ra (by omega)
      obtain ⟨gb, gb2⟩ := h.1 rb (by omega)
      have ea : ib (nI ra) 8 = true := ibt (by omega) (by omega)
      have eb : ib (nI rb) 8 = true := ibt (by omega) (by omega)
      have cra : (nI ra).toNatClampNeg = ra := ncl (by omega)
      have crb : (nI rb).toNatClampNeg = rb := ncl (by omega)
      have s1 : ∀ y, st (st U 0 0 0) 0 1 0 1 y = U 1 y := fun y => by simp (disch := omega) only [st_ne1]
      have s2 : ∀ y, st (st U 0 0 0) 0 1 0 2 y = U 2 y := fun y => by simp (disch := omega) only [st_ne1]
      simp only [if_pos ea, if_pos eb, cra, crb, s1, s2]
      rw [isMissing_eq, Option.bind_some]
      dsimp only
      rcases ga2 with ga2 | ⟨la, na, a1, a2, a3, a4, a5, a6⟩
      · rw [ga, if_neg (fun q => ((b01z _).mp q) ga2), ga2, if_pos (by decide)]
        exact ⟨_, _, rfl, rfl, rfl, inv_fnd h⟩
      · have za : ¬ V (99 + 2 * ra) 1 = -1 := by rw [ga, a3]; exact nm1 (by omega)
        rw [if_pos ((b01z _).mpr za), a3, if_neg (Int32.not_lt.mpr (nI_pos' (by omega))), isMissing_eq, Option.bind_some]
        dsimp only
        rcases gb2 with gb2 | ⟨lb, nb, b1, b2, b3, b4, b5, b6⟩
        · rw [if_neg (fun q => ((b01z _).mp q) (gb.trans gb2)), if_neg (by rw [gb2]; decide)]
          exact ⟨_, _, rfl, rfl, rfl, inv_fnd h⟩
        · have zb : ¬ V (99 + 2 * rb) 1 = -1 := by rw [gb, b3]; exact nm1 (by omega)
          have hll : (V (99 + 2 * ra) 1 = V (99 + 2 * rb) 1) ↔ nI la = nI lb := by rw [ga, gb, a3, b3]
          rw [if_pos ((b01z _).mpr zb), b3, if_pos (nI_pos' (by omega))]
          by_cases hl : nI la = nI lb
          · rw [if_pos (hll.mpr hl), if_pos hl, holds_eq, a4, a5, b5, Option.bind_some]
            by_cases hA : 0 ≤ i ∧ 0 ≤ n ∧ i ≤ nI na - n
            · rw [if_neg (fun q => ((b01z _).mp q) hA)]
              dsimp only
              rw [holds_eq, b4, Option.bind_some]
              by_cases hB : 0 ≤ j ∧ 0 ≤ n ∧ j ≤ nI nb - n
              · rw [if_neg (fun q => ((b01z _).mp q) hB)]
                obtain ⟨i, c, rfl, rfl, hic⟩ := (hold_iff a2).mp hA
                obtain ⟨j, c', rfl, ec, hjc⟩ := (hold_iff b2).mp hB
                have hcl : c < 2147483648 ∨ 2147483648 ≤ c := by omega
                have ecc : c' = c := by
                  have h3 := hA.2.2
                  have : c < 2147483648 := by omega
                  rw [neq (by omega) (by omega)] at ec
                  omega
                subst ecc
                rw [if_pos (cokn (by omega) (by omega) (by omega) (by omega) (by omega)), if_neg (Int32.not_lt.mpr hA.1), if_neg (Int32.not_lt.mpr hB.1), if_neg (Int32.not_lt.mpr hA.2.1), l64 (by omega) (by omega), l64 (by omega) (by omega), nI_l (by omega), nI_l (by omega)]
                rw [if_neg (show ¬ 0 < lg_cmp (lN (i + c')) (lN na) by rw [cmp_gt (by omega) (by omega)]; omega), if_pos ((cmp_le (by omega) (by omega)).mpr hjc), copy_any (by omega) (by omega) (by omega) (by omega), ncl (by omega), ncl (by omega), ncl (by omega)]
                refine ⟨_, _, rfl, rfl, rfl, ?_⟩
                dsimp only
                refine inv_mk h ?_ ?_ ?_ ?_ ?_ ?_ ?_ ?_
                · intro r' hr'
                  obtain ⟨g1, g2⟩ := h.1 r' hr'
                  simp (disch := omega) only [st_same, st_ne1, st_ne2, ms_ne, ms_same, cp_ne]
                  refine ⟨g1, ?_⟩
                  rcases g2 with g2 | ⟨l', n', p1, p2, p3, p4, p5, p6⟩
                  · exact Or.inl g2
                  · refine Or.inr ⟨l', n', p1, p2, p3, p4, p5, fun k hk => ?_⟩
                    have s3 : ∀ y, st (st U 0 0 0) 0 1 0 3 y = U 3 y := fun y => by simp (disch := omega) only [st_ne1]
                    rw [cp_at]
                    unfold gu
                    rw [s3, s3]
                    by_cases e : r' = rb ∧ j ≤ k ∧ k < j + c'
                    · obtain ⟨rfl, e1, e2⟩ := e
                      rw [if_pos ⟨rfl, e1, e2⟩, if_pos (by omega), a6 _ (by omega)]
                      congr 1
                      omega
                    · rw [if_neg (by omega), if_neg (by omega)]
                      exact p6 k hk
                · refine ⟨?_, ?_⟩
                  · simp (disch := omega) only [st_same, st_ne1, st_ne2, ms_ne, ms_same]
                  · simp (disch := omega) only [st_same, st_ne1, st_ne2, ms_ne, ms_same, cp_ne]
                    exact h.2.1.2
                · intro x q1 q2
                  rw [st_id q1, cp_id (by omega)]
                · simp (disch := omega) only [st_same, st_ne1, st_ne2, ms_ne, ms_same, cp_ne]
                · intro x q
                  rw [ms_id (by omega), st_id (by omega), st_id (by omega)]
                all_goals simp (disch := omega) only [st_same, st_ne1, st_ne2, ms_ne, ms_same]
              · rw [if_pos ((b01z _).mpr hB)]
                obtain ⟨i, c, rfl, rfl, hic⟩ := (hold_iff a2).mp hA
                have hM : ∀ X : Option (Int32 × Mem), (if j < 0 then f_X7_copy_121 (st (st U 0 0 0) 0 1 0) else if nI c < 0 then f_X7_copy_121 (st (st U 0 0 0) 0 1 0) else if 0 < lg_cmp ((nI i).toInt64 + (nI c).toInt64) (nI na).toInt64 then f_X7_copy_121 (st (st U 0 0 0) 0 1 0) else if lg_cmp (j.toInt64 + (nI c).toInt64) (nI nb).toInt64 ≤ 0 then X else f_X7_copy_121 (st (st U 0 0 0) 0 1 0)) = f_X7_copy_121 (st (st U 0 0 0) 0 1 0) := by
                  intro X
                  by_cases q1 : j < 0
                  · rw [if_pos q1]
                  · rw [if_neg q1, if_neg (Int32.not_lt.mpr hA.2.1), l64 (by omega) (by omega), nI_l (by omega), if_neg (fun q => by rw [cmp_gt (by omega) (by omega)] at q; omega)]
                    obtain ⟨j, j1, rfl⟩ := nI_of q1
                    rw [l64 (by omega) (by omega), nI_l (by omega), if_neg (fun q => by
                      rw [cmp_le (by omega) (by omega)] at q
                      exact hB ((hold_iff b2).mpr ⟨j, c, rfl, rfl, q⟩))]
                rw [if_neg (Int32.not_lt.mpr hA.1), hM]
                exact ⟨_, _, rfl, rfl, rfl, inv_fnd h⟩
            · rw [if_pos ((b01z _).mpr hA)]
              have hM : ∀ X : Option (Int32 × Mem), (if i < 0 then f_X7_copy_121 (st (st U 0 0 0) 0 1 0) else if j < 0 then f_X7_copy_121 (st (st U 0 0 0) 0 1 0) else if n < 0 then f_X7_copy_121 (st (st U 0 0 0) 0 1 0) else if 0 < lg_cmp (i.toInt64 + n.toInt64) (nI na).toInt64 then f_X7_copy_121 (st (st U 0 0 0) 0 1 0) else X) = f_X7_copy_121 (st (st U 0 0 0) 0 1 0) := by
                intro X
                by_cases q1 : i < 0
                · rw [if_pos q1]
                · rw [if_neg q1]
                  by_cases q2 : j < 0
                  · rw [if_pos q2]
                  · rw [if_neg q2]
                    by_cases q3 : n < 0
                    · rw [if_pos q3]
                    · rw [if_neg q3]
                      obtain ⟨i, i1, rfl⟩ := nI_of q1
                      obtain ⟨n, n1, rfl⟩ := nI_of q3
                      rw [l64 (by omega) (by omega), nI_l (by omega), if_pos ((cmp_gt (by omega) (by omega)).mpr (Nat.lt_of_not_le (fun q => hA ((hold_iff a2).mpr ⟨i, n, rfl, rfl, q⟩))))]
              rw [hM]
              exact ⟨_, _, rfl, rfl, rfl, inv_fnd h⟩
          · rw [if_neg (fun q => hl (hll.mp q)), if_neg hl]
            exact ⟨_, _, rfl, rfl, rfl, inv_fnd h⟩
    · rw [if_pos ((b01z _).mpr h2), if_pos ((b01z _).mpr h2)]
      exact ⟨_, _, rfl, rfl, rfl, inv_t h⟩
  · rw [if_pos ((b01z _).mpr h1), if_pos ((b01z _).mpr h1)]
    exact ⟨_, _, rfl, rfl, rfl, inv_t h⟩
theorem s_feed : S_feed Inv := by
  intro a V U h
  obtain ⟨n, n1, n2, n3, n4⟩ := h.2.2.1
  unfold f_X6_feed f_X7_feed
  rw [isBetween_eq, show (0 : Int64) = (0 : Int32).toInt64 from rfl, show (255 : Int64) = (255 : Int32).toInt64 from rfl, inw, Option.bind_some, Option.bind_some]
  by_cases h1 : 0 ≤ a ∧ a ≤ 255
  · rw [if_neg (fun q => ((b01z _).mp q) h1), if_neg (fun q => ((b01z _).mp q) h1)]
    dsimp only
    obtain ⟨b, b1, rfl⟩ := btw (n := 255) (by omega) h1
    have s11 : st U 0 0 0 0 11 = U 0 11 := st_ne2 (by omega)
    simp only [s11, n2, n3]
    by_cases hn : n = 130
    · subst hn
      rw [if_neg (by decide), if_pos (by decide)]
      exact ⟨_, _, rfl, rfl, rfl, inv_t h⟩
    · have e1 : ib (nI n) 130 = true := ibt (by omega) (by omega)
      have l1 : nI n < 130 := by rw [li, nlt (by omega) (by omega)]; omega
      have l2 : ¬ nI n = 130 := by rw [li, neq (by omega) (by omega)]; omega
      have l3 : (nI n).toNatClampNeg = n := ncl (by omega)
      simp only [if_pos l1, if_neg l2, if_pos e1, l3]
      have t1 : st V 3 n (nI b) 2 1 = nI n := by rw [st_ne1 (by omega)]; exact n2
      have t2 : st (st U 0 0 0) 8 n (nI b) 0 11 = nI n := by rw [st_ne1 (by omega), st_ne2 (by omega)]; exact n3
      rw [t1, t2]
      refine ⟨_, _, rfl, rfl, ?_, ?_⟩
      · dsimp only
        rw [st_same, st_same]
      · dsimp only
        obtain ⟨g1, g2, g3, g4, ⟨S, A, g5⟩, g6, g7⟩ := h
        have e2 : nI n + 1 = nI (n + 1) := nI_1 n
        rw [e2]
        have hV : ∀ y, y ≠ 2 → y ≠ 3 → st (st V 3 n (nI b)) 2 1 (nI (n + 1)) y = V y := fun y q1 q2 => by rw [st_id q1, st_id q2]
        have hU : ∀ y, y ≠ 0 → y ≠ 8 → st (st (st U 0 0 0) 8 n (nI b)) 0 11 (nI (n + 1)) y = U y := fun y q1 q2 => by rw [st_id q1, st_id q2, st_id q1]
        have hU0 : ∀ k, k ≠ 0 → k ≠ 11 → st (st (st U 0 0 0) 8 n (nI b)) 0 11 (nI (n + 1)) 0 k = U 0 k := fun k q1 q2 => by rw [st_ne2 q2, st_ne1 (by omega), st_ne2 q1]
        refine ⟨g1.cg (fun y q1 q2 => hV y (by omega) (by omega)) (hU 1 (by omega) (by omega)) (hU 2 (by omega) (by omega)) (hU 3 (by omega) (by omega)), g2.cg (by rw [hV 0 (by omega) (by omega)]) (by rw [hV 0 (by omega) (by omega)]) (hU0 1 (by omega) (by omega)) (hU0 18 (by omega) (by omega)), ?_, g4.cg (by rw [hV 0 (by omega) (by omega)]) (hV 98 (by omega) (by omega)) (hU0 29 (by omega) (by omega)) (hU 16 (by omega) (by omega)), ⟨S, A, g5.cg (fun i q1 q2 => hV i (by omega) (by omega)) (hV 67 (by omega) (by omega)) (fun i hi => hV (69 + i) (by omega) (by omega)) (hU 4 (by omega) (by omega)) (hU0 9 (by omega) (by omega)) (hU 7 (by omega) (by omega))⟩, g6.cg (fun i q1 q2 => hV i (by omega) (by omega)) (hU 14 (by omega) (by omega)) (hU 15 (by omega) (by omega)), ?_⟩
        · refine ⟨n + 1, by omega, st_same, st_same, fun j hj => ?_⟩
          rw [st_ne1 (show (3 : Nat) ≠ 2 by omega), st_ne1 (show (8 : Nat) ≠ 0 by omega)]
          by_cases e : j = n
          · subst e
            rw [st_same, st_same]
            exact ⟨rfl, b, by omega, rfl⟩
          · rw [st_ne2 e, st_ne2 e, st_ne1 (by omega)]
            exact n4 j (by omega)
        · intro y hy
          rw [hV 41 (by omega) (by omega)]
          exact g7 y hy
  · rw [if_pos ((b01z _).mpr h1), if_pos ((b01z _).mpr h1)]
    exact ⟨_, _, rfl, rfl, rfl, inv_t h⟩

/-! undo, image, restore. -/
theorem inv_new {V U V' U' : Mem} {S' : Sh} {A' : List Act} (h : Inv V U) (hSS : SS V' U' S' A') (hV : ∀ i, i ≤ 3 ∨ 35 ≤ i → i < 67 ∨ i = 68 ∨ 92 < i → V' i = V i) (hU : ∀ i, i ≠ 0 → i ≠ 4 → i ≠ 7 → U' i = U i) (hU0 : ∀ k, k ≠ 0 → k ≠ 9 → U' 0 k = U 0 k) : Inv V' U' := by
  obtain ⟨g1, g2, g3, g4, -, g6, g7⟩ := h
  have v0 : V' 0 = V 0 := hV 0 (by omega) (by omega)
  exact ⟨g1.cg (fun i q1 q2 => hV i (by omega) (by omega)) (hU 1 (by omega) (by omega) (by omega)) (hU 2 (by omega) (by omega) (by omega)) (hU 3 (by omega) (by omega) (by omega)), g2.cg (by rw [v0]) (by rw [v0]) (hU0 1 (by omega) (by omega)) (hU0 18 (by omega) (by omega)), g3.cg (by rw [hV 2 (by omega) (by omega)]) (hV 3 (by omega) (by omega)) (hU0 11 (by omega) (by omega)) (hU 8 (by omega) (by omega) (by omega)), g4.cg (by rw [v0]) (hV 98 (by omega) (by omega)) (hU0 29 (by omega) (by omega)) (hU 16 (by omega) (by omega) (by omega)), ⟨S', A', hSS⟩, g6.cg (fun i q1 q2 => hV i (by omega) (by omega)) (hU 14 (by omega) (by omega) (by omega)) (hU 15 (by omega) (by omega) (by omega)), fun x hx => by rw [hV 41 (by omega) (by omega)]; exact g7 x hx⟩
theorem undo_x {V : Mem} {S : Sh} {A : List Act} {a : Act} (hok : okS S) (hX : ShX V 4 S) (hC : CI V 4 S.2) (hA : AV V (a :: A)) (hv : vA S a) : ∃ V', f_X0_undoLatest 67 4 V = some V' ∧ ShX V' 4 (und S a) ∧ CI V' 4 (und S a).2 ∧ AV V' A ∧ (∀ i, i ≤ 3 ∨ 35 ≤ i → i ≠ 67 → V' i = V i) := by
  have h24 := hok.2.2.1
  obtain ⟨h1, h2, o, h3, h4, h5⟩ := hA
  rw [List.length_cons] at h1 h2
  have hr := h5 0 (by rw [List.length_cons]; omega)
  have e1 : nI (A.length + 1) - 1 = nI A.length := nsb (a := A.length + 1) (b := 1) (by omega)
  unfold f_X0_undoLatest
  rw [h2, e1, if_neg (by rw [li, neq (by omega) (by omega)]; omega)]
  generalize hW : st V 67 2 (nI A.length) = W
  have w0 : ∀ i, i ≠ 67 → W i = V i := fun i hi => by rw [← hW, st_id hi]
  have w1 : W 67 1 = nI o := by rw [← hW, st_ne2 (by omega)]; exact h4
  have w2 : W 67 2 = nI A.length := by rw [← hW, st_same]
  have hm : (o + A.length) % 24 < 24 := Nat.mod_lt _ (by omega)
  have e : nI o + nI A.length - (nI o + nI A.length) / (24 : Int32) * (24 : Int32) = nI ((o + A.length) % 24) := by
    rw [nad, show (24 : Int32) = nI 24 from rfl, remI (by omega) (by omega) (by omega)]
  have hr2 : actRow W (67 + 1 + 1 + (o + A.length) % 24) a := by
    unfold actRow at hr ⊢
    rw [w0 _ (by omega), show 67 + 1 + 1 + (o + A.length) % 24 = 69 + (o + ((a :: A).length - 1 - 0)) % 24 by rw [List.length_cons]; omega]
    exact hr
  have hXW : ShX W 4 S := hX.cg (by rw [w0 4 (by omega)]) (fun k _ _ => w0 (4 + k) (by omega))
  have hCW : CI W 4 S.2 := hC.cg h24 (by rw [w0 4 (by omega)]) (fun k _ => w0 (4 + 5 + 1 + k) (by omega))
  have hAW : AV W A := by
    refine ⟨by omega, w2, o, h3, w1, fun k hk => ?_⟩
    have h6 := h5 (k + 1) (by rw [List.length_cons]; omega)
    unfold actRow at h6 ⊢
    rw [w0 _ (by omega), show (o + (A.length - 1 - k)) % 24 = (o + ((a :: A).length - 1 - (k + 1))) % 24 by rw [List.length_cons]; congr 1; omega]
    rw [List.getD_cons_succ] at h6
    exact h6
  obtain ⟨r0, r1, r2, r3, r4, r5⟩ := hr2
  rw [w1, w2, e, ncl (by omega), if_pos (ibt (by omega) (by omega)), if_pos (by decide), if_pos (by decide)]
  have c0 : (Int32.toNatClampNeg 0) = 0 := by decide
  have c1 : (Int32.toNatClampNeg 1) = 1 := by decide
  have c2 : (Int32.toNatClampNeg 2) = 2 := by decide
  have c3 : (Int32.toNatClampNeg 3) = 3 := by decide
  have c4 : (Int32.toNatClampNeg 4) = 4 := by decide
  have c5 : (Int32.toNatClampNeg 5) = 5 := by decide
  have b2 : ib 2 6 = true := by decide
  have b3 : ib 3 6 = true := by decide
  have b4 : ib 4 6 = true := by decide
  have b5 : ib 5 6 = true := by decide
  rw [c0, c1, c2, c3, c4, c5, r0, r1, r2, r3, r4, r5]
  obtain ⟨m, hmW⟩ := id hCW
  unfold vA at hv
  unfold und
  by_cases q0 : a.1 = 0
  · rw [if_pos q0] at hv ⊢
    rw [if_pos (by rw [q0]; rfl)]
    obtain ⟨V', x1, x2, x3, x4⟩ := rmv_x hok hXW hmW hv.1
    rw [x1, Option.bind_some]
    exact ⟨V', rfl, x2, x3, x4.av hAW, fun i i1 i2 => by rw [x4.1 i (by omega) (by omega) (by omega) (by omega), w0 i i2]⟩
  have a5 : a.1 ≤ 4 := by
    by_cases h : a.1 ≤ 4
    · exact h
    · simp (disch := omega) only [if_neg] at hv
      omega
  rw [if_neg q0] at hv ⊢
  rw [if_neg (show ¬ nI a.1 = 0 by rw [li, neq (by omega) (by omega)]; exact q0)]
  by_cases q1 : a.1 = 1
  · rw [if_pos q1] at hv ⊢
    rw [if_pos (by rw [q1]; rfl), if_pos b3, if_pos b4, if_pos b5]
    obtain ⟨V', x1, x2, x3, x4⟩ := ins_x hok hXW hmW hv.1 hv.2.1 hv.2.2
    rw [x1, Option.bind_some]
    exact ⟨V', rfl, x2, x3, x4.av hAW, fun i i1 i2 => by rw [x4.1 i (by omega) (by omega) (by omega) (by omega), w0 i i2]⟩
  rw [if_neg q1] at hv ⊢
  rw [if_neg (show ¬ nI a.1 = 1 by rw [li, neq (by omega) (by omega)]; exact q1)]
  by_cases q2 : a.1 = 2
  · rw [if_pos q2] at hv ⊢
    rw [if_pos (by rw [q2]; rfl), if_pos b2]
    obtain ⟨V', x1, x2, x3, x4⟩ := shift_x hok hXW hmW hv.1 hv.2
    rw [x1, Option.bind_some]
    exact ⟨V', rfl, x2, x3, x4.av hAW, fun i i1 i2 => by rw [x4.1 i (by omega) (by omega) (by omega) (by omega), w0 i i2]⟩
  rw [if_neg q2] at hv ⊢
  rw [if_neg (show ¬ nI a.1 = 2 by rw [li, neq (by omega) (by omega)]; exact q2)]
  by_cases q3 : a.1 = 3
  · rw [if_pos q3] at hv ⊢
    rw [if_pos (by rw [q3]; rfl), if_pos b3, if_pos b4, if_pos b5]
    obtain ⟨V', x1, x2, x3, x4⟩ := alt_x (q := a.2.2.2) hok hXW hmW hv.1
    rw [x1, Option.bind_some]
    exact ⟨V', rfl, x2, x3, x4.av hAW, fun i i1 i2 => by rw [x4.1 i (by omega) (by omega) (by omega) (by omega), w0 i i2]⟩
  rw [if_neg q3] at hv ⊢
  rw [if_neg (show ¬ nI a.1 = 3 by rw [li, neq (by omega) (by omega)]; exact q3)]
  rw [if_pos b2, if_pos (ibt hv.2.1 (by omega)), ncl (by omega)]
  exact ⟨_, rfl, sty_x hok hXW hv.2.1, hCW.cg h24 (by rw [st_ne1 (by omega)]) (fun k _ => st_id (by omega)), hAW.cg (st_id (by omega)) (fun i hi => st_id (by omega)), fun i i1 i2 => by rw [st_id (by omega), w0 i i2]⟩
theorem undo_loop {U : Mem} {a : Nat} (ha : a < 24) (h9 : U 0 9 = nI a) : ∀ (d n k : Nat), k + d = 76 → d < n → f_X7_undo_27 n (nI k) (cp U 7 4 (76 * a) 0 k) = some (nI a, cp U 7 4 (76 * a) 0 76) := by
  have z9 : ∀ k, cp U 7 4 (76 * a) 0 k 0 9 = nI a := fun k => by rw [cp_ne (by omega)]; exact h9
  intro d
  induction d with
  | zero =>
    intro n k hk hn
    obtain ⟨n, rfl⟩ : ∃ n', n = n' + 1 := ⟨n - 1, by omega⟩
    have e : k = 76 := by omega
    subst e
    rw [f_X7_undo_27, if_pos (by decide), z9]
  | succ d ih =>
    intro n k hk hn
    obtain ⟨n, rfl⟩ : ∃ n', n = n' + 1 := ⟨n - 1, by omega⟩
    have e1 : nI k + 1 = nI (k + 1) := nI_1 k
    have e2 : (76 : Int32) * nI a + nI k = nI (76 * a + k) := by rw [li, pk_mul, nad]
    have hs := cp_step (V := U) (s := 7) (d := 4) (sp := 76 * a) (dp := 0) (k := k) (Or.inl (by omega))
    rw [Nat.zero_add] at hs
    rw [f_X7_undo_27, if_neg (by rw [li, nle (by omega) (by omega)]; omega), z9, e2, if_pos (ibt (by omega) (by omega)), if_pos (ibt (by omega) (by omega)), ncl (by omega), ncl (by omega), e1, hs]
    exact ih n (k + 1) (by omega) (by omega)
theorem s_undo : S_undo Inv := by
  intro V U h
  obtain ⟨S, A, hSS⟩ := h.2.2.2.2.1
  obtain ⟨hok, hX, hC, hM, hAV, h9, hAW⟩ := id hSS
  have h24 := hok.2.2.1
  unfold f_X6_undo f_X7_undo
  rw [hAV.2.1, st_ne2 (show (9 : Nat) ≠ 0 by omega), h9]
  cases A with
  | nil =>
    rw [if_pos (by rfl), if_pos (by rfl)]
    exact ⟨_, _, rfl, rfl, rfl, inv_t h⟩
  | cons a A =>
    have h25 := hAV.1
    rw [List.length_cons] at h25 h9 ⊢
    have e1 : nI (A.length + 1) - 1 = nI A.length := nsb (a := A.length + 1) (b := 1) (by omega)
    rw [if_neg (by rw [li, neq (by omega) (by omega)]; omega), if_neg (by rw [li, neq (by omega) (by omega)]; omega), e1]
    obtain ⟨V', x1, x2, x3, x4, x5⟩ := undo_x hok hX hC hAV hAW.1
    have hl := undo_loop (U := st (st U 0 0 0) 0 9 (nI A.length)) (a := A.length) (by omega) st_same 76 4096 0 (by omega) (by omega)
    rw [cp_zero] at hl
    have hl' : f_X7_undo_27 4096 0 (st (st U 0 0 0) 0 9 (nI A.length)) = _ := hl
    rw [x1, Option.bind_some, hl']
    have hok2 := ok_und hok hAW.1
    refine ⟨_, _, rfl, rfl, ?_, inv_new h (S' := und S a) (A' := A) ⟨hok2, x2, x3, ?_, x4, ?_, ?_⟩ (fun i q1 q2 => x5 i q1 (by omega)) (fun i q1 q2 q3 => ?_) (fun k q1 q2 => ?_)⟩
    · exact x4.2.1
    · dsimp only
      refine ShM_cg hok2.2.2.1 (fun j hj => ?_) hAW.2.1
      rw [cp_in (by omega), st_ne1 (by omega), st_ne1 (by omega)]
      exact congrArg (U 7) (by omega)
    · dsimp only
      rw [cp_ne (by omega), st_same]
    · dsimp only
      refine hAW.2.2.cg ?_
      rw [cp_id (by omega), st_id (by omega), st_id (by omega)]
    · dsimp only
      rw [cp_id q2, st_id q1, st_id q1]
    · dsimp only
      rw [cp_ne (by omega), st_ne2 q2, st_ne2 q1]
theorem sbecome_x {V : Mem} {z r : Nat} {S : Sh} (hzr : z + 31 ≤ r ∨ r + 31 ≤ z) (h24 : S.2.length ≤ 24) (hS : ShX V r S) : ∃ V', f_X3_become z r V = some V' ∧ ShX V' z S ∧ V' z 6 = 0 ∧ (∀ a, a < z ∨ z + 4 < a → V' a = V a) ∧ (∀ k, k ≠ 4 → k ≠ 6 → V' z k = V z k) := by
  have c0 : (Int32.toNatClampNeg 0) = 0 := by decide
  have c3 : (Int32.toNatClampNeg 3) = 3 := by decide
  have cn : (nI S.2.length).toNatClampNeg = S.2.length := ncl (by omega)
  have ck3 : cok 0 0 3 3 3 = true := by decide
  have ckn : cok 0 0 (nI S.2.length) 24 24 = true := cokn (a := 0) (b := 0) (by omega) (by omega) (by omega) (by omega) (by omega)
  have hS1 := hS.1
  unfold f_X3_become
  simp (disch := omega) only [cp_ne, hS1, c0, c3, cn, if_pos ck3, if_pos ckn]
  refine ⟨_, rfl, ⟨?_, fun l hl => ?_, fun k hk => ?_⟩, ?_, fun a ha => ?_, fun k q1 q2 => ?_⟩
  · simp (disch := omega) only [st_ne2, st_same]
  · simp (disch := omega) only [st_ne1, cp_ne, cp_in]
    rw [Nat.zero_add, Nat.sub_zero]
    exact hS.2.1 l hl
  · simp (disch := omega) only [st_ne1, cp_ne, cp_in]
    rw [Nat.zero_add, Nat.sub_zero]
    exact hS.2.2 k hk
  · exact st_same
  · simp (disch := omega) only [st_id, cp_id]
  · simp (disch := omega) only [st_ne2, cp_ne]
theorem image_loop {U : Mem} {a : Nat} (ha : a < 2) : ∀ (d n k : Nat), k + d = 76 → d < n → f_X7_image_30 n (nI a) (nI k) (cp U 4 15 0 (76 * a) k) = some (1, st (cp U 4 15 0 (76 * a) 76) 14 a 1) := by
  intro d
  induction d with
  | zero =>
    intro n k hk hn
    obtain ⟨n, rfl⟩ : ∃ n', n = n' + 1 := ⟨n - 1, by omega⟩
    have e : k = 76 := by omega
    subst e
    rw [f_X7_image_30, if_pos (by decide), if_pos (ibt ha (by omega)), ncl (by omega)]
    rfl
  | succ d ih =>
    intro n k hk hn
    obtain ⟨n, rfl⟩ : ∃ n', n = n' + 1 := ⟨n - 1, by omega⟩
    have e1 : nI k + 1 = nI (k + 1) := nI_1 k
    have e2 : (76 : Int32) * nI a + nI k = nI (76 * a + k) := by rw [li, pk_mul, nad]
    have hs := cp_step (V := U) (s := 4) (d := 15) (sp := 0) (dp := 76 * a) (k := k) (Or.inl (by omega))
    rw [Nat.zero_add] at hs
    rw [f_X7_image_30, if_neg (by rw [li, nle (by omega) (by omega)]; omega), e2, if_pos (ibt (by omega) (by omega)), if_pos (ibt (by omega) (by omega)), ncl (by omega), ncl (by omega), e1, hs]
    exact ih n (k + 1) (by omega) (by omega)
theorem restore_loop {U : Mem} {a : Nat} (ha : a < 2) : ∀ (d n k : Nat), k + d = 76 → d < n → f_X7_restore_32 n (nI a) (nI k) (cp U 15 4 (76 * a) 0 k) = some (1, st (cp U 15 4 (76 * a) 0 76) 0 9 0) := by
  intro d
  induction d with
  | zero =>
    intro n k hk hn
    obtain ⟨n, rfl⟩ : ∃ n', n = n' + 1 := ⟨n - 1, by omega⟩
    have e : k = 76 := by omega
    subst e
    rw [f_X7_restore_32, if_pos (by decide)]
  | succ d ih =>
    intro n k hk hn
    obtain ⟨n, rfl⟩ : ∃ n', n = n' + 1 := ⟨n - 1, by omega⟩
    have e1 : nI k + 1 = nI (k + 1) := nI_1 k
    have e2 : (76 : Int32) * nI a + nI k = nI (76 * a + k) := by rw [li, pk_mul, nad]
    have hs := cp_step (V := U) (s := 15) (d := 4) (sp := 76 * a) (dp := 0) (k := k) (Or.inl (by omega))
    rw [Nat.zero_add] at hs
    rw [f_X7_restore_32, if_neg (by rw [li, nle (by omega) (by omega)]; omega), e2, if_pos (ibt (by omega) (by omega)), if_pos (ibt (by omega) (by omega)), ncl (by omega), ncl (by omega), e1, hs]
    exact ih n (k + 1) (by omega) (by omega)
theorem s_image : S_image Inv := by
  intro a V U h
  obtain ⟨S, A, hSS⟩ := h.2.2.2.2.1
  obtain ⟨hok, hX, hC, hM, hAV, h9, hAW⟩ := id hSS
  have h24 := hok.2.2.1
  have hM' : ShM (st U 0 0 0 4) S := by rw [st_id (by omega)]; exact hM
  unfold f_X6_image f_X7_image
  rw [isBetween_eq, show (0 : Int64) = (0 : Int32).toInt64 from rfl, show (1 : Int64) = (1 : Int32).toInt64 from rfl, inw, Option.bind_some, Option.bind_some]
  by_cases hp : 0 ≤ a ∧ a ≤ 1
  · rw [if_neg (fun q => ((b01z _).mp q) hp), if_neg (fun q => ((b01z _).mp q) hp)]
    dsimp only
    rw [none_x hX.1 (by omega), there_m hM'.1 (by omega), Option.bind_some, Option.bind_some]
    by_cases hn : S.2.length = 0
    · rw [if_neg (fun q => ((b01z _).mp q) hn), if_pos ((b01z _).mpr (by omega))]
      exact ⟨_, _, rfl, rfl, rfl, inv_t h⟩
    · rw [if_pos ((b01z _).mpr hn), if_neg (fun q => ((b01z _).mp q) (by omega))]
      obtain ⟨k, hk, rfl⟩ := btw (n := 1) (by omega) hp
      obtain ⟨V', x1, x2, x3, x4, x5⟩ := sbecome_x (V := V) (z := 115 + 31 * k) (r := 4) (by omega) h24 hX
      have hl := image_loop (U := st U 0 0 0) (a := k) (by omega) 76 4096 0 (by omega) (by omega)
      rw [cp_zero] at hl
      have hl' : f_X7_image_30 4096 (nI k) 0 (st U 0 0 0) = _ := hl
      dsimp only
      rw [if_pos (ibt (by omega) (by omega)), ncl (by omega), x1, Option.bind_some, hl']
      refine ⟨_, _, rfl, rfl, rfl, ?_⟩
      obtain ⟨g1, g2, g3, g4, g5, g6, g7⟩ := h
      dsimp only
      have hU : ∀ i, i ≠ 0 → i ≠ 14 → i ≠ 15 → st (cp (st U 0 0 0) 4 15 0 (76 * k) 76) 14 k 1 i = U i := fun i q1 q2 q3 => by rw [st_id q2, cp_id q3, st_id q1]
      have hU0 : ∀ j, j ≠ 0 → st (cp (st U 0 0 0) 4 15 0 (76 * k) 76) 14 k 1 0 j = U 0 j := fun j q1 => by rw [st_ne1 (by omega), cp_ne (by omega), st_ne2 q1]
      have v0 : V' 0 = V 0 := x4 0 (by omega)
      refine ⟨g1.cg (fun i q1 q2 => x4 i (by omega)) (hU 1 (by omega) (by omega) (by omega)) (hU 2 (by omega) (by omega) (by omega)) (hU 3 (by omega) (by omega) (by omega)), g2.cg (by rw [v0]) (by rw [v0]) (hU0 1 (by omega)) (hU0 18 (by omega)), g3.cg (by rw [x4 2 (by omega)]) (x4 3 (by omega)) (hU0 11 (by omega)) (hU 8 (by omega) (by omega) (by omega)), g4.cg (by rw [v0]) (x4 98 (by omega)) (hU0 29 (by omega)) (hU 16 (by omega) (by omega) (by omega)), ⟨S, A, hSS.cg (fun i q1 q2 => x4 i (by omega)) (x4 67 (by omega)) (fun i hi => x4 (69 + i) (by omega)) (hU 4 (by omega) (by omega) (by omega)) (hU0 9 (by omega)) (hU 7 (by omega) (by omega) (by omega))⟩, fun k2 hk2 => ?_, fun x hx => by rw [x4 41 (by omega)]; exact g7 x hx⟩
      by_cases c : k2 = k
      · subst c
        refine Or.inr ⟨S, hok, by omega, x2, ShM_cg h24 (fun j hj => ?_) hM', st_same⟩
        rw [st_ne1 (by omega), cp_in (by omega)]
        congr 1
        omega
      · rcases g6 k2 hk2 with h0 | ⟨T, t1, t2, t3, t4, t5⟩
        · refine Or.inl ?_
          rw [x4 _ (by omega), st_ne2 c, cp_ne (by omega), st_ne1 (by omega)]
          exact h0
        · refine Or.inr ⟨T, t1, t2, t3.cg (by rw [x4 _ (by omega)]) (fun j q1 q2 => x4 _ (by omega)), ShM_cg t1.2.2.1 (fun j hj => ?_) t4, ?_⟩
          · rw [st_ne1 (by omega), cp_out (by omega), st_ne1 (by omega)]
          · rw [st_ne2 c, cp_ne (by omega), st_ne1 (by omega)]
            exact t5
  · rw [if_pos ((b01z _).mpr hp), if_pos ((b01z _).mpr hp)]
    exact ⟨_, _, rfl, rfl, rfl, inv_t h⟩
theorem ci_new {V V' : Mem} {P Q : List Pg} (hC : CI V 4 P) (h6 : V' 4 6 = 0) (h10 : V' 10 = V 10) : CI V' 4 Q := by
  obtain ⟨m, h1, h2, h3⟩ := hC
  refine ⟨0, by omega, h6, fun p hp x hx => ?_⟩
  have e : p = 0 := by omega
  subst e
  show V' 10 x = _
  rw [h10]
  exact h3 0 (by omega) x hx
theorem s_restore : S_restore Inv := by
  intro a V U h
  obtain ⟨S, A, hSS⟩ := h.2.2.2.2.1
  obtain ⟨hok, hX, hC, hM, hAV, h9, hAW⟩ := id hSS
  unfold f_X6_restore f_X7_restore
  rw [isBetween_eq, show (0 : Int64) = (0 : Int32).toInt64 from rfl, show (1 : Int64) = (1 : Int32).toInt64 from rfl, inw, Option.bind_some, Option.bind_some]
  by_cases hp : 0 ≤ a ∧ a ≤ 1
  · rw [if_neg (fun q => ((b01z _).mp q) hp), if_neg (fun q => ((b01z _).mp q) hp)]
    obtain ⟨k, hk, rfl⟩ := btw (n := 1) (by omega) hp
    have i2 : ib (nI k) 2 = true := ibt (by omega) (by omega)
    have ck : (nI k).toNatClampNeg = k := ncl (by omega)
    have u14 : st U 0 0 0 14 k = U 14 k := st_ne1 (by omega)
    simp only [if_pos i2, ck, u14]
    rcases h.2.2.2.2.2.1 k (by omega) with ⟨h0, h1⟩ | ⟨T, t1, t2, t3, t4, t5⟩
    · rw [none_x (n := 0) h0 (by omega), Option.bind_some, if_neg (fun q => ((b01z (0 = 0)).mp q) rfl), if_pos h1]
      exact ⟨_, _, rfl, rfl, rfl, inv_t h⟩
    · have h24 := t1.2.2.1
      rw [none_x t3.1 (by omega), Option.bind_some, if_pos ((b01z (T.2.length = 0)).mpr (by omega)), if_neg (show ¬ U 14 k = 0 by rw [t5]; decide)]
      obtain ⟨V', x1, x2, x3, x4, x5⟩ := sbecome_x (V := V) (z := 4) (r := 115 + 31 * k) (by omega) h24 t3
      have hl := restore_loop (U := st U 0 0 0) (a := k) (by omega) 76 4096 0 (by omega) (by omega)
      rw [cp_zero] at hl
      have hl' : f_X7_restore_32 4096 (nI k) 0 (st U 0 0 0) = _ := hl
      dsimp only
      rw [x1, Option.bind_some, f_X0_forgetAll, Option.bind_some, hl']
      refine ⟨_, _, rfl, rfl, rfl, ?_⟩
      dsimp only
      refine inv_new h (S' := T) (A' := []) ⟨t1, ?_, ?_, ?_, ?_, ?_, trivial⟩ (fun i q1 q2 => ?_) (fun i q1 q2 q3 => ?_) (fun j q1 q2 => ?_)
      · exact x2.cg (by rw [st_ne1 (by omega), st_ne1 (by omega)]) (fun j q1 q2 => by rw [st_id (by omega), st_id (by omega)])
      · exact ci_new hC (by rw [st_ne1 (by omega), st_ne1 (by omega)]; exact x3) (by rw [st_id (by omega), st_id (by omega), x4 10 (by omega)])
      · refine ShM_cg h24 (fun j hj => ?_) t4
        rw [st_ne1 (by omega), cp_in (by omega), st_ne1 (by omega)]
        exact congrArg (U 15) (by omega)
      · exact ⟨by simp, by rw [st_same]; rfl, 0, by omega, by rw [st_ne2 (by omega), st_same]; rfl, fun k hk => absurd hk (by simp)⟩
      · rw [st_same]; rfl
      · rw [st_id (by omega), st_id (by omega), x4 i (by omega)]
      · rw [st_id q1, cp_id q2, st_id q1]
      · rw [st_ne2 q2, cp_ne (by omega), st_ne2 q1]
  · rw [if_pos ((b01z _).mpr hp), if_pos ((b01z _).mpr hp)]
    exact ⟨_, _, rfl, rfl, rfl, inv_t h⟩

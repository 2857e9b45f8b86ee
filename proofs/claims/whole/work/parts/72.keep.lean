/-! The reference's rows copied; acts kept, on both sides. -/
theorem cp_step {V : Mem} {s d sp dp k : Nat} (h : s ≠ d ∨ dp ≤ sp) : st (cp V s d sp dp k) d (dp + k) (cp V s d sp dp k s (sp + k)) = cp V s d sp dp (k + 1) := by
  apply mem_ext
  intro x y
  rw [st_at, cp_at, cp_at, cp_at]
  by_cases hx : x = d
  · subst hx
    by_cases hy : y = dp + k
    · subst hy
      rw [if_pos ⟨rfl, rfl⟩, if_neg (by omega), if_pos (by omega)]
      congr 1
      omega
    · by_cases c : dp ≤ y ∧ y < dp + k
      · rw [if_neg (fun q => hy q.2), if_pos ⟨rfl, c⟩, if_pos (by omega)]
      · rw [if_neg (fun q => hy q.2), if_neg (fun q => c q.2), if_neg (by omega)]
  · rw [if_neg (fun q => hx q.1), if_neg (fun q => hx q.1), if_neg (fun q => hx q.1)]
theorem cp_zero {V : Mem} {s d sp dp : Nat} : cp V s d sp dp 0 = V := by
  apply mem_ext
  intro x y
  rw [cp_at, if_neg (by omega)]
theorem ShM_cg {f g : Nat → Int32} {S : Sh} (h24 : S.2.length ≤ 24) (h : ∀ j, j < 76 → g j = f j) (hS : ShM f S) : ShM g S := by
  refine ⟨by rw [h 0 (by omega)]; exact hS.1, fun l hl => by rw [h _ (by omega)]; exact hS.2.1 l hl, fun k hk => ?_⟩
  rw [h _ (by omega), h _ (by omega), h _ (by omega)]
  exact hS.2.2 k hk
theorem lay_then {U : Mem} : ∀ (d n k : Nat), k + d = 76 → d < n → f_X7_layThen_2 n (nI k) (cp U 4 6 0 0 k) = some (cp U 4 6 0 0 76) := by
  intro d
  induction d with
  | zero =>
    intro n k hk hn
    obtain ⟨n, rfl⟩ : ∃ n', n = n' + 1 := ⟨n - 1, by omega⟩
    have e : k = 76 := by omega
    subst e
    rw [f_X7_layThen_2, if_pos (by decide)]
  | succ d ih =>
    intro n k hk hn
    obtain ⟨n, rfl⟩ : ∃ n', n = n' + 1 := ⟨n - 1, by omega⟩
    have e1 : nI k + 1 = nI (k + 1) := nI_1 k
    have hs := cp_step (V := U) (s := 4) (d := 6) (sp := 0) (dp := 0) (k := k) (Or.inl (by omega))
    rw [Nat.zero_add] at hs
    rw [f_X7_layThen_2, if_neg (by rw [li, nle (by omega) (by omega)]; omega), if_pos (ibt (by omega) (by omega)), if_pos (ibt (by omega) (by omega)), ncl (by omega), e1, hs]
    exact ih n (k + 1) (by omega) (by omega)
theorem layThen_m {U : Mem} : f_X7_layThen U = some (cp U 4 6 0 0 76) := by
  unfold f_X7_layThen
  have h := lay_then (U := U) 76 4096 0 (by omega) (by omega)
  rw [cp_zero] at h
  exact h
theorem keep_up {U : Mem} {a : Nat} (ha : a < 24) (h9 : U 0 9 = nI a) : ∀ (d n k : Nat), k + d = 76 → d < n → f_X7_keep_51 n (nI k) (cp U 4 7 0 (76 * a) k) = some (st (cp U 4 7 0 (76 * a) 76) 0 9 (nI (a + 1))) := by
  have z9 : ∀ k, cp U 4 7 0 (76 * a) k 0 9 = nI a := fun k => by rw [cp_ne (by omega)]; exact h9
  intro d
  induction d with
  | zero =>
    intro n k hk hn
    obtain ⟨n, rfl⟩ : ∃ n', n = n' + 1 := ⟨n - 1, by omega⟩
    have e : k = 76 := by omega
    subst e
    rw [f_X7_keep_51, if_pos (by decide), z9, nI_1]
  | succ d ih =>
    intro n k hk hn
    obtain ⟨n, rfl⟩ : ∃ n', n = n' + 1 := ⟨n - 1, by omega⟩
    have e1 : nI k + 1 = nI (k + 1) := nI_1 k
    have e2 : (76 : Int32) * nI a + nI k = nI (76 * a + k) := by rw [li, pk_mul, nad]
    have hs := cp_step (V := U) (s := 4) (d := 7) (sp := 0) (dp := 76 * a) (k := k) (Or.inl (by omega))
    rw [Nat.zero_add] at hs
    rw [f_X7_keep_51, if_neg (by rw [li, nle (by omega) (by omega)]; omega), if_pos (ibt (by omega) (by omega)), z9, e2, if_pos (ibt (by omega) (by omega)), ncl (by omega), ncl (by omega), e1, hs]
    exact ih n (k + 1) (by omega) (by omega)
theorem keep_down {U : Mem} : ∀ (d n k : Nat), k + d = 1748 → d < n → f_X7_keep_11 n (nI k) (cp U 7 7 76 0 k) = f_X7_keep_49 (st (cp U 7 7 76 0 1748) 0 9 (U 0 9 - 1)) := by
  intro d
  induction d with
  | zero =>
    intro n k hk hn
    obtain ⟨n, rfl⟩ : ∃ n', n = n' + 1 := ⟨n - 1, by omega⟩
    have e : k = 1748 := by omega
    subst e
    rw [f_X7_keep_11, if_pos (by decide), cp_ne (show (0 : Nat) ≠ 7 by omega)]
  | succ d ih =>
    intro n k hk hn
    obtain ⟨n, rfl⟩ : ∃ n', n = n' + 1 := ⟨n - 1, by omega⟩
    have e1 : nI k + 1 = nI (k + 1) := nI_1 k
    have e2 : nI k + (76 : Int32) = nI (76 + k) := by rw [li, nad, Nat.add_comm]
    have hs := cp_step (V := U) (s := 7) (d := 7) (sp := 76) (dp := 0) (k := k) (Or.inr (by omega))
    rw [Nat.zero_add] at hs
    rw [f_X7_keep_11, if_neg (by rw [li, nle (by omega) (by omega)]; omega), e2, if_pos (ibt (by omega) (by omega)), if_pos (ibt (by omega) (by omega)), ncl (by omega), ncl (by omega), e1, hs]
    exact ih n (k + 1) (by omega) (by omega)
theorem keep_49 {U : Mem} {a : Nat} (ha : a < 24) (h9 : U 0 9 = nI a) : f_X7_keep_49 U = some (st (cp U 4 7 0 (76 * a) 76) 0 9 (nI (a + 1))) := by
  unfold f_X7_keep_49
  have h := keep_up ha h9 76 4096 0 (by omega) (by omega)
  rw [cp_zero] at h
  exact h
theorem ok_sty {S : Sh} {l v : Nat} (h : okS S) (hv : v ≤ 3) : okS (styS S l v) := by
  refine ⟨?_, fun s hs => ?_, h.2.2.1, h.2.2.2⟩
  · unfold styS
    rw [List.length_set]
    exact h.1
  · unfold styS at hs
    rcases List.mem_or_eq_of_mem_set hs with a | a
    · exact h.2.1 s a
    · rw [a]; exact hv
theorem ok_mv {S : Sh} {k t : Nat} (h : okS S) (hk : k < S.2.length) (ht : t < S.2.length) : okS (mvS S k t) := by
  unfold mvS
  have h24 := h.2.2.1
  refine ok_ins (ok_rmv h hk) ?_ ?_ (pg_ok h.2.2.2 hk)
  · unfold rmvS
    rw [len_rmv hk]
    omega
  · unfold rmvS
    rw [len_rmv hk]
    omega
theorem ok_und {S : Sh} {a : Act} (h : okS S) (hv : vA S a) : okS (und S a) := by
  unfold vA at hv
  unfold und
  by_cases h0 : a.1 = 0
  · rw [if_pos h0] at hv ⊢
    exact ok_rmv h hv.1
  rw [if_neg h0] at hv ⊢
  by_cases h1 : a.1 = 1
  · rw [if_pos h1] at hv ⊢
    exact ok_ins h hv.2.1 hv.1 hv.2.2
  rw [if_neg h1] at hv ⊢
  by_cases h2 : a.1 = 2
  · rw [if_pos h2] at hv ⊢
    exact ok_mv h hv.1 hv.2
  rw [if_neg h2] at hv ⊢
  by_cases h3 : a.1 = 3
  · rw [if_pos h3] at hv ⊢
    exact ok_set h hv.2
  rw [if_neg h3] at hv ⊢
  exact ok_sty h hv.2.2
theorem AW.up {U U' : Mem} : ∀ {A : List Act} {S : Sh}, okS S → AW U S A → (∀ j, j < 76 * A.length → U' 7 j = U 7 j) → AW U' S A := by
  intro A
  induction A with
  | nil => intro S _ _ _; trivial
  | cons a A ih =>
    intro S hok hA hU
    obtain ⟨h1, h2, h3⟩ := hA
    rw [List.length_cons] at hU
    have ho := ok_und hok h1
    exact ⟨h1, ShM_cg ho.2.2.1 (fun j hj => hU _ (by omega)) h2, ih ho h3 (fun j hj => hU j (by omega))⟩
theorem AW.down {U U' : Mem} : ∀ {A : List Act} {S : Sh}, okS S → AW U S A → (∀ j, j < 76 * (A.length - 1) → U' 7 j = U 7 (j + 76)) → AW U' S (A.take (A.length - 1)) := by
  intro A
  induction A with
  | nil => intro S _ _ _; trivial
  | cons a A ih =>
    intro S hok hA hU
    obtain ⟨h1, h2, h3⟩ := hA
    rw [List.length_cons, Nat.add_sub_cancel] at hU ⊢
    have ho := ok_und hok h1
    cases A with
    | nil => trivial
    | cons b B =>
      rw [List.length_cons] at hU h2 ⊢
      rw [List.take_succ_cons]
      have e : (List.take B.length (b :: B)).length = B.length := by rw [List.length_take, List.length_cons]; omega
      refine ⟨h1, ShM_cg ho.2.2.1 (fun j hj => ?_) h2, ?_⟩
      · rw [e, hU _ (by omega)]
        congr 1
        omega
      · have := ih ho h3 (fun j hj => hU j (by rw [List.length_cons] at hj; omega))
        rw [List.length_cons, Nat.add_sub_cancel] at this
        exact this
theorem keep_m {U : Mem} {S : Sh} {A : List Act} (hok : okS S) (hS : ShM (U 4) S) (h9 : U 0 9 = nI A.length) (h24 : A.length ≤ 24) (hA : AW U S A) : ∃ U', f_X7_keep U = some U' ∧ (∀ i, i ≠ 0 → i ≠ 7 → U' i = U i) ∧ (∀ k, k ≠ 9 → U' 0 k = U 0 k) ∧ U' 0 9 = nI ((A.take 23).length + 1) ∧ AW U' S (A.take 23) ∧ ShM (fun j => U' 7 (76 * (A.take 23).length + j)) S := by
  unfold f_X7_keep
  rw [h9]
  by_cases c : A.length = 24
  · have e23 : (A.take 23).length = 23 := by rw [List.length_take]; omega
    rw [if_pos (by rw [c]; rfl)]
    have hd := keep_down (U := U) 1748 4096 0 (by omega) (by omega)
    rw [cp_zero, h9, c, show nI 24 - 1 = nI 23 from nsb (b := 1) (by omega)] at hd
    have hd' : f_X7_keep_11 4096 0 U = _ := hd
    rw [hd', keep_49 (a := 23) (by omega) st_same]
    refine ⟨_, rfl, fun i h0 h7 => ?_, fun k hk => ?_, ?_, ?_, ?_⟩
    · rw [st_id h0, cp_id h7, st_id h0, cp_id h7]
    · rw [st_ne2 hk, cp_ne (by omega), st_ne2 hk, cp_ne (by omega)]
    · rw [st_same, e23]
    · have := AW.down (U' := st (cp (st (cp U 7 7 76 0 1748) 0 9 (nI 23)) 4 7 0 (76 * 23) 76) 0 9 (nI (23 + 1))) hok hA (fun j hj => by
        rw [st_ne1 (by omega), cp_out (by omega), st_ne1 (by omega), cp_in (by omega)]
        exact congrArg (U 7) (by omega))
      rw [c] at this
      exact this
    · refine ShM_cg hok.2.2.1 (fun j hj => ?_) hS
      rw [e23, st_ne1 (by omega), cp_in (by omega), st_ne1 (by omega), cp_ne (by omega)]
      exact congrArg (U 4) (by omega)
  · have e23 : A.take 23 = A := List.take_of_length_le (by omega)
    rw [if_neg (by rw [li, neq (by omega) (by omega)]; exact c), keep_49 (a := A.length) (by omega) h9, e23]
    refine ⟨_, rfl, fun i h0 h7 => ?_, fun k hk => ?_, ?_, ?_, ?_⟩
    · rw [st_id h0, cp_id h7]
    · rw [st_ne2 hk, cp_ne (by omega)]
    · rw [st_same]
    · refine AW.up hok hA (fun j hj => ?_)
      rw [st_ne1 (by omega), cp_out (by omega)]
    · refine ShM_cg hok.2.2.1 (fun j hj => ?_) hS
      rw [st_ne1 (by omega), cp_in (by omega)]
      congr 1
      omega
theorem keep32 {V : Mem} {o n : Nat} {a : Act} (ho : o < 24) (hn : n < 24) (h1 : V 67 1 = nI o) (h2 : V 67 2 = nI n) : ∃ V', f_X0_keep_32 67 (nI a.1) (nI a.2.1) (nI a.2.2.1) (nI a.2.2.2.1) (nI a.2.2.2.2.1) (nI a.2.2.2.2.2) V = some V' ∧ actRow V' (69 + (o + n) % 24) a ∧ (∀ i, i ≠ 67 → i ≠ 69 + (o + n) % 24 → V' i = V i) ∧ V' 67 2 = nI (n + 1) ∧ ∀ k, k ≠ 2 → V' 67 k = V 67 k := by
  have hm : (o + n) % 24 < 24 := Nat.mod_lt _ (by omega)
  have e : nI o + nI n - (nI o + nI n) / (24 : Int32) * (24 : Int32) = nI ((o + n) % 24) := by
    rw [nad, show (24 : Int32) = nI 24 from rfl, remI (by omega) (by omega) (by omega)]
  unfold f_X0_keep_32
  rw [h1, h2, e, if_pos (ibt (by omega) (by omega)), if_pos (by decide), if_pos (by decide), if_pos (by decide), if_pos (by decide), if_pos (by decide), if_pos (by decide), ncl (by omega)]
  generalize (o + n) % 24 = q at *
  have c0 : (Int32.toNatClampNeg 0) = 0 := by decide
  have c1 : (Int32.toNatClampNeg 1) = 1 := by decide
  have c2 : (Int32.toNatClampNeg 2) = 2 := by decide
  have c3 : (Int32.toNatClampNeg 3) = 3 := by decide
  have c4 : (Int32.toNatClampNeg 4) = 4 := by decide
  have c5 : (Int32.toNatClampNeg 5) = 5 := by decide
  rw [c0, c1, c2, c3, c4, c5]
  have ez : 67 + 1 + 1 + q = 69 + q := by omega
  rw [ez]
  refine ⟨_, rfl, ?_, fun i q1 q2 => ?_, ?_, fun k hk => ?_⟩
  · unfold actRow
    simp (disch := omega) only [st_same, st_ne1, st_ne2]
    exact ⟨trivial, trivial, trivial, trivial, trivial, trivial⟩
  · simp (disch := omega) only [st_id]
  · simp (disch := omega) only [st_same, st_ne1]
    rw [h2]
    exact nI_1 n
  · simp (disch := omega) only [st_ne1, st_ne2]
theorem keep_x {V : Mem} {A : List Act} {a : Act} (hA : AV V A) : ∃ V', f_X0_keep 67 (nI a.1) (nI a.2.1) (nI a.2.2.1) (nI a.2.2.2.1) (nI a.2.2.2.2.1) (nI a.2.2.2.2.2) V = some V' ∧ AV V' (a :: A.take 23) ∧ (∀ i, i < 67 ∨ i = 68 ∨ 92 < i → V' i = V i) := by
  obtain ⟨h1, h2, o, h3, h4, h5⟩ := hA
  unfold f_X0_keep
  rw [h2]
  by_cases c : A.length = 24
  · have e23 : (A.take 23).length = 23 := by rw [List.length_take]; omega
    have e : nI o + 1 - (nI o + 1) / (24 : Int32) * (24 : Int32) = nI ((o + 1) % 24) := by
      rw [nI_1, show (24 : Int32) = nI 24 from rfl, remI (by omega) (by omega) (by omega)]
    rw [if_pos (by rw [c]; rfl), h4, e, st_ne2 (show (2 : Nat) ≠ 1 by omega), h2, c, show nI 24 - 1 = nI 23 from nsb (b := 1) (by omega)]
    have hm : (o + 1) % 24 < 24 := Nat.mod_lt _ (by omega)
    obtain ⟨V', k1, k2, k3, k4, k5⟩ := keep32 (V := st (st V 67 1 (nI ((o + 1) % 24))) 67 2 (nI 23)) (a := a) hm (show 23 < 24 by omega) (by rw [st_ne2 (by omega), st_same]) st_same
    refine ⟨V', k1, ⟨by rw [List.length_cons, e23]; omega, by rw [k4, List.length_cons, e23], (o + 1) % 24, hm, by rw [k5 1 (by omega), st_ne2 (by omega), st_same], fun k hk => ?_⟩, fun i hi => ?_⟩
    · rw [List.length_cons, e23] at hk ⊢
      cases k with
      | zero => exact k2
      | succ k =>
        have h6 := h5 k (by omega)
        rw [List.getD_cons_succ]
        have e6 : (A.take 23).getD k (0, 0, 0, 0, 0, 0) = A.getD k (0, 0, 0, 0, 0, 0) := by
          rw [List.getD_eq_getElem?_getD, List.getD_eq_getElem?_getD, List.getElem?_take_of_lt (by omega)]
        rw [e6]
        have e7 : ((o + 1) % 24 + (23 + 1 - 1 - (k + 1))) % 24 = (o + (A.length - 1 - k)) % 24 := by omega
        have e8 : 69 + (o + (A.length - 1 - k)) % 24 ≠ 69 + ((o + 1) % 24 + 23) % 24 := by omega
        have e9 : 69 + (o + (A.length - 1 - k)) % 24 ≠ 67 := by omega
        unfold actRow at h6 ⊢
        rw [e7, k3 _ e9 e8, st_id e9, st_id e9]
        exact h6
    · rw [k3 i (by omega) (by omega), st_id (by omega), st_id (by omega)]
  · have e23 : A.take 23 = A := List.take_of_length_le (by omega)
    rw [if_neg (by rw [li, neq (by omega) (by omega)]; exact c), e23]
    obtain ⟨V', k1, k2, k3, k4, k5⟩ := keep32 (V := V) (a := a) h3 (show A.length < 24 by omega) h4 h2
    refine ⟨V', k1, ⟨by rw [List.length_cons]; omega, by rw [k4, List.length_cons], o, h3, by rw [k5 1 (by omega)]; exact h4, fun k hk => ?_⟩, fun i hi => ?_⟩
    · rw [List.length_cons] at hk ⊢
      cases k with
      | zero => exact k2
      | succ k =>
        have h6 := h5 k (by omega)
        rw [List.getD_cons_succ]
        have e7 : (o + (A.length + 1 - 1 - (k + 1))) % 24 = (o + (A.length - 1 - k)) % 24 := by omega
        have e8 : 69 + (o + (A.length - 1 - k)) % 24 ≠ 69 + (o + A.length) % 24 := by omega
        have e9 : 69 + (o + (A.length - 1 - k)) % 24 ≠ 67 := by omega
        unfold actRow at h6 ⊢
        rw [e7, k3 _ e9 e8]
        exact h6
    · rw [k3 i (by omega) (by omega)]

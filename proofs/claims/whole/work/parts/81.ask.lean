/-! ask. -/
def AX (V0 V : Mem) (S : Sh) (L : List Nat) : Prop := (∀ a, (1 ≤ a ∧ a < 10 ∧ a ≠ 4) ∨ (35 ≤ a ∧ a ≠ 98) → V a = V0 a) ∧ (∀ k, k ≠ 6 → V 4 k = V0 4 k) ∧ (∀ k, k ≠ 11 → V 0 k = V0 0 k) ∧ ShX V 4 S ∧ CI V 4 S.2 ∧ V 0 11 = nI L.length ∧ ∀ j, j < L.length → V 98 j = nI (L.getD j 0)
def AM (U0 M : Mem) (S : Sh) (L : List Nat) : Prop := (∀ a, a ≠ 0 → a ≠ 16 → a < 9 ∨ 11 < a → M a = U0 a) ∧ (∀ k, k ≠ 0 → k ≠ 29 → M 0 k = U0 0 k) ∧ ShM (M 4) S ∧ (∀ k l, k < S.2.length → l < 3 → M 11 (3 * k + l) = nI (cnt S.2 (k + 1) l)) ∧ M 0 29 = nI L.length ∧ ∀ j, j < L.length → M 16 j = nI (L.getD j 0)
theorem getD_snoc {L : List Nat} {b j : Nat} : (L ++ [b]).getD j 0 = if j = L.length then b else L.getD j 0 := by
  simp only [List.getD_eq_getElem?_getD]
  by_cases c : j < L.length
  · rw [List.getElem?_append_left c, if_neg (by omega)]
  · rw [List.getElem?_append_right (by omega)]
    by_cases c2 : j = L.length
    · rw [if_pos c2, c2, Nat.sub_self]
      rfl
    · rw [if_neg c2, List.getElem?_eq_none (by simp; omega), List.getElem?_eq_none (by omega)]
theorem ax_trace {V0 V : Mem} {S : Sh} {L : List Nat} {b : Nat} (hok : okS S) (h : AX V0 V S L) (hL : L.length < 16) : ∃ V', f_X6_leaveTrace (nI b) V = some V' ∧ AX V0 V' S (L ++ [b]) := by
  obtain ⟨h1, h2, h3, h4, h5, h6, h7⟩ := h
  have h24 := hok.2.2.1
  unfold f_X6_leaveTrace
  rw [h6, if_neg (by rw [li, nle (by omega) (by omega)]; omega), if_pos (ibt (by omega) (by omega)), ncl (by omega), st_ne1 (show (0 : Nat) ≠ 98 by omega), h6, nI_1]
  refine ⟨_, rfl, fun a q => ?_, fun k q => ?_, fun k q => ?_, h4.cg ?_ (fun k q1 q2 => ?_), h5.cg h24 ?_ (fun k q => ?_), ?_, fun j hj => ?_⟩
  · rw [st_id (by omega), st_id (by omega)]; exact h1 a q
  · rw [st_ne1 (by omega), st_ne1 (by omega)]; exact h2 k q
  · rw [st_ne2 q, st_ne1 (by omega)]; exact h3 k q
  · rw [st_ne1 (by omega), st_ne1 (by omega)]
  · rw [st_id (by omega), st_id (by omega)]
  · rw [st_ne1 (by omega), st_ne1 (by omega)]
  · rw [st_id (by omega), st_id (by omega)]
  · rw [st_same, List.length_append]; rfl
  · rw [st_ne1 (by omega), st_at, getD_snoc]
    by_cases c : j = L.length
    · rw [if_pos ⟨rfl, c⟩, if_pos c]
    · rw [if_neg (fun q => c q.2), if_neg c]
      rw [List.length_append, List.length_singleton] at hj
      exact h7 j (by omega)
theorem am_trace {U0 M : Mem} {S : Sh} {L : List Nat} {b : Nat} (h : AM U0 M S L) (hL : L.length < 16) : ∃ M', f_X7_began (nI b) M = some M' ∧ AM U0 M' S (L ++ [b]) := by
  obtain ⟨h1, h2, h3, h4, h5, h6⟩ := h
  unfold f_X7_began
  rw [h5, if_neg (by rw [li, nle (by omega) (by omega)]; omega), if_pos (ibt (by omega) (by omega)), ncl (by omega), st_ne1 (show (0 : Nat) ≠ 16 by omega), h5, nI_1]
  refine ⟨_, rfl, fun a q1 q2 q3 => ?_, fun k q1 q2 => ?_, ?_, fun k l hk hl => ?_, ?_, fun j hj => ?_⟩
  · rw [st_id q1, st_id q2]; exact h1 a q1 q2 q3
  · rw [st_ne2 q2, st_ne1 (by omega)]; exact h2 k q1 q2
  · rw [st_id (by omega), st_id (by omega)]; exact h3
  · rw [st_ne1 (by omega), st_ne1 (by omega)]; exact h4 k l hk hl
  · rw [st_same, List.length_append]; rfl
  · rw [st_ne1 (by omega), st_at, getD_snoc]
    by_cases c : j = L.length
    · rw [if_pos ⟨rfl, c⟩, if_pos c]
    · rw [if_neg (fun q => c q.2), if_neg c]
      rw [List.length_append, List.length_singleton] at hj
      exact h6 j (by omega)
theorem ax_own {V0 V : Mem} {S : Sh} {L : List Nat} {k : Nat} (hok : okS S) (hk : k < S.2.length) (h : AX V0 V S L) : ∃ V', f_X3_ownCount 4 (nI k) V = some (nI (own S k), V') ∧ AX V0 V' S L := by
  obtain ⟨h1, h2, h3, h4, h5, h6, h7⟩ := h
  obtain ⟨V1, o1, o2, o3⟩ := own_x (Or.inl rfl) hok h4 h5 hk
  have fr : ∀ a, a < 4 ∨ 5 ≤ a ∧ a ≤ 9 ∨ 34 < a → V1 a = V a := fun a q => o2.1 a (by omega) (by omega)
  exact ⟨V1, o1, fun a q => by rw [fr a (by omega)]; exact h1 a q, fun k q => by rw [o2.2 k q]; exact h2 k q, fun k q => by rw [fr 0 (by omega)]; exact h3 k q, h4.fs o2, o3, by rw [fr 0 (by omega)]; exact h6, fun j hj => by rw [fr 98 (by omega)]; exact h7 j hj⟩
theorem am_own {U0 M : Mem} {S : Sh} {L : List Nat} {k : Nat} (hok : okS S) (hk : k < S.2.length) (h : AM U0 M S L) : f_X7_ownOf 4 (nI k) M = some (nI (own S k), M) := by
  have h24 := hok.2.2.1
  have hp := pg_ok hok.2.2.2 hk
  have hl := hp.2.2.1
  have e0 : f_X7_of 4 (nI k) 1 M = _ := of_eq (w := 1) h.2.2.1 hk h24 (by omega)
  have e1 : M 4 (4 + 3 * k + 1) = nI (pg S.2 k).2.1 := (h.2.2.1.2.2 k hk).2.1
  unfold f_X7_ownOf
  rw [e0, Option.bind_some, e1]
  have e2 : (3 : Int32) * nI k + nI (pg S.2 k).2.1 = nI (3 * k + (pg S.2 k).2.1) := by rw [li, pk_mul, nad]
  dsimp only
  rw [e2, if_pos (ibt (by omega) (by omega)), ncl (by omega), h.2.2.2.1 k _ hk (by omega)]
  rfl
theorem am_of {U0 M : Mem} {S : Sh} {L : List Nat} {k : Nat} (hok : okS S) (hk : k < S.2.length) (h : AM U0 M S L) : f_X7_of 4 (nI k) 0 M = some (nI (pg S.2 k).1, M) ∧ f_X7_of 4 (nI k) 2 M = some (nI (pg S.2 k).2.2, M) := by
  have h24 := hok.2.2.1
  have e0 : f_X7_of 4 (nI k) 0 M = _ := of_eq (w := 0) h.2.2.1 hk h24 (by omega)
  have e2 : f_X7_of 4 (nI k) 2 M = _ := of_eq (w := 2) h.2.2.1 hk h24 (by omega)
  have s := h.2.2.1.2.2 k hk
  rw [Nat.add_zero, s.1] at e0
  rw [s.2.2] at e2
  exact ⟨e0, e2⟩
theorem dep {e : Nat} (h : e ≤ 20) : nI e ≤ (20 : Int32) := by rw [li, nle (by omega) (by omega)]; omega
theorem o10_5 {V0 V : Mem} {S : Sh} {L : List Nat} {k e : Nat} (hok : okS S) (hk : k < S.2.length) (h : AX V0 V S L) (hL : L.length + 1 ≤ 16) (he : e + 10 ≤ 20) : ∃ V', f_X6_answerOf_L5 10 (nI k) (nI e) V = some (nI (pg S.2 k).2.2, V') ∧ AX V0 V' S (L ++ [10]) := by
  have h24 := hok.2.2.1
  obtain ⟨V1, t1, a1⟩ := ax_trace (b := 10) hok h (by omega)
  have t1' : f_X6_leaveTrace 10 V = some V1 := t1
  have e1 : nI e + 1 = nI (e + 1) := nI_1 e
  have l1 : (L ++ [10]).length = L.length + 1 := by rw [List.length_append]; rfl
  rw [f_X6_answerOf_L5, if_pos (dep (by omega)), t1', Option.bind_some, if_pos (show (10 : Int32) = 10 from rfl)]
  rw [if_pos (ibt (by omega) (by omega)), ncl (by omega)]
  refine ⟨V1, ?_, a1⟩
  have s : V1 8 k = _ := (a1.2.2.2.1.2.2 k hk).2.2
  rw [s]
theorem o20_4 {V0 V : Mem} {S : Sh} {L : List Nat} {k e : Nat} (hok : okS S) (hk : k < S.2.length) (h : AX V0 V S L) (hL : L.length + 1 ≤ 16) (he : e + 8 ≤ 20) : ∃ V', f_X6_answerOf_L4 20 (nI k) (nI e) V = some (nI k, V') ∧ AX V0 V' S (L ++ [20]) := by
  have h24 := hok.2.2.1
  obtain ⟨V1, t1, a1⟩ := ax_trace (b := 20) hok h (by omega)
  have t1' : f_X6_leaveTrace 20 V = some V1 := t1
  have e1 : nI e + 1 = nI (e + 1) := nI_1 e
  have l1 : (L ++ [20]).length = L.length + 1 := by rw [List.length_append]; rfl
  rw [f_X6_answerOf_L4, if_pos (dep (by omega)), t1', Option.bind_some, if_neg (show ¬ (20 : Int32) = 10 by decide), if_neg (show ¬ (20 : Int32) = 11 by decide), if_neg (show ¬ (20 : Int32) = 12 by decide), if_neg (show ¬ (20 : Int32) = 13 by decide), if_neg (show ¬ (20 : Int32) = 14 by decide), if_neg (show ¬ (20 : Int32) = 15 by decide), if_neg (show ¬ (20 : Int32) = 16 by decide), if_neg (show ¬ (20 : Int32) = 17 by decide), if_neg (show ¬ (20 : Int32) = 18 by decide), if_neg (show ¬ (20 : Int32) = 19 by decide), if_pos (show (20 : Int32) = 20 from rfl)]
  exact ⟨V1, rfl, a1⟩
theorem o21_5 {V0 V : Mem} {S : Sh} {L : List Nat} {k e : Nat} (hok : okS S) (hk : k < S.2.length) (h : AX V0 V S L) (hL : L.length + 2 ≤ 16) (he : e + 10 ≤ 20) : ∃ V', f_X6_answerOf_L5 21 (nI k) (nI e) V = some ((nI k + nI (own S k)), V') ∧ AX V0 V' S ((L ++ [21]) ++ [20]) := by
  have h24 := hok.2.2.1
  obtain ⟨V1, t1, a1⟩ := ax_trace (b := 21) hok h (by omega)
  have t1' : f_X6_leaveTrace 21 V = some V1 := t1
  have e1 : nI e + 1 = nI (e + 1) := nI_1 e
  have l1 : (L ++ [21]).length = L.length + 1 := by rw [List.length_append]; rfl
  rw [f_X6_answerOf_L5, if_pos (dep (by omega)), t1', Option.bind_some, if_neg (show ¬ (21 : Int32) = 10 by decide), if_neg (show ¬ (21 : Int32) = 11 by decide), if_neg (show ¬ (21 : Int32) = 12 by decide), if_neg (show ¬ (21 : Int32) = 13 by decide), if_neg (show ¬ (21 : Int32) = 14 by decide), if_neg (show ¬ (21 : Int32) = 15 by decide), if_neg (show ¬ (21 : Int32) = 16 by decide), if_neg (show ¬ (21 : Int32) = 17 by decide), if_neg (show ¬ (21 : Int32) = 18 by decide), if_neg (show ¬ (21 : Int32) = 19 by decide), if_neg (show ¬ (21 : Int32) = 20 by decide), if_pos (show (21 : Int32) = 21 from rfl)]
  obtain ⟨V2, x1, x2⟩ := o20_4 (e := e + 1) hok hk a1 (by omega) (by omega)
  rw [e1, x1, Option.bind_some]
  obtain ⟨V3, y1, y2⟩ := ax_own hok hk x2
  dsimp only
  rw [y1, Option.bind_some]
  exact ⟨V3, rfl, y2⟩
theorem tm_5_1 {V0 V : Mem} {S : Sh} {L : List Nat} {k e : Nat} (hok : okS S) (hk : k < S.2.length) (h : AX V0 V S L) (hd : (pg S.2 k).1 = 1) (hL : L.length + 2 ≤ 16) (he : e + 1 + 10 ≤ 20) : ∃ V', f_X6_answerTo_L5 1 (nI k) (nI e) V = some ((nI k + nI (own S k)), V') ∧ AX V0 V' S ((L ++ [21]) ++ [20]) := by
  have h24 := hok.2.2.1
  have e1 : nI e + 1 = nI (e + 1) := nI_1 e
  have s : V 6 k = nI 1 := by rw [← hd]; exact (h.2.2.2.1.2.2 k hk).1
  obtain ⟨V2, x1, x2⟩ := o21_5 (e := e + 1) hok hk h (by omega) (by omega)
  refine ⟨V2, ?_, x2⟩
  have w : ∀ n, f_X6_answerTo_L5_29_t3 (n + 2) (nI k) (nI e) (nI 1) 0 V = some ((nI k + nI (own S k)), V2) := by
    intro n
    rw [f_X6_answerTo_L5_29_t3, if_neg (by decide), if_neg (by decide), if_pos (by decide)]
    rw [if_neg (by decide), f_X6_answerTo_L5_63_t3, if_pos (by decide)]
    have q : f_X6_answerOf_L5 (tba 3 (Int32.toNatClampNeg (nI 1))) (nI k) (nI e + 1) V = some ((nI k + nI (own S k)), V2) := by
      rw [e1]
      exact x1
    rw [q, Option.bind_some]
  rw [f_X6_answerTo_L5, if_neg (show ¬ (1 : Int32) = 0 by decide), f_X6_answerTo_L5_13_u3, if_pos (ibt (by omega) (by omega)), ncl (by omega), s]
  exact w 4094
theorem o11_6_1 {V0 V : Mem} {S : Sh} {L : List Nat} {k e : Nat} (hok : okS S) (hk : k < S.2.length) (h : AX V0 V S L) (hd : (pg S.2 k).1 = 1) (hL : L.length + 4 ≤ 16) (he : e + 12 ≤ 20) : ∃ V', f_X6_answerOf_L6 11 (nI k) (nI e) V = some ((nI (pg S.2 k).2.2 + (nI k + nI (own S k))), V') ∧ AX V0 V' S ((((L ++ [11]) ++ [10]) ++ [21]) ++ [20]) := by
  have h24 := hok.2.2.1
  obtain ⟨V1, t1, a1⟩ := ax_trace (b := 11) hok h (by omega)
  have t1' : f_X6_leaveTrace 11 V = some V1 := t1
  have e1 : nI e + 1 = nI (e + 1) := nI_1 e
  have l1 : (L ++ [11]).length = L.length + 1 := by rw [List.length_append]; rfl
  rw [f_X6_answerOf_L6, if_pos (dep (by omega)), t1', Option.bind_some, if_neg (show ¬ (11 : Int32) = 10 by decide), if_pos (show (11 : Int32) = 11 from rfl)]
  obtain ⟨V2, x1, x2⟩ := o10_5 (e := e + 1) hok hk a1 (by omega) (by omega)
  have l2 : (L ++ [11] ++ [10]).length = L.length + 2 := by rw [List.length_append, l1]; rfl
  obtain ⟨V3, y1, y2⟩ := tm_5_1 (e := e + 1) hok hk x2 hd (by omega) (by omega)
  rw [e1, x1, Option.bind_some]
  dsimp only
  rw [y1, Option.bind_some]
  exact ⟨V3, rfl, y2⟩
theorem zs_1 {V0 V : Mem} {S : Sh} {L : List Nat} {k e : Nat} (hok : okS S) (hk : k < S.2.length) (h : AX V0 V S L)(hd : (pg S.2 k).1 = 1) (hL : L.length + 4 ≤ 16) (he : e + 1 + 12 ≤ 20) : ∃ V', f_X6_answerTo_L6 0 (nI k) (nI e) V = some ((nI (pg S.2 k).2.2 + (nI k + nI (own S k))), V') ∧ AX V0 V' S ((((L ++ [11]) ++ [10]) ++ [21]) ++ [20]) := by
  have h24 := hok.2.2.1
  have e1 : nI e + 1 = nI (e + 1) := nI_1 e
  have s : V 6 k = nI 1 := by rw [← hd]; exact (h.2.2.2.1.2.2 k hk).1
  obtain ⟨V2, x1, x2⟩ := o11_6_1 (e := e + 1) hok hk h hd (by omega) (by omega)
  refine ⟨V2, ?_, x2⟩
  have w : ∀ n, f_X6_answerTo_L6_29_t2 (n + 2) (nI k) (nI e) (nI 1) 0 V = some ((nI (pg S.2 k).2.2 + (nI k + nI (own S k))), V2) := by
    intro n
    rw [f_X6_answerTo_L6_29_t2, if_neg (by decide), if_neg (by decide), if_pos (by decide)]
    rw [if_neg (by decide), f_X6_answerTo_L6_63_t2, if_pos (by decide)]
    have q : f_X6_answerOf_L6 (tba 2 (Int32.toNatClampNeg (nI 1))) (nI k) (nI e + 1) V = some ((nI (pg S.2 k).2.2 + (nI k + nI (own S k))), V2) := by
      rw [e1]
      exact x1
    rw [q, Option.bind_some]
  rw [f_X6_answerTo_L6, if_pos (show (0 : Int32) = 0 from rfl), f_X6_answerTo_L6_13_u2, if_pos (ibt (by omega) (by omega)), ncl (by omega), s]
  exact w 4094
theorem o20_3 {V0 V : Mem} {S : Sh} {L : List Nat} {k e : Nat} (hok : okS S) (hk : k < S.2.length) (h : AX V0 V S L) (hL : L.length + 1 ≤ 16) (he : e + 6 ≤ 20) : ∃ V', f_X6_answerOf_L3 20 (nI k) (nI e) V = some (nI k, V') ∧ AX V0 V' S (L ++ [20]) := by
  have h24 := hok.2.2.1
  obtain ⟨V1, t1, a1⟩ := ax_trace (b := 20) hok h (by omega)
  have t1' : f_X6_leaveTrace 20 V = some V1 := t1
  have e1 : nI e + 1 = nI (e + 1) := nI_1 e
  have l1 : (L ++ [20]).length = L.length + 1 := by rw [List.length_append]; rfl
  rw [f_X6_answerOf_L3, if_pos (dep (by omega)), t1', Option.bind_some, if_neg (show ¬ (20 : Int32) = 10 by decide), if_neg (show ¬ (20 : Int32) = 11 by decide), if_neg (show ¬ (20 : Int32) = 12 by decide), if_neg (show ¬ (20 : Int32) = 13 by decide), if_neg (show ¬ (20 : Int32) = 14 by decide), if_neg (show ¬ (20 : Int32) = 15 by decide), if_neg (show ¬ (20 : Int32) = 16 by decide), if_neg (show ¬ (20 : Int32) = 17 by decide), if_neg (show ¬ (20 : Int32) = 18 by decide), if_neg (show ¬ (20 : Int32) = 19 by decide), if_pos (show (20 : Int32) = 20 from rfl)]
  exact ⟨V1, rfl, a1⟩
theorem o21_4 {V0 V : Mem} {S : Sh} {L : List Nat} {k e : Nat} (hok : okS S) (hk : k < S.2.length) (h : AX V0 V S L) (hL : L.length + 2 ≤ 16) (he : e + 8 ≤ 20) : ∃ V', f_X6_answerOf_L4 21 (nI k) (nI e) V = some ((nI k + nI (own S k)), V') ∧ AX V0 V' S ((L ++ [21]) ++ [20]) := by
  have h24 := hok.2.2.1
  obtain ⟨V1, t1, a1⟩ := ax_trace (b := 21) hok h (by omega)
  have t1' : f_X6_leaveTrace 21 V = some V1 := t1
  have e1 : nI e + 1 = nI (e + 1) := nI_1 e
  have l1 : (L ++ [21]).length = L.length + 1 := by rw [List.length_append]; rfl
  rw [f_X6_answerOf_L4, if_pos (dep (by omega)), t1', Option.bind_some, if_neg (show ¬ (21 : Int32) = 10 by decide), if_neg (show ¬ (21 : Int32) = 11 by decide), if_neg (show ¬ (21 : Int32) = 12 by decide), if_neg (show ¬ (21 : Int32) = 13 by decide), if_neg (show ¬ (21 : Int32) = 14 by decide), if_neg (show ¬ (21 : Int32) = 15 by decide), if_neg (show ¬ (21 : Int32) = 16 by decide), if_neg (show ¬ (21 : Int32) = 17 by decide), if_neg (show ¬ (21 : Int32) = 18 by decide), if_neg (show ¬ (21 : Int32) = 19 by decide), if_neg (show ¬ (21 : Int32) = 20 by decide), if_pos (show (21 : Int32) = 21 from rfl)]
  obtain ⟨V2, x1, x2⟩ := o20_3 (e := e + 1) hok hk a1 (by omega) (by omega)
  rw [e1, x1, Option.bind_some]
  obtain ⟨V3, y1, y2⟩ := ax_own hok hk x2
  dsimp only
  rw [y1, Option.bind_some]
  exact ⟨V3, rfl, y2⟩
theorem o22_5 {V0 V : Mem} {S : Sh} {L : List Nat} {k e : Nat} (hok : okS S) (hk : k < S.2.length) (h : AX V0 V S L) (hL : L.length + 3 ≤ 16) (he : e + 10 ≤ 20) : ∃ V', f_X6_answerOf_L5 22 (nI k) (nI e) V = some ((nI k + nI (own S k) - 1000), V') ∧ AX V0 V' S (((L ++ [22]) ++ [21]) ++ [20]) := by
  have h24 := hok.2.2.1
  obtain ⟨V1, t1, a1⟩ := ax_trace (b := 22) hok h (by omega)
  have t1' : f_X6_leaveTrace 22 V = some V1 := t1
  have e1 : nI e + 1 = nI (e + 1) := nI_1 e
  have l1 : (L ++ [22]).length = L.length + 1 := by rw [List.length_append]; rfl
  rw [f_X6_answerOf_L5, if_pos (dep (by omega)), t1', Option.bind_some, if_neg (show ¬ (22 : Int32) = 10 by decide), if_neg (show ¬ (22 : Int32) = 11 by decide), if_neg (show ¬ (22 : Int32) = 12 by decide), if_neg (show ¬ (22 : Int32) = 13 by decide), if_neg (show ¬ (22 : Int32) = 14 by decide), if_neg (show ¬ (22 : Int32) = 15 by decide), if_neg (show ¬ (22 : Int32) = 16 by decide), if_neg (show ¬ (22 : Int32) = 17 by decide), if_neg (show ¬ (22 : Int32) = 18 by decide), if_neg (show ¬ (22 : Int32) = 19 by decide), if_neg (show ¬ (22 : Int32) = 20 by decide), if_neg (show ¬ (22 : Int32) = 21 by decide), if_pos (show (22 : Int32) = 22 from rfl)]
  obtain ⟨V2, x1, x2⟩ := o21_4 (e := e + 1) hok hk a1 (by omega) (by omega)
  rw [e1, x1, Option.bind_some]
  exact ⟨V2, rfl, x2⟩
theorem tm_5_3 {V0 V : Mem} {S : Sh} {L : List Nat} {k e : Nat} (hok : okS S) (hk : k < S.2.length) (h : AX V0 V S L) (hd : (pg S.2 k).1 = 3) (hL : L.length + 3 ≤ 16) (he : e + 1 + 10 ≤ 20) : ∃ V', f_X6_answerTo_L5 1 (nI k) (nI e) V = some ((nI k + nI (own S k) - 1000), V') ∧ AX V0 V' S (((L ++ [22]) ++ [21]) ++ [20]) := by
  have h24 := hok.2.2.1
  have e1 : nI e + 1 = nI (e + 1) := nI_1 e
  have s : V 6 k = nI 3 := by rw [← hd]; exact (h.2.2.2.1.2.2 k hk).1
  obtain ⟨V2, x1, x2⟩ := o22_5 (e := e + 1) hok hk h (by omega) (by omega)
  refine ⟨V2, ?_, x2⟩
  have w : ∀ n, f_X6_answerTo_L5_29_t3 (n + 2) (nI k) (nI e) (nI 3) 0 V = some ((nI k + nI (own S k) - 1000), V2) := by
    intro n
    rw [f_X6_answerTo_L5_29_t3, if_neg (by decide), if_neg (by decide), if_pos (by decide)]
    rw [if_neg (by decide), f_X6_answerTo_L5_63_t3, if_pos (by decide)]
    have q : f_X6_answerOf_L5 (tba 3 (Int32.toNatClampNeg (nI 3))) (nI k) (nI e + 1) V = some ((nI k + nI (own S k) - 1000), V2) := by
      rw [e1]
      exact x1
    rw [q, Option.bind_some]
  rw [f_X6_answerTo_L5, if_neg (show ¬ (1 : Int32) = 0 by decide), f_X6_answerTo_L5_13_u3, if_pos (ibt (by omega) (by omega)), ncl (by omega), s]
  exact w 4094
theorem o11_6_3 {V0 V : Mem} {S : Sh} {L : List Nat} {k e : Nat} (hok : okS S) (hk : k < S.2.length) (h : AX V0 V S L) (hd : (pg S.2 k).1 = 3) (hL : L.length + 5 ≤ 16) (he : e + 12 ≤ 20) : ∃ V', f_X6_answerOf_L6 11 (nI k) (nI e) V = some ((nI (pg S.2 k).2.2 + (nI k + nI (own S k) - 1000)), V') ∧ AX V0 V' S (((((L ++ [11]) ++ [10]) ++ [22]) ++ [21]) ++ [20]) := by
  have h24 := hok.2.2.1
  obtain ⟨V1, t1, a1⟩ := ax_trace (b := 11) hok h (by omega)
  have t1' : f_X6_leaveTrace 11 V = some V1 := t1
  have e1 : nI e + 1 = nI (e + 1) := nI_1 e
  have l1 : (L ++ [11]).length = L.length + 1 := by rw [List.length_append]; rfl
  rw [f_X6_answerOf_L6, if_pos (dep (by omega)), t1', Option.bind_some, if_neg (show ¬ (11 : Int32) = 10 by decide), if_pos (show (11 : Int32) = 11 from rfl)]
  obtain ⟨V2, x1, x2⟩ := o10_5 (e := e + 1) hok hk a1 (by omega) (by omega)
  have l2 : (L ++ [11] ++ [10]).length = L.length + 2 := by rw [List.length_append, l1]; rfl
  obtain ⟨V3, y1, y2⟩ := tm_5_3 (e := e + 1) hok hk x2 hd (by omega) (by omega)
  rw [e1, x1, Option.bind_some]
  dsimp only
  rw [y1, Option.bind_some]
  exact ⟨V3, rfl, y2⟩
theorem zs_3 {V0 V : Mem} {S : Sh} {L : List Nat} {k e : Nat} (hok : okS S) (hk : k < S.2.length) (h : AX V0 V S L)(hd : (pg S.2 k).1 = 3) (hL : L.length + 5 ≤ 16) (he : e + 1 + 12 ≤ 20) : ∃ V', f_X6_answerTo_L6 0 (nI k) (nI e) V = some ((nI (pg S.2 k).2.2 + (nI k + nI (own S k) - 1000)), V') ∧ AX V0 V' S (((((L ++ [11]) ++ [10]) ++ [22]) ++ [21]) ++ [20]) := by
  have h24 := hok.2.2.1
  have e1 : nI e + 1 = nI (e + 1) := nI_1 e
  have s : V 6 k = nI 3 := by rw [← hd]; exact (h.2.2.2.1.2.2 k hk).1
  obtain ⟨V2, x1, x2⟩ := o11_6_3 (e := e + 1) hok hk h hd (by omega) (by omega)
  refine ⟨V2, ?_, x2⟩
  have w : ∀ n, f_X6_answerTo_L6_29_t2 (n + 2) (nI k) (nI e) (nI 3) 0 V = some ((nI (pg S.2 k).2.2 + (nI k + nI (own S k) - 1000)), V2) := by
    intro n
    rw [f_X6_answerTo_L6_29_t2, if_neg (by decide), if_neg (by decide), if_pos (by decide)]
    rw [if_pos (by decide), if_pos (by decide)]
    rw [f_X6_answerTo_L6_29_t2, if_neg (by decide), if_neg (by decide), if_pos (by decide)]
    rw [if_neg (by decide), f_X6_answerTo_L6_63_t2, if_pos (by decide)]
    have q : f_X6_answerOf_L6 (tba 2 (Int32.toNatClampNeg (tba 0 (nI 3).toNatClampNeg))) (nI k) (nI e + 1) V = some ((nI (pg S.2 k).2.2 + (nI k + nI (own S k) - 1000)), V2) := by
      rw [e1]
      exact x1
    rw [q, Option.bind_some]
  rw [f_X6_answerTo_L6, if_pos (show (0 : Int32) = 0 from rfl), f_X6_answerTo_L6_13_u2, if_pos (ibt (by omega) (by omega)), ncl (by omega), s]
  exact w 4094
theorem o10_4 {V0 V : Mem} {S : Sh} {L : List Nat} {k e : Nat} (hok : okS S) (hk : k < S.2.length) (h : AX V0 V S L) (hL : L.length + 1 ≤ 16) (he : e + 8 ≤ 20) : ∃ V', f_X6_answerOf_L4 10 (nI k) (nI e) V = some (nI (pg S.2 k).2.2, V') ∧ AX V0 V' S (L ++ [10]) := by
  have h24 := hok.2.2.1
  obtain ⟨V1, t1, a1⟩ := ax_trace (b := 10) hok h (by omega)
  have t1' : f_X6_leaveTrace 10 V = some V1 := t1
  have e1 : nI e + 1 = nI (e + 1) := nI_1 e
  have l1 : (L ++ [10]).length = L.length + 1 := by rw [List.length_append]; rfl
  rw [f_X6_answerOf_L4, if_pos (dep (by omega)), t1', Option.bind_some, if_pos (show (10 : Int32) = 10 from rfl)]
  rw [if_pos (ibt (by omega) (by omega)), ncl (by omega)]
  refine ⟨V1, ?_, a1⟩
  have s : V1 8 k = _ := (a1.2.2.2.1.2.2 k hk).2.2
  rw [s]
theorem o20_2 {V0 V : Mem} {S : Sh} {L : List Nat} {k e : Nat} (hok : okS S) (hk : k < S.2.length) (h : AX V0 V S L) (hL : L.length + 1 ≤ 16) (he : e + 4 ≤ 20) : ∃ V', f_X6_answerOf_L2 20 (nI k) (nI e) V = some (nI k, V') ∧ AX V0 V' S (L ++ [20]) := by
  have h24 := hok.2.2.1
  obtain ⟨V1, t1, a1⟩ := ax_trace (b := 20) hok h (by omega)
  have t1' : f_X6_leaveTrace 20 V = some V1 := t1
  have e1 : nI e + 1 = nI (e + 1) := nI_1 e
  have l1 : (L ++ [20]).length = L.length + 1 := by rw [List.length_append]; rfl
  rw [f_X6_answerOf_L2, if_pos (dep (by omega)), t1', Option.bind_some, if_neg (show ¬ (20 : Int32) = 10 by decide), if_neg (show ¬ (20 : Int32) = 11 by decide), if_neg (show ¬ (20 : Int32) = 12 by decide), if_neg (show ¬ (20 : Int32) = 13 by decide), if_neg (show ¬ (20 : Int32) = 14 by decide), if_neg (show ¬ (20 : Int32) = 15 by decide), if_neg (show ¬ (20 : Int32) = 16 by decide), if_neg (show ¬ (20 : Int32) = 17 by decide), if_neg (show ¬ (20 : Int32) = 18 by decide), if_neg (show ¬ (20 : Int32) = 19 by decide), if_pos (show (20 : Int32) = 20 from rfl)]
  exact ⟨V1, rfl, a1⟩
theorem o21_3 {V0 V : Mem} {S : Sh} {L : List Nat} {k e : Nat} (hok : okS S) (hk : k < S.2.length) (h : AX V0 V S L) (hL : L.length + 2 ≤ 16) (he : e + 6 ≤ 20) : ∃ V', f_X6_answerOf_L3 21 (nI k) (nI e) V = some ((nI k + nI (own S k)), V') ∧ AX V0 V' S ((L ++ [21]) ++ [20]) := by
  have h24 := hok.2.2.1
  obtain ⟨V1, t1, a1⟩ := ax_trace (b := 21) hok h (by omega)
  have t1' : f_X6_leaveTrace 21 V = some V1 := t1
  have e1 : nI e + 1 = nI (e + 1) := nI_1 e
  have l1 : (L ++ [21]).length = L.length + 1 := by rw [List.length_append]; rfl
  rw [f_X6_answerOf_L3, if_pos (dep (by omega)), t1', Option.bind_some, if_neg (show ¬ (21 : Int32) = 10 by decide), if_neg (show ¬ (21 : Int32) = 11 by decide), if_neg (show ¬ (21 : Int32) = 12 by decide), if_neg (show ¬ (21 : Int32) = 13 by decide), if_neg (show ¬ (21 : Int32) = 14 by decide), if_neg (show ¬ (21 : Int32) = 15 by decide), if_neg (show ¬ (21 : Int32) = 16 by decide), if_neg (show ¬ (21 : Int32) = 17 by decide), if_neg (show ¬ (21 : Int32) = 18 by decide), if_neg (show ¬ (21 : Int32) = 19 by decide), if_neg (show ¬ (21 : Int32) = 20 by decide), if_pos (show (21 : Int32) = 21 from rfl)]
  obtain ⟨V2, x1, x2⟩ := o20_2 (e := e + 1) hok hk a1 (by omega) (by omega)
  rw [e1, x1, Option.bind_some]
  obtain ⟨V3, y1, y2⟩ := ax_own hok hk x2
  dsimp only
  rw [y1, Option.bind_some]
  exact ⟨V3, rfl, y2⟩
theorem o24_4 {V0 V : Mem} {S : Sh} {L : List Nat} {k e : Nat} (hok : okS S) (hk : k < S.2.length) (h : AX V0 V S L) (hL : L.length + 3 ≤ 16) (he : e + 8 ≤ 20) : ∃ V', f_X6_answerOf_L4 24 (nI k) (nI e) V = some ((2 * (nI k + nI (own S k))), V') ∧ AX V0 V' S (((L ++ [24]) ++ [21]) ++ [20]) := by
  have h24 := hok.2.2.1
  obtain ⟨V1, t1, a1⟩ := ax_trace (b := 24) hok h (by omega)
  have t1' : f_X6_leaveTrace 24 V = some V1 := t1
  have e1 : nI e + 1 = nI (e + 1) := nI_1 e
  have l1 : (L ++ [24]).length = L.length + 1 := by rw [List.length_append]; rfl
  rw [f_X6_answerOf_L4, if_pos (dep (by omega)), t1', Option.bind_some, if_neg (show ¬ (24 : Int32) = 10 by decide), if_neg (show ¬ (24 : Int32) = 11 by decide), if_neg (show ¬ (24 : Int32) = 12 by decide), if_neg (show ¬ (24 : Int32) = 13 by decide), if_neg (show ¬ (24 : Int32) = 14 by decide), if_neg (show ¬ (24 : Int32) = 15 by decide), if_neg (show ¬ (24 : Int32) = 16 by decide), if_neg (show ¬ (24 : Int32) = 17 by decide), if_neg (show ¬ (24 : Int32) = 18 by decide), if_neg (show ¬ (24 : Int32) = 19 by decide), if_neg (show ¬ (24 : Int32) = 20 by decide), if_neg (show ¬ (24 : Int32) = 21 by decide), if_neg (show ¬ (24 : Int32) = 22 by decide), if_neg (show ¬ (24 : Int32) = 23 by decide), if_pos (show (24 : Int32) = 24 from rfl)]
  obtain ⟨V2, x1, x2⟩ := o21_3 (e := e + 1) hok hk a1 (by omega) (by omega)
  rw [e1, x1, Option.bind_some]
  exact ⟨V2, rfl, x2⟩
theorem tm_4_2 {V0 V : Mem} {S : Sh} {L : List Nat} {k e : Nat} (hok : okS S) (hk : k < S.2.length) (h : AX V0 V S L) (hd : (pg S.2 k).1 = 2) (hL : L.length + 3 ≤ 16) (he : e + 1 + 8 ≤ 20) : ∃ V', f_X6_answerTo_L4 1 (nI k) (nI e) V = some ((2 * (nI k + nI (own S k))), V') ∧ AX V0 V' S (((L ++ [24]) ++ [21]) ++ [20]) := by
  have h24 := hok.2.2.1
  have e1 : nI e + 1 = nI (e + 1) := nI_1 e
  have s : V 6 k = nI 2 := by rw [← hd]; exact (h.2.2.2.1.2.2 k hk).1
  obtain ⟨V2, x1, x2⟩ := o24_4 (e := e + 1) hok hk h (by omega) (by omega)
  refine ⟨V2, ?_, x2⟩
  have w : ∀ n, f_X6_answerTo_L4_29_t3 (n + 2) (nI k) (nI e) (nI 2) 0 V = some ((2 * (nI k + nI (own S k))), V2) := by
    intro n
    rw [f_X6_answerTo_L4_29_t3, if_neg (by decide), if_neg (by decide), if_pos (by decide)]
    rw [if_neg (by decide), f_X6_answerTo_L4_63_t3, if_pos (by decide)]
    have q : f_X6_answerOf_L4 (tba 3 (Int32.toNatClampNeg (nI 2))) (nI k) (nI e + 1) V = some ((2 * (nI k + nI (own S k))), V2) := by
      rw [e1]
      exact x1
    rw [q, Option.bind_some]
  rw [f_X6_answerTo_L4, if_neg (show ¬ (1 : Int32) = 0 by decide), f_X6_answerTo_L4_13_u3, if_pos (ibt (by omega) (by omega)), ncl (by omega), s]
  exact w 4094
theorem o11_5_2 {V0 V : Mem} {S : Sh} {L : List Nat} {k e : Nat} (hok : okS S) (hk : k < S.2.length) (h : AX V0 V S L) (hd : (pg S.2 k).1 = 2) (hL : L.length + 5 ≤ 16) (he : e + 10 ≤ 20) : ∃ V', f_X6_answerOf_L5 11 (nI k) (nI e) V = some ((nI (pg S.2 k).2.2 + (2 * (nI k + nI (own S k)))), V') ∧ AX V0 V' S (((((L ++ [11]) ++ [10]) ++ [24]) ++ [21]) ++ [20]) := by
  have h24 := hok.2.2.1
  obtain ⟨V1, t1, a1⟩ := ax_trace (b := 11) hok h (by omega)
  have t1' : f_X6_leaveTrace 11 V = some V1 := t1
  have e1 : nI e + 1 = nI (e + 1) := nI_1 e
  have l1 : (L ++ [11]).length = L.length + 1 := by rw [List.length_append]; rfl
  rw [f_X6_answerOf_L5, if_pos (dep (by omega)), t1', Option.bind_some, if_neg (show ¬ (11 : Int32) = 10 by decide), if_pos (show (11 : Int32) = 11 from rfl)]
  obtain ⟨V2, x1, x2⟩ := o10_4 (e := e + 1) hok hk a1 (by omega) (by omega)
  have l2 : (L ++ [11] ++ [10]).length = L.length + 2 := by rw [List.length_append, l1]; rfl
  obtain ⟨V3, y1, y2⟩ := tm_4_2 (e := e + 1) hok hk x2 hd (by omega) (by omega)
  rw [e1, x1, Option.bind_some]
  dsimp only
  rw [y1, Option.bind_some]
  exact ⟨V3, rfl, y2⟩
theorem o12_6 {V0 V : Mem} {S : Sh} {L : List Nat} {k e : Nat} (hok : okS S) (hk : k < S.2.length) (h : AX V0 V S L) (hd : (pg S.2 k).1 = 2) (hL : L.length + 6 ≤ 16) (he : e + 12 ≤ 20) : ∃ V', f_X6_answerOf_L6 12 (nI k) (nI e) V = some ((-(nI (pg S.2 k).2.2 + (2 * (nI k + nI (own S k))))), V') ∧ AX V0 V' S ((((((L ++ [12]) ++ [11]) ++ [10]) ++ [24]) ++ [21]) ++ [20]) := by
  have h24 := hok.2.2.1
  obtain ⟨V1, t1, a1⟩ := ax_trace (b := 12) hok h (by omega)
  have t1' : f_X6_leaveTrace 12 V = some V1 := t1
  have e1 : nI e + 1 = nI (e + 1) := nI_1 e
  have l1 : (L ++ [12]).length = L.length + 1 := by rw [List.length_append]; rfl
  rw [f_X6_answerOf_L6, if_pos (dep (by omega)), t1', Option.bind_some, if_neg (show ¬ (12 : Int32) = 10 by decide), if_neg (show ¬ (12 : Int32) = 11 by decide), if_pos (show (12 : Int32) = 12 from rfl)]
  obtain ⟨V2, x1, x2⟩ := o11_5_2 (e := e + 1) hok hk a1 hd (by omega) (by omega)
  rw [e1, x1, Option.bind_some]
  exact ⟨V2, rfl, x2⟩
theorem zs_2 {V0 V : Mem} {S : Sh} {L : List Nat} {k e : Nat} (hok : okS S) (hk : k < S.2.length) (h : AX V0 V S L)(hd : (pg S.2 k).1 = 2) (hL : L.length + 6 ≤ 16) (he : e + 1 + 12 ≤ 20) : ∃ V', f_X6_answerTo_L6 0 (nI k) (nI e) V = some ((-(nI (pg S.2 k).2.2 + (2 * (nI k + nI (own S k))))), V') ∧ AX V0 V' S ((((((L ++ [12]) ++ [11]) ++ [10]) ++ [24]) ++ [21]) ++ [20]) := by
  have h24 := hok.2.2.1
  have e1 : nI e + 1 = nI (e + 1) := nI_1 e
  have s : V 6 k = nI 2 := by rw [← hd]; exact (h.2.2.2.1.2.2 k hk).1
  obtain ⟨V2, x1, x2⟩ := o12_6 (e := e + 1) hok hk h hd (by omega) (by omega)
  refine ⟨V2, ?_, x2⟩
  have w : ∀ n, f_X6_answerTo_L6_29_t2 (n + 2) (nI k) (nI e) (nI 2) 0 V = some ((-(nI (pg S.2 k).2.2 + (2 * (nI k + nI (own S k))))), V2) := by
    intro n
    rw [f_X6_answerTo_L6_29_t2, if_neg (by decide), if_neg (by decide), if_pos (by decide)]
    rw [if_neg (by decide), f_X6_answerTo_L6_63_t2, if_pos (by decide)]
    have q : f_X6_answerOf_L6 (tba 2 (Int32.toNatClampNeg (nI 2))) (nI k) (nI e + 1) V = some ((-(nI (pg S.2 k).2.2 + (2 * (nI k + nI (own S k))))), V2) := by
      rw [e1]
      exact x1
    rw [q, Option.bind_some]
  rw [f_X6_answerTo_L6, if_pos (show (0 : Int32) = 0 from rfl), f_X6_answerTo_L6_13_u2, if_pos (ibt (by omega) (by omega)), ncl (by omega), s]
  exact w 4094
theorem o13_6 {V0 V : Mem} {S : Sh} {L : List Nat} {k e : Nat} (hok : okS S) (hk : k < S.2.length) (h : AX V0 V S L) (hL : L.length + 2 ≤ 16) (he : e + 12 ≤ 20) : ∃ V', f_X6_answerOf_L6 13 (nI k) (nI e) V = some ((nI (pg S.2 k).2.2 - 100), V') ∧ AX V0 V' S ((L ++ [13]) ++ [10]) := by
  have h24 := hok.2.2.1
  obtain ⟨V1, t1, a1⟩ := ax_trace (b := 13) hok h (by omega)
  have t1' : f_X6_leaveTrace 13 V = some V1 := t1
  have e1 : nI e + 1 = nI (e + 1) := nI_1 e
  have l1 : (L ++ [13]).length = L.length + 1 := by rw [List.length_append]; rfl
  rw [f_X6_answerOf_L6, if_pos (dep (by omega)), t1', Option.bind_some, if_neg (show ¬ (13 : Int32) = 10 by decide), if_neg (show ¬ (13 : Int32) = 11 by decide), if_neg (show ¬ (13 : Int32) = 12 by decide), if_pos (show (13 : Int32) = 13 from rfl)]
  obtain ⟨V2, x1, x2⟩ := o10_5 (e := e + 1) hok hk a1 (by omega) (by omega)
  rw [e1, x1, Option.bind_some]
  exact ⟨V2, rfl, x2⟩
theorem zs_4 {V0 V : Mem} {S : Sh} {L : List Nat} {k e : Nat} (hok : okS S) (hk : k < S.2.length) (h : AX V0 V S L) (hd : (pg S.2 k).1 = 4) (hL : L.length + 2 ≤ 16) (he : e + 1 + 12 ≤ 20) : ∃ V', f_X6_answerTo_L6 0 (nI k) (nI e) V = some ((nI (pg S.2 k).2.2 - 100), V') ∧ AX V0 V' S ((L ++ [13]) ++ [10]) := by
  have h24 := hok.2.2.1
  have e1 : nI e + 1 = nI (e + 1) := nI_1 e
  have s : V 6 k = nI 4 := by rw [← hd]; exact (h.2.2.2.1.2.2 k hk).1
  obtain ⟨V2, x1, x2⟩ := o13_6 (e := e + 1) hok hk h (by omega) (by omega)
  refine ⟨V2, ?_, x2⟩
  have w : ∀ n, f_X6_answerTo_L6_29_t2 (n + 2) (nI k) (nI e) (nI 4) 0 V = some ((nI (pg S.2 k).2.2 - 100), V2) := by
    intro n
    rw [f_X6_answerTo_L6_29_t2, if_neg (by decide), if_neg (by decide), if_pos (by decide)]
    rw [if_neg (by decide), f_X6_answerTo_L6_63_t2, if_pos (by decide)]
    have q : f_X6_answerOf_L6 (tba 2 (Int32.toNatClampNeg (nI 4))) (nI k) (nI e + 1) V = some ((nI (pg S.2 k).2.2 - 100), V2) := by
      rw [e1]
      exact x1
    rw [q, Option.bind_some]
  rw [f_X6_answerTo_L6, if_pos (show (0 : Int32) = 0 from rfl), f_X6_answerTo_L6_13_u2, if_pos (ibt (by omega) (by omega)), ncl (by omega), s]
  exact w 4094
theorem o13_5 {V0 V : Mem} {S : Sh} {L : List Nat} {k e : Nat} (hok : okS S) (hk : k < S.2.length) (h : AX V0 V S L) (hL : L.length + 2 ≤ 16) (he : e + 10 ≤ 20) : ∃ V', f_X6_answerOf_L5 13 (nI k) (nI e) V = some ((nI (pg S.2 k).2.2 - 100), V') ∧ AX V0 V' S ((L ++ [13]) ++ [10]) := by
  have h24 := hok.2.2.1
  obtain ⟨V1, t1, a1⟩ := ax_trace (b := 13) hok h (by omega)
  have t1' : f_X6_leaveTrace 13 V = some V1 := t1
  have e1 : nI e + 1 = nI (e + 1) := nI_1 e
  have l1 : (L ++ [13]).length = L.length + 1 := by rw [List.length_append]; rfl
  rw [f_X6_answerOf_L5, if_pos (dep (by omega)), t1', Option.bind_some, if_neg (show ¬ (13 : Int32) = 10 by decide), if_neg (show ¬ (13 : Int32) = 11 by decide), if_neg (show ¬ (13 : Int32) = 12 by decide), if_pos (show (13 : Int32) = 13 from rfl)]
  obtain ⟨V2, x1, x2⟩ := o10_4 (e := e + 1) hok hk a1 (by omega) (by omega)
  rw [e1, x1, Option.bind_some]
  exact ⟨V2, rfl, x2⟩
theorem o14_6 {V0 V : Mem} {S : Sh} {L : List Nat} {k e : Nat} (hok : okS S) (hk : k < S.2.length) (h : AX V0 V S L) (hL : L.length + 3 ≤ 16) (he : e + 12 ≤ 20) : ∃ V', f_X6_answerOf_L6 14 (nI k) (nI e) V = some ((2 * (nI (pg S.2 k).2.2 - 100)), V') ∧ AX V0 V' S (((L ++ [14]) ++ [13]) ++ [10]) := by
  have h24 := hok.2.2.1
  obtain ⟨V1, t1, a1⟩ := ax_trace (b := 14) hok h (by omega)
  have t1' : f_X6_leaveTrace 14 V = some V1 := t1
  have e1 : nI e + 1 = nI (e + 1) := nI_1 e
  have l1 : (L ++ [14]).length = L.length + 1 := by rw [List.length_append]; rfl
  rw [f_X6_answerOf_L6, if_pos (dep (by omega)), t1', Option.bind_some, if_neg (show ¬ (14 : Int32) = 10 by decide), if_neg (show ¬ (14 : Int32) = 11 by decide), if_neg (show ¬ (14 : Int32) = 12 by decide), if_neg (show ¬ (14 : Int32) = 13 by decide), if_pos (show (14 : Int32) = 14 from rfl)]
  obtain ⟨V2, x1, x2⟩ := o13_5 (e := e + 1) hok hk a1 (by omega) (by omega)
  rw [e1, x1, Option.bind_some]
  exact ⟨V2, rfl, x2⟩
theorem zs_5 {V0 V : Mem} {S : Sh} {L : List Nat} {k e : Nat} (hok : okS S) (hk : k < S.2.length) (h : AX V0 V S L) (hd : (pg S.2 k).1 = 5) (hL : L.length + 3 ≤ 16) (he : e + 1 + 12 ≤ 20) : ∃ V', f_X6_answerTo_L6 0 (nI k) (nI e) V = some ((2 * (nI (pg S.2 k).2.2 - 100)), V') ∧ AX V0 V' S (((L ++ [14]) ++ [13]) ++ [10]) := by
  have h24 := hok.2.2.1
  have e1 : nI e + 1 = nI (e + 1) := nI_1 e
  have s : V 6 k = nI 5 := by rw [← hd]; exact (h.2.2.2.1.2.2 k hk).1
  obtain ⟨V2, x1, x2⟩ := o14_6 (e := e + 1) hok hk h (by omega) (by omega)
  refine ⟨V2, ?_, x2⟩
  have w : ∀ n, f_X6_answerTo_L6_29_t2 (n + 2) (nI k) (nI e) (nI 5) 0 V = some ((2 * (nI (pg S.2 k).2.2 - 100)), V2) := by
    intro n
    rw [f_X6_answerTo_L6_29_t2, if_neg (by decide), if_neg (by decide), if_pos (by decide)]
    rw [if_neg (by decide), f_X6_answerTo_L6_63_t2, if_pos (by decide)]
    have q : f_X6_answerOf_L6 (tba 2 (Int32.toNatClampNeg (nI 5))) (nI k) (nI e + 1) V = some ((2 * (nI (pg S.2 k).2.2 - 100)), V2) := by
      rw [e1]
      exact x1
    rw [q, Option.bind_some]
  rw [f_X6_answerTo_L6, if_pos (show (0 : Int32) = 0 from rfl), f_X6_answerTo_L6_13_u2, if_pos (ibt (by omega) (by omega)), ncl (by omega), s]
  exact w 4094
theorem o20_5 {V0 V : Mem} {S : Sh} {L : List Nat} {k e : Nat} (hok : okS S) (hk : k < S.2.length) (h : AX V0 V S L) (hL : L.length + 1 ≤ 16) (he : e + 10 ≤ 20) : ∃ V', f_X6_answerOf_L5 20 (nI k) (nI e) V = some (nI k, V') ∧ AX V0 V' S (L ++ [20]) := by
  have h24 := hok.2.2.1
  obtain ⟨V1, t1, a1⟩ := ax_trace (b := 20) hok h (by omega)
  have t1' : f_X6_leaveTrace 20 V = some V1 := t1
  have e1 : nI e + 1 = nI (e + 1) := nI_1 e
  have l1 : (L ++ [20]).length = L.length + 1 := by rw [List.length_append]; rfl
  rw [f_X6_answerOf_L5, if_pos (dep (by omega)), t1', Option.bind_some, if_neg (show ¬ (20 : Int32) = 10 by decide), if_neg (show ¬ (20 : Int32) = 11 by decide), if_neg (show ¬ (20 : Int32) = 12 by decide), if_neg (show ¬ (20 : Int32) = 13 by decide), if_neg (show ¬ (20 : Int32) = 14 by decide), if_neg (show ¬ (20 : Int32) = 15 by decide), if_neg (show ¬ (20 : Int32) = 16 by decide), if_neg (show ¬ (20 : Int32) = 17 by decide), if_neg (show ¬ (20 : Int32) = 18 by decide), if_neg (show ¬ (20 : Int32) = 19 by decide), if_pos (show (20 : Int32) = 20 from rfl)]
  exact ⟨V1, rfl, a1⟩
theorem o21_6 {V0 V : Mem} {S : Sh} {L : List Nat} {k e : Nat} (hok : okS S) (hk : k < S.2.length) (h : AX V0 V S L) (hL : L.length + 2 ≤ 16) (he : e + 12 ≤ 20) : ∃ V', f_X6_answerOf_L6 21 (nI k) (nI e) V = some ((nI k + nI (own S k)), V') ∧ AX V0 V' S ((L ++ [21]) ++ [20]) := by
  have h24 := hok.2.2.1
  obtain ⟨V1, t1, a1⟩ := ax_trace (b := 21) hok h (by omega)
  have t1' : f_X6_leaveTrace 21 V = some V1 := t1
  have e1 : nI e + 1 = nI (e + 1) := nI_1 e
  have l1 : (L ++ [21]).length = L.length + 1 := by rw [List.length_append]; rfl
  rw [f_X6_answerOf_L6, if_pos (dep (by omega)), t1', Option.bind_some, if_neg (show ¬ (21 : Int32) = 10 by decide), if_neg (show ¬ (21 : Int32) = 11 by decide), if_neg (show ¬ (21 : Int32) = 12 by decide), if_neg (show ¬ (21 : Int32) = 13 by decide), if_neg (show ¬ (21 : Int32) = 14 by decide), if_neg (show ¬ (21 : Int32) = 15 by decide), if_neg (show ¬ (21 : Int32) = 16 by decide), if_neg (show ¬ (21 : Int32) = 17 by decide), if_neg (show ¬ (21 : Int32) = 18 by decide), if_neg (show ¬ (21 : Int32) = 19 by decide), if_neg (show ¬ (21 : Int32) = 20 by decide), if_pos (show (21 : Int32) = 21 from rfl)]
  obtain ⟨V2, x1, x2⟩ := o20_5 (e := e + 1) hok hk a1 (by omega) (by omega)
  rw [e1, x1, Option.bind_some]
  obtain ⟨V3, y1, y2⟩ := ax_own hok hk x2
  dsimp only
  rw [y1, Option.bind_some]
  exact ⟨V3, rfl, y2⟩
theorem zm_1 {V0 V : Mem} {S : Sh} {L : List Nat} {k e : Nat} (hok : okS S) (hk : k < S.2.length) (h : AX V0 V S L) (hd : (pg S.2 k).1 = 1) (hL : L.length + 2 ≤ 16) (he : e + 1 + 12 ≤ 20) : ∃ V', f_X6_answerTo_L6 1 (nI k) (nI e) V = some ((nI k + nI (own S k)), V') ∧ AX V0 V' S ((L ++ [21]) ++ [20]) := by
  have h24 := hok.2.2.1
  have e1 : nI e + 1 = nI (e + 1) := nI_1 e
  have s : V 6 k = nI 1 := by rw [← hd]; exact (h.2.2.2.1.2.2 k hk).1
  obtain ⟨V2, x1, x2⟩ := o21_6 (e := e + 1) hok hk h (by omega) (by omega)
  refine ⟨V2, ?_, x2⟩
  have w : ∀ n, f_X6_answerTo_L6_29_t3 (n + 2) (nI k) (nI e) (nI 1) 0 V = some ((nI k + nI (own S k)), V2) := by
    intro n
    rw [f_X6_answerTo_L6_29_t3, if_neg (by decide), if_neg (by decide), if_pos (by decide)]
    rw [if_neg (by decide), f_X6_answerTo_L6_63_t3, if_pos (by decide)]
    have q : f_X6_answerOf_L6 (tba 3 (Int32.toNatClampNeg (nI 1))) (nI k) (nI e + 1) V = some ((nI k + nI (own S k)), V2) := by
      rw [e1]
      exact x1
    rw [q, Option.bind_some]
  rw [f_X6_answerTo_L6, if_neg (show ¬ (1 : Int32) = 0 by decide), f_X6_answerTo_L6_13_u3, if_pos (ibt (by omega) (by omega)), ncl (by omega), s]
  exact w 4094
theorem o24_6 {V0 V : Mem} {S : Sh} {L : List Nat} {k e : Nat} (hok : okS S) (hk : k < S.2.length) (h : AX V0 V S L) (hL : L.length + 3 ≤ 16) (he : e + 12 ≤ 20) : ∃ V', f_X6_answerOf_L6 24 (nI k) (nI e) V = some ((2 * (nI k + nI (own S k))), V') ∧ AX V0 V' S (((L ++ [24]) ++ [21]) ++ [20]) := by
  have h24 := hok.2.2.1
  obtain ⟨V1, t1, a1⟩ := ax_trace (b := 24) hok h (by omega)
  have t1' : f_X6_leaveTrace 24 V = some V1 := t1
  have e1 : nI e + 1 = nI (e + 1) := nI_1 e
  have l1 : (L ++ [24]).length = L.length + 1 := by rw [List.length_append]; rfl
  rw [f_X6_answerOf_L6, if_pos (dep (by omega)), t1', Option.bind_some, if_neg (show ¬ (24 : Int32) = 10 by decide), if_neg (show ¬ (24 : Int32) = 11 by decide), if_neg (show ¬ (24 : Int32) = 12 by decide), if_neg (show ¬ (24 : Int32) = 13 by decide), if_neg (show ¬ (24 : Int32) = 14 by decide), if_neg (show ¬ (24 : Int32) = 15 by decide), if_neg (show ¬ (24 : Int32) = 16 by decide), if_neg (show ¬ (24 : Int32) = 17 by decide), if_neg (show ¬ (24 : Int32) = 18 by decide), if_neg (show ¬ (24 : Int32) = 19 by decide), if_neg (show ¬ (24 : Int32) = 20 by decide), if_neg (show ¬ (24 : Int32) = 21 by decide), if_neg (show ¬ (24 : Int32) = 22 by decide), if_neg (show ¬ (24 : Int32) = 23 by decide), if_pos (show (24 : Int32) = 24 from rfl)]
  obtain ⟨V2, x1, x2⟩ := o21_5 (e := e + 1) hok hk a1 (by omega) (by omega)
  rw [e1, x1, Option.bind_some]
  exact ⟨V2, rfl, x2⟩
theorem zm_2 {V0 V : Mem} {S : Sh} {L : List Nat} {k e : Nat} (hok : okS S) (hk : k < S.2.length) (h : AX V0 V S L) (hd : (pg S.2 k).1 = 2) (hL : L.length + 3 ≤ 16) (he : e + 1 + 12 ≤ 20) : ∃ V', f_X6_answerTo_L6 1 (nI k) (nI e) V = some ((2 * (nI k + nI (own S k))), V') ∧ AX V0 V' S (((L ++ [24]) ++ [21]) ++ [20]) := by
  have h24 := hok.2.2.1
  have e1 : nI e + 1 = nI (e + 1) := nI_1 e
  have s : V 6 k = nI 2 := by rw [← hd]; exact (h.2.2.2.1.2.2 k hk).1
  obtain ⟨V2, x1, x2⟩ := o24_6 (e := e + 1) hok hk h (by omega) (by omega)
  refine ⟨V2, ?_, x2⟩
  have w : ∀ n, f_X6_answerTo_L6_29_t3 (n + 2) (nI k) (nI e) (nI 2) 0 V = some ((2 * (nI k + nI (own S k))), V2) := by
    intro n
    rw [f_X6_answerTo_L6_29_t3, if_neg (by decide), if_neg (by decide), if_pos (by decide)]
    rw [if_neg (by decide), f_X6_answerTo_L6_63_t3, if_pos (by decide)]
    have q : f_X6_answerOf_L6 (tba 3 (Int32.toNatClampNeg (nI 2))) (nI k) (nI e + 1) V = some ((2 * (nI k + nI (own S k))), V2) := by
      rw [e1]
      exact x1
    rw [q, Option.bind_some]
  rw [f_X6_answerTo_L6, if_neg (show ¬ (1 : Int32) = 0 by decide), f_X6_answerTo_L6_13_u3, if_pos (ibt (by omega) (by omega)), ncl (by omega), s]
  exact w 4094
theorem o22_6 {V0 V : Mem} {S : Sh} {L : List Nat} {k e : Nat} (hok : okS S) (hk : k < S.2.length) (h : AX V0 V S L) (hL : L.length + 3 ≤ 16) (he : e + 12 ≤ 20) : ∃ V', f_X6_answerOf_L6 22 (nI k) (nI e) V = some ((nI k + nI (own S k) - 1000), V') ∧ AX V0 V' S (((L ++ [22]) ++ [21]) ++ [20]) := by
  have h24 := hok.2.2.1
  obtain ⟨V1, t1, a1⟩ := ax_trace (b := 22) hok h (by omega)
  have t1' : f_X6_leaveTrace 22 V = some V1 := t1
  have e1 : nI e + 1 = nI (e + 1) := nI_1 e
  have l1 : (L ++ [22]).length = L.length + 1 := by rw [List.length_append]; rfl
  rw [f_X6_answerOf_L6, if_pos (dep (by omega)), t1', Option.bind_some, if_neg (show ¬ (22 : Int32) = 10 by decide), if_neg (show ¬ (22 : Int32) = 11 by decide), if_neg (show ¬ (22 : Int32) = 12 by decide), if_neg (show ¬ (22 : Int32) = 13 by decide), if_neg (show ¬ (22 : Int32) = 14 by decide), if_neg (show ¬ (22 : Int32) = 15 by decide), if_neg (show ¬ (22 : Int32) = 16 by decide), if_neg (show ¬ (22 : Int32) = 17 by decide), if_neg (show ¬ (22 : Int32) = 18 by decide), if_neg (show ¬ (22 : Int32) = 19 by decide), if_neg (show ¬ (22 : Int32) = 20 by decide), if_neg (show ¬ (22 : Int32) = 21 by decide), if_pos (show (22 : Int32) = 22 from rfl)]
  obtain ⟨V2, x1, x2⟩ := o21_5 (e := e + 1) hok hk a1 (by omega) (by omega)
  rw [e1, x1, Option.bind_some]
  exact ⟨V2, rfl, x2⟩
theorem zm_3 {V0 V : Mem} {S : Sh} {L : List Nat} {k e : Nat} (hok : okS S) (hk : k < S.2.length) (h : AX V0 V S L) (hd : (pg S.2 k).1 = 3) (hL : L.length + 3 ≤ 16) (he : e + 1 + 12 ≤ 20) : ∃ V', f_X6_answerTo_L6 1 (nI k) (nI e) V = some ((nI k + nI (own S k) - 1000), V') ∧ AX V0 V' S (((L ++ [22]) ++ [21]) ++ [20]) := by
  have h24 := hok.2.2.1
  have e1 : nI e + 1 = nI (e + 1) := nI_1 e
  have s : V 6 k = nI 3 := by rw [← hd]; exact (h.2.2.2.1.2.2 k hk).1
  obtain ⟨V2, x1, x2⟩ := o22_6 (e := e + 1) hok hk h (by omega) (by omega)
  refine ⟨V2, ?_, x2⟩
  have w : ∀ n, f_X6_answerTo_L6_29_t3 (n + 2) (nI k) (nI e) (nI 3) 0 V = some ((nI k + nI (own S k) - 1000), V2) := by
    intro n
    rw [f_X6_answerTo_L6_29_t3, if_neg (by decide), if_neg (by decide), if_pos (by decide)]
    rw [if_neg (by decide), f_X6_answerTo_L6_63_t3, if_pos (by decide)]
    have q : f_X6_answerOf_L6 (tba 3 (Int32.toNatClampNeg (nI 3))) (nI k) (nI e + 1) V = some ((nI k + nI (own S k) - 1000), V2) := by
      rw [e1]
      exact x1
    rw [q, Option.bind_some]
  rw [f_X6_answerTo_L6, if_neg (show ¬ (1 : Int32) = 0 by decide), f_X6_answerTo_L6_13_u3, if_pos (ibt (by omega) (by omega)), ncl (by omega), s]
  exact w 4094
theorem ts_5_4 {V0 V : Mem} {S : Sh} {L : List Nat} {k e : Nat} (hok : okS S) (hk : k < S.2.length) (h : AX V0 V S L) (hd : (pg S.2 k).1 = 4) (hL : L.length + 2 ≤ 16) (he : e + 1 + 10 ≤ 20) : ∃ V', f_X6_answerTo_L5 0 (nI k) (nI e) V = some ((nI (pg S.2 k).2.2 - 100), V') ∧ AX V0 V' S ((L ++ [13]) ++ [10]) := by
  have h24 := hok.2.2.1
  have e1 : nI e + 1 = nI (e + 1) := nI_1 e
  have s : V 6 k = nI 4 := by rw [← hd]; exact (h.2.2.2.1.2.2 k hk).1
  obtain ⟨V2, x1, x2⟩ := o13_5 (e := e + 1) hok hk h (by omega) (by omega)
  refine ⟨V2, ?_, x2⟩
  have w : ∀ n, f_X6_answerTo_L5_29_t2 (n + 2) (nI k) (nI e) (nI 4) 0 V = some ((nI (pg S.2 k).2.2 - 100), V2) := by
    intro n
    rw [f_X6_answerTo_L5_29_t2, if_neg (by decide), if_neg (by decide), if_pos (by decide)]
    rw [if_neg (by decide), f_X6_answerTo_L5_63_t2, if_pos (by decide)]
    have q : f_X6_answerOf_L5 (tba 2 (Int32.toNatClampNeg (nI 4))) (nI k) (nI e + 1) V = some ((nI (pg S.2 k).2.2 - 100), V2) := by
      rw [e1]
      exact x1
    rw [q, Option.bind_some]
  rw [f_X6_answerTo_L5, if_pos (show (0 : Int32) = 0 from rfl), f_X6_answerTo_L5_13_u2, if_pos (ibt (by omega) (by omega)), ncl (by omega), s]
  exact w 4094
theorem o23_6_4 {V0 V : Mem} {S : Sh} {L : List Nat} {k e : Nat} (hok : okS S) (hk : k < S.2.length) (h : AX V0 V S L) (hd : (pg S.2 k).1 = 4) (hL : L.length + 4 ≤ 16) (he : e + 12 ≤ 20) : ∃ V', f_X6_answerOf_L6 23 (nI k) (nI e) V = some ((nI k - (nI (pg S.2 k).2.2 - 100)), V') ∧ AX V0 V' S ((((L ++ [23]) ++ [20]) ++ [13]) ++ [10]) := by
  have h24 := hok.2.2.1
  obtain ⟨V1, t1, a1⟩ := ax_trace (b := 23) hok h (by omega)
  have t1' : f_X6_leaveTrace 23 V = some V1 := t1
  have e1 : nI e + 1 = nI (e + 1) := nI_1 e
  have l1 : (L ++ [23]).length = L.length + 1 := by rw [List.length_append]; rfl
  rw [f_X6_answerOf_L6, if_pos (dep (by omega)), t1', Option.bind_some, if_neg (show ¬ (23 : Int32) = 10 by decide), if_neg (show ¬ (23 : Int32) = 11 by decide), if_neg (show ¬ (23 : Int32) = 12 by decide), if_neg (show ¬ (23 : Int32) = 13 by decide), if_neg (show ¬ (23 : Int32) = 14 by decide), if_neg (show ¬ (23 : Int32) = 15 by decide), if_neg (show ¬ (23 : Int32) = 16 by decide), if_neg (show ¬ (23 : Int32) = 17 by decide), if_neg (show ¬ (23 : Int32) = 18 by decide), if_neg (show ¬ (23 : Int32) = 19 by decide), if_neg (show ¬ (23 : Int32) = 20 by decide), if_neg (show ¬ (23 : Int32) = 21 by decide), if_neg (show ¬ (23 : Int32) = 22 by decide), if_pos (show (23 : Int32) = 23 from rfl)]
  obtain ⟨V2, x1, x2⟩ := o20_5 (e := e + 1) hok hk a1 (by omega) (by omega)
  have l2 : (L ++ [23] ++ [20]).length = L.length + 2 := by rw [List.length_append, l1]; rfl
  obtain ⟨V3, y1, y2⟩ := ts_5_4 (e := e + 1) hok hk x2 hd (by omega) (by omega)
  rw [e1, x1, Option.bind_some]
  dsimp only
  rw [y1, Option.bind_some]
  exact ⟨V3, rfl, y2⟩
theorem zm_4 {V0 V : Mem} {S : Sh} {L : List Nat} {k e : Nat} (hok : okS S) (hk : k < S.2.length) (h : AX V0 V S L)(hd : (pg S.2 k).1 = 4) (hL : L.length + 4 ≤ 16) (he : e + 1 + 12 ≤ 20) : ∃ V', f_X6_answerTo_L6 1 (nI k) (nI e) V = some ((nI k - (nI (pg S.2 k).2.2 - 100)), V') ∧ AX V0 V' S ((((L ++ [23]) ++ [20]) ++ [13]) ++ [10]) := by
  have h24 := hok.2.2.1
  have e1 : nI e + 1 = nI (e + 1) := nI_1 e
  have s : V 6 k = nI 4 := by rw [← hd]; exact (h.2.2.2.1.2.2 k hk).1
  obtain ⟨V2, x1, x2⟩ := o23_6_4 (e := e + 1) hok hk h hd (by omega) (by omega)
  refine ⟨V2, ?_, x2⟩
  have w : ∀ n, f_X6_answerTo_L6_29_t3 (n + 2) (nI k) (nI e) (nI 4) 0 V = some ((nI k - (nI (pg S.2 k).2.2 - 100)), V2) := by
    intro n
    rw [f_X6_answerTo_L6_29_t3, if_neg (by decide), if_neg (by decide), if_pos (by decide)]
    rw [if_neg (by decide), f_X6_answerTo_L6_63_t3, if_pos (by decide)]
    have q : f_X6_answerOf_L6 (tba 3 (Int32.toNatClampNeg (nI 4))) (nI k) (nI e + 1) V = some ((nI k - (nI (pg S.2 k).2.2 - 100)), V2) := by
      rw [e1]
      exact x1
    rw [q, Option.bind_some]
  rw [f_X6_answerTo_L6, if_neg (show ¬ (1 : Int32) = 0 by decide), f_X6_answerTo_L6_13_u3, if_pos (ibt (by omega) (by omega)), ncl (by omega), s]
  exact w 4094
theorem o10_3 {V0 V : Mem} {S : Sh} {L : List Nat} {k e : Nat} (hok : okS S) (hk : k < S.2.length) (h : AX V0 V S L) (hL : L.length + 1 ≤ 16) (he : e + 6 ≤ 20) : ∃ V', f_X6_answerOf_L3 10 (nI k) (nI e) V = some (nI (pg S.2 k).2.2, V') ∧ AX V0 V' S (L ++ [10]) := by
  have h24 := hok.2.2.1
  obtain ⟨V1, t1, a1⟩ := ax_trace (b := 10) hok h (by omega)
  have t1' : f_X6_leaveTrace 10 V = some V1 := t1
  have e1 : nI e + 1 = nI (e + 1) := nI_1 e
  have l1 : (L ++ [10]).length = L.length + 1 := by rw [List.length_append]; rfl
  rw [f_X6_answerOf_L3, if_pos (dep (by omega)), t1', Option.bind_some, if_pos (show (10 : Int32) = 10 from rfl)]
  rw [if_pos (ibt (by omega) (by omega)), ncl (by omega)]
  refine ⟨V1, ?_, a1⟩
  have s : V1 8 k = _ := (a1.2.2.2.1.2.2 k hk).2.2
  rw [s]
theorem o13_4 {V0 V : Mem} {S : Sh} {L : List Nat} {k e : Nat} (hok : okS S) (hk : k < S.2.length) (h : AX V0 V S L) (hL : L.length + 2 ≤ 16) (he : e + 8 ≤ 20) : ∃ V', f_X6_answerOf_L4 13 (nI k) (nI e) V = some ((nI (pg S.2 k).2.2 - 100), V') ∧ AX V0 V' S ((L ++ [13]) ++ [10]) := by
  have h24 := hok.2.2.1
  obtain ⟨V1, t1, a1⟩ := ax_trace (b := 13) hok h (by omega)
  have t1' : f_X6_leaveTrace 13 V = some V1 := t1
  have e1 : nI e + 1 = nI (e + 1) := nI_1 e
  have l1 : (L ++ [13]).length = L.length + 1 := by rw [List.length_append]; rfl
  rw [f_X6_answerOf_L4, if_pos (dep (by omega)), t1', Option.bind_some, if_neg (show ¬ (13 : Int32) = 10 by decide), if_neg (show ¬ (13 : Int32) = 11 by decide), if_neg (show ¬ (13 : Int32) = 12 by decide), if_pos (show (13 : Int32) = 13 from rfl)]
  obtain ⟨V2, x1, x2⟩ := o10_3 (e := e + 1) hok hk a1 (by omega) (by omega)
  rw [e1, x1, Option.bind_some]
  exact ⟨V2, rfl, x2⟩
theorem o14_5 {V0 V : Mem} {S : Sh} {L : List Nat} {k e : Nat} (hok : okS S) (hk : k < S.2.length) (h : AX V0 V S L) (hL : L.length + 3 ≤ 16) (he : e + 10 ≤ 20) : ∃ V', f_X6_answerOf_L5 14 (nI k) (nI e) V = some ((2 * (nI (pg S.2 k).2.2 - 100)), V') ∧ AX V0 V' S (((L ++ [14]) ++ [13]) ++ [10]) := by
  have h24 := hok.2.2.1
  obtain ⟨V1, t1, a1⟩ := ax_trace (b := 14) hok h (by omega)
  have t1' : f_X6_leaveTrace 14 V = some V1 := t1
  have e1 : nI e + 1 = nI (e + 1) := nI_1 e
  have l1 : (L ++ [14]).length = L.length + 1 := by rw [List.length_append]; rfl
  rw [f_X6_answerOf_L5, if_pos (dep (by omega)), t1', Option.bind_some, if_neg (show ¬ (14 : Int32) = 10 by decide), if_neg (show ¬ (14 : Int32) = 11 by decide), if_neg (show ¬ (14 : Int32) = 12 by decide), if_neg (show ¬ (14 : Int32) = 13 by decide), if_pos (show (14 : Int32) = 14 from rfl)]
  obtain ⟨V2, x1, x2⟩ := o13_4 (e := e + 1) hok hk a1 (by omega) (by omega)
  rw [e1, x1, Option.bind_some]
  exact ⟨V2, rfl, x2⟩
theorem ts_5_5 {V0 V : Mem} {S : Sh} {L : List Nat} {k e : Nat} (hok : okS S) (hk : k < S.2.length) (h : AX V0 V S L) (hd : (pg S.2 k).1 = 5) (hL : L.length + 3 ≤ 16) (he : e + 1 + 10 ≤ 20) : ∃ V', f_X6_answerTo_L5 0 (nI k) (nI e) V = some ((2 * (nI (pg S.2 k).2.2 - 100)), V') ∧ AX V0 V' S (((L ++ [14]) ++ [13]) ++ [10]) := by
  have h24 := hok.2.2.1
  have e1 : nI e + 1 = nI (e + 1) := nI_1 e
  have s : V 6 k = nI 5 := by rw [← hd]; exact (h.2.2.2.1.2.2 k hk).1
  obtain ⟨V2, x1, x2⟩ := o14_5 (e := e + 1) hok hk h (by omega) (by omega)
  refine ⟨V2, ?_, x2⟩
  have w : ∀ n, f_X6_answerTo_L5_29_t2 (n + 2) (nI k) (nI e) (nI 5) 0 V = some ((2 * (nI (pg S.2 k).2.2 - 100)), V2) := by
    intro n
    rw [f_X6_answerTo_L5_29_t2, if_neg (by decide), if_neg (by decide), if_pos (by decide)]
    rw [if_neg (by decide), f_X6_answerTo_L5_63_t2, if_pos (by decide)]
    have q : f_X6_answerOf_L5 (tba 2 (Int32.toNatClampNeg (nI 5))) (nI k) (nI e + 1) V = some ((2 * (nI (pg S.2 k).2.2 - 100)), V2) := by
      rw [e1]
      exact x1
    rw [q, Option.bind_some]
  rw [f_X6_answerTo_L5, if_pos (show (0 : Int32) = 0 from rfl), f_X6_answerTo_L5_13_u2, if_pos (ibt (by omega) (by omega)), ncl (by omega), s]
  exact w 4094
theorem o23_6_5 {V0 V : Mem} {S : Sh} {L : List Nat} {k e : Nat} (hok : okS S) (hk : k < S.2.length) (h : AX V0 V S L) (hd : (pg S.2 k).1 = 5) (hL : L.length + 5 ≤ 16) (he : e + 12 ≤ 20) : ∃ V', f_X6_answerOf_L6 23 (nI k) (nI e) V = some ((nI k - (2 * (nI (pg S.2 k).2.2 - 100))), V') ∧ AX V0 V' S (((((L ++ [23]) ++ [20]) ++ [14]) ++ [13]) ++ [10]) := by
  have h24 := hok.2.2.1
  obtain ⟨V1, t1, a1⟩ := ax_trace (b := 23) hok h (by omega)
  have t1' : f_X6_leaveTrace 23 V = some V1 := t1
  have e1 : nI e + 1 = nI (e + 1) := nI_1 e
  have l1 : (L ++ [23]).length = L.length + 1 := by rw [List.length_append]; rfl
  rw [f_X6_answerOf_L6, if_pos (dep (by omega)), t1', Option.bind_some, if_neg (show ¬ (23 : Int32) = 10 by decide), if_neg (show ¬ (23 : Int32) = 11 by decide), if_neg (show ¬ (23 : Int32) = 12 by decide), if_neg (show ¬ (23 : Int32) = 13 by decide), if_neg (show ¬ (23 : Int32) = 14 by decide), if_neg (show ¬ (23 : Int32) = 15 by decide), if_neg (show ¬ (23 : Int32) = 16 by decide), if_neg (show ¬ (23 : Int32) = 17 by decide), if_neg (show ¬ (23 : Int32) = 18 by decide), if_neg (show ¬ (23 : Int32) = 19 by decide), if_neg (show ¬ (23 : Int32) = 20 by decide), if_neg (show ¬ (23 : Int32) = 21 by decide), if_neg (show ¬ (23 : Int32) = 22 by decide), if_pos (show (23 : Int32) = 23 from rfl)]
  obtain ⟨V2, x1, x2⟩ := o20_5 (e := e + 1) hok hk a1 (by omega) (by omega)
  have l2 : (L ++ [23] ++ [20]).length = L.length + 2 := by rw [List.length_append, l1]; rfl
  obtain ⟨V3, y1, y2⟩ := ts_5_5 (e := e + 1) hok hk x2 hd (by omega) (by omega)
  rw [e1, x1, Option.bind_some]
  dsimp only
  rw [y1, Option.bind_some]
  exact ⟨V3, rfl, y2⟩
theorem zm_5 {V0 V : Mem} {S : Sh} {L : List Nat} {k e : Nat} (hok : okS S) (hk : k < S.2.length) (h : AX V0 V S L)(hd : (pg S.2 k).1 = 5) (hL : L.length + 5 ≤ 16) (he : e + 1 + 12 ≤ 20) : ∃ V', f_X6_answerTo_L6 1 (nI k) (nI e) V = some ((nI k - (2 * (nI (pg S.2 k).2.2 - 100))), V') ∧ AX V0 V' S (((((L ++ [23]) ++ [20]) ++ [14]) ++ [13]) ++ [10]) := by
  have h24 := hok.2.2.1
  have e1 : nI e + 1 = nI (e + 1) := nI_1 e
  have s : V 6 k = nI 5 := by rw [← hd]; exact (h.2.2.2.1.2.2 k hk).1
  obtain ⟨V2, x1, x2⟩ := o23_6_5 (e := e + 1) hok hk h hd (by omega) (by omega)
  refine ⟨V2, ?_, x2⟩
  have w : ∀ n, f_X6_answerTo_L6_29_t3 (n + 2) (nI k) (nI e) (nI 5) 0 V = some ((nI k - (2 * (nI (pg S.2 k).2.2 - 100))), V2) := by
    intro n
    rw [f_X6_answerTo_L6_29_t3, if_neg (by decide), if_neg (by decide), if_pos (by decide)]
    rw [if_pos (by decide), if_pos (by decide)]
    rw [f_X6_answerTo_L6_29_t3, if_neg (by decide), if_neg (by decide), if_pos (by decide)]
    rw [if_neg (by decide), f_X6_answerTo_L6_63_t3, if_pos (by decide)]
    have q : f_X6_answerOf_L6 (tba 3 (Int32.toNatClampNeg (tba 0 (nI 5).toNatClampNeg))) (nI k) (nI e + 1) V = some ((nI k - (2 * (nI (pg S.2 k).2.2 - 100))), V2) := by
      rw [e1]
      exact x1
    rw [q, Option.bind_some]
  rw [f_X6_answerTo_L6, if_neg (show ¬ (1 : Int32) = 0 by decide), f_X6_answerTo_L6_13_u3, if_pos (ibt (by omega) (by omega)), ncl (by omega), s]
  exact w 4094
theorem mp {U0 M : Mem} {S : Sh} {L : List Nat} {k : Nat} (hok : okS S) (hk : k < S.2.length) (h : AM U0 M S L) (hL : L.length + 1 ≤ 16) : ∃ M', f_X7_plainSize (nI k) M = some (nI (pg S.2 k).2.2, M') ∧ AM U0 M' S (L ++ [10]) := by
  obtain ⟨M1, t1, a1⟩ := am_trace (b := 10) h (by omega)
  have t1' : f_X7_began 10 M = some M1 := t1
  rw [f_X7_plainSize, t1', Option.bind_some, (am_of hok hk a1).2, Option.bind_some]
  exact ⟨M1, rfl, a1⟩
theorem mt_4 {U0 M : Mem} {S : Sh} {L : List Nat} {k : Nat} (hok : okS S) (hk : k < S.2.length) (h : AM U0 M S L) (hd : (pg S.2 k).1 = 4) (hL : L.length + 2 ≤ 16) : ∃ M', f_X7_textSize (nI k) M = some ((nI (pg S.2 k).2.2 - 100), M') ∧ AM U0 M' S ((L ++ [13]) ++ [10]) := by
  have w1 : (L ++ [13]).length = L.length + 1 := by rw [List.length_append]; rfl
  have w2 : ((L ++ [13]) ++ [10]).length = L.length + 2 := by rw [List.length_append, w1]; rfl
  obtain ⟨M1, t1, a1⟩ := am_trace (b := 13) h (by omega)
  have t1' : f_X7_began 13 M = some M1 := t1
  obtain ⟨M2, t2, a2⟩ := mp hok hk a1 (by omega)
  rw [f_X7_textSize, (am_of hok hk h).1, Option.bind_some, hd, if_neg (show ¬ (nI 4, M).1 = 5 from (show ¬ nI 4 = 5 by decide)), f_X7_textSize_18, if_pos (show (0 : Int32) = 0 from rfl), f_X7_textSize_29, t1', Option.bind_some, t2, Option.bind_some, if_pos (show (0 : Int32) = 0 from rfl)]
  exact ⟨M2, rfl, a2⟩
theorem mt_5 {U0 M : Mem} {S : Sh} {L : List Nat} {k : Nat} (hok : okS S) (hk : k < S.2.length) (h : AM U0 M S L) (hd : (pg S.2 k).1 = 5) (hL : L.length + 3 ≤ 16) : ∃ M', f_X7_textSize (nI k) M = some ((2 * (nI (pg S.2 k).2.2 - 100)), M') ∧ AM U0 M' S (((L ++ [14]) ++ [13]) ++ [10]) := by
  have w1 : (L ++ [14]).length = L.length + 1 := by rw [List.length_append]; rfl
  have w2 : ((L ++ [14]) ++ [13]).length = L.length + 2 := by rw [List.length_append, w1]; rfl
  have w3 : (((L ++ [14]) ++ [13]) ++ [10]).length = L.length + 3 := by rw [List.length_append, w2]; rfl
  obtain ⟨M0, t0, a0⟩ := am_trace (b := 14) h (by omega)
  have t0' : f_X7_began 14 M = some M0 := t0
  obtain ⟨M1, t1, a1⟩ := am_trace (b := 13) a0 (by omega)
  have t1' : f_X7_began 13 M0 = some M1 := t1
  obtain ⟨M2, t2, a2⟩ := mp hok hk a1 (by omega)
  rw [f_X7_textSize, (am_of hok hk h).1, Option.bind_some, hd, if_pos (show (nI 5, M).1 = 5 from rfl), f_X7_textSize_18, if_neg (show ¬ (1 : Int32) = 0 by decide), t0', Option.bind_some, f_X7_textSize_29, t1', Option.bind_some, t2, Option.bind_some, if_neg (show ¬ (1 : Int32) = 0 by decide)]
  exact ⟨M2, rfl, a2⟩
theorem mm_1 {U0 M : Mem} {S : Sh} {L : List Nat} {k : Nat} (hok : okS S) (hk : k < S.2.length) (h : AM U0 M S L) (hd : (pg S.2 k).1 = 1) (hL : L.length + 2 ≤ 16) : ∃ M', f_X7_markOf (nI k) M = some ((nI k + nI (own S k)), M') ∧ AM U0 M' S ((L ++ [21]) ++ [20]) := by
  have w1 : (L ++ [21]).length = L.length + 1 := by rw [List.length_append]; rfl
  have w2 : ((L ++ [21]) ++ [20]).length = L.length + 2 := by rw [List.length_append, w1]; rfl
  obtain ⟨M1, t1, a1⟩ := am_trace (b := 21) h (by omega)
  have t1' : f_X7_began 21 M = some M1 := t1
  obtain ⟨M2, t2, a2⟩ := am_trace (b := 20) a1 (by omega)
  have t2' : f_X7_began 20 M1 = some M2 := t2
  rw [f_X7_markOf, (am_of hok hk h).1, Option.bind_some, hd, if_pos (show (nI 1, M).1 < 4 from (show nI 1 < 4 by decide))]
  rw [if_pos (show (nI 1, M).1 = 1 from rfl), f_X7_markOf_56]
  dsimp only
  rw [t1', Option.bind_some, t2', Option.bind_some, am_own hok hk a2, Option.bind_some, if_pos (show nI 1 = (1 : Int32) from rfl)]
  exact ⟨M2, rfl, a2⟩
theorem mm_2 {U0 M : Mem} {S : Sh} {L : List Nat} {k : Nat} (hok : okS S) (hk : k < S.2.length) (h : AM U0 M S L) (hd : (pg S.2 k).1 = 2) (hL : L.length + 3 ≤ 16) : ∃ M', f_X7_markOf (nI k) M = some ((2 * (nI k + nI (own S k))), M') ∧ AM U0 M' S (((L ++ [24]) ++ [21]) ++ [20]) := by
  have w1 : (L ++ [24]).length = L.length + 1 := by rw [List.length_append]; rfl
  have w2 : ((L ++ [24]) ++ [21]).length = L.length + 2 := by rw [List.length_append, w1]; rfl
  have w3 : (((L ++ [24]) ++ [21]) ++ [20]).length = L.length + 3 := by rw [List.length_append, w2]; rfl
  obtain ⟨M1, t1, a1⟩ := am_trace (b := 24) h (by omega)
  have t1' : f_X7_began 24 M = some M1 := t1
  obtain ⟨M2, t2, a2⟩ := am_trace (b := 21) a1 (by omega)
  have t2' : f_X7_began 21 M1 = some M2 := t2
  obtain ⟨M3, t3, a3⟩ := am_trace (b := 20) a2 (by omega)
  have t3' : f_X7_began 20 M2 = some M3 := t3
  rw [f_X7_markOf, (am_of hok hk h).1, Option.bind_some, hd, if_pos (show (nI 2, M).1 < 4 from (show nI 2 < 4 by decide))]
  rw [if_neg (show ¬ (nI 2, M).1 = 1 from (show ¬ nI 2 = 1 by decide)), if_neg (show ¬ (nI 2, M).1 = 3 from (show ¬ nI 2 = 3 by decide)), f_X7_markOf_53_c0]
  dsimp only
  rw [t1', Option.bind_some, f_X7_markOf_56, t2', Option.bind_some, t3', Option.bind_some, am_own hok hk a3, Option.bind_some, if_neg (show ¬ nI 2 = (1 : Int32) by decide), if_neg (show ¬ nI 2 = (3 : Int32) by decide)]
  exact ⟨M3, rfl, a3⟩
theorem mm_3 {U0 M : Mem} {S : Sh} {L : List Nat} {k : Nat} (hok : okS S) (hk : k < S.2.length) (h : AM U0 M S L) (hd : (pg S.2 k).1 = 3) (hL : L.length + 3 ≤ 16) : ∃ M', f_X7_markOf (nI k) M = some ((nI k + nI (own S k) - 1000), M') ∧ AM U0 M' S (((L ++ [22]) ++ [21]) ++ [20]) := by
  have w1 : (L ++ [22]).length = L.length + 1 := by rw [List.length_append]; rfl
  have w2 : ((L ++ [22]) ++ [21]).length = L.length + 2 := by rw [List.length_append, w1]; rfl
  have w3 : (((L ++ [22]) ++ [21]) ++ [20]).length = L.length + 3 := by rw [List.length_append, w2]; rfl
  obtain ⟨M1, t1, a1⟩ := am_trace (b := 22) h (by omega)
  have t1' : f_X7_began 22 M = some M1 := t1
  obtain ⟨M2, t2, a2⟩ := am_trace (b := 21) a1 (by omega)
  have t2' : f_X7_began 21 M1 = some M2 := t2
  obtain ⟨M3, t3, a3⟩ := am_trace (b := 20) a2 (by omega)
  have t3' : f_X7_began 20 M2 = some M3 := t3
  rw [f_X7_markOf, (am_of hok hk h).1, Option.bind_some, hd, if_pos (show (nI 3, M).1 < 4 from (show nI 3 < 4 by decide))]
  rw [if_neg (show ¬ (nI 3, M).1 = 1 from (show ¬ nI 3 = 1 by decide)), if_pos (show (nI 3, M).1 = 3 from rfl), f_X7_markOf_53_c0]
  dsimp only
  rw [t1', Option.bind_some, f_X7_markOf_56, t2', Option.bind_some, t3', Option.bind_some, am_own hok hk a3, Option.bind_some, if_neg (show ¬ nI 3 = (1 : Int32) by decide), if_pos (show nI 3 = (3 : Int32) from rfl)]
  exact ⟨M3, rfl, a3⟩
theorem mm_4 {U0 M : Mem} {S : Sh} {L : List Nat} {k : Nat} (hok : okS S) (hk : k < S.2.length) (h : AM U0 M S L) (hd : (pg S.2 k).1 = 4) (hL : L.length + 4 ≤ 16) : ∃ M', f_X7_markOf (nI k) M = some ((nI k - (nI (pg S.2 k).2.2 - 100)), M') ∧ AM U0 M' S ((((L ++ [23]) ++ [20]) ++ [13]) ++ [10]) := by
  have w1 : (L ++ [23]).length = L.length + 1 := by rw [List.length_append]; rfl
  have w2 : ((L ++ [23]) ++ [20]).length = L.length + 2 := by rw [List.length_append, w1]; rfl
  obtain ⟨M1, t1, a1⟩ := am_trace (b := 23) h (by omega)
  have t1' : f_X7_began 23 M = some M1 := t1
  obtain ⟨M2, t2, a2⟩ := am_trace (b := 20) a1 (by omega)
  have t2' : f_X7_began 20 M1 = some M2 := t2
  obtain ⟨M3, t3, a3⟩ := mt_4 hok hk a2 hd (by omega)
  rw [f_X7_markOf, (am_of hok hk h).1, Option.bind_some, hd, if_neg (show ¬ (nI 4, M).1 < 4 from (show ¬ nI 4 < 4 by decide))]
  dsimp only
  rw [t1', Option.bind_some, t2', Option.bind_some, t3, Option.bind_some]
  exact ⟨M3, rfl, a3⟩
theorem mm_5 {U0 M : Mem} {S : Sh} {L : List Nat} {k : Nat} (hok : okS S) (hk : k < S.2.length) (h : AM U0 M S L) (hd : (pg S.2 k).1 = 5) (hL : L.length + 5 ≤ 16) : ∃ M', f_X7_markOf (nI k) M = some ((nI k - (2 * (nI (pg S.2 k).2.2 - 100))), M') ∧ AM U0 M' S (((((L ++ [23]) ++ [20]) ++ [14]) ++ [13]) ++ [10]) := by
  have w1 : (L ++ [23]).length = L.length + 1 := by rw [List.length_append]; rfl
  have w2 : ((L ++ [23]) ++ [20]).length = L.length + 2 := by rw [List.length_append, w1]; rfl
  obtain ⟨M1, t1, a1⟩ := am_trace (b := 23) h (by omega)
  have t1' : f_X7_began 23 M = some M1 := t1
  obtain ⟨M2, t2, a2⟩ := am_trace (b := 20) a1 (by omega)
  have t2' : f_X7_began 20 M1 = some M2 := t2
  obtain ⟨M3, t3, a3⟩ := mt_5 hok hk a2 hd (by omega)
  rw [f_X7_markOf, (am_of hok hk h).1, Option.bind_some, hd, if_neg (show ¬ (nI 5, M).1 < 4 from (show ¬ nI 5 < 4 by decide))]
  dsimp only
  rw [t1', Option.bind_some, t2', Option.bind_some, t3, Option.bind_some]
  exact ⟨M3, rfl, a3⟩
theorem mz_1 {U0 M : Mem} {S : Sh} {L : List Nat} {k : Nat} (hok : okS S) (hk : k < S.2.length) (h : AM U0 M S L) (hd : (pg S.2 k).1 = 1) (hL : L.length + 4 ≤ 16) : ∃ M', f_X7_sizeOf (nI k) M = some ((nI (pg S.2 k).2.2 + (nI k + nI (own S k))), M') ∧ AM U0 M' S ((((L ++ [11]) ++ [10]) ++ [21]) ++ [20]) := by
  have w1 : (L ++ [11]).length = L.length + 1 := by rw [List.length_append]; rfl
  have w2 : ((L ++ [11]) ++ [10]).length = L.length + 2 := by rw [List.length_append, w1]; rfl
  have w3 : (((L ++ [11]) ++ [10]) ++ [21]).length = L.length + 3 := by rw [List.length_append, w2]; rfl
  obtain ⟨M1, t1, a1⟩ := am_trace (b := 11) h (by omega)
  have t1' : f_X7_began 11 M = some M1 := t1
  obtain ⟨M2, t2, a2⟩ := mp hok hk a1 (by omega)
  obtain ⟨M3, t3, a3⟩ := mm_1 hok hk a2 hd (by omega)
  rw [f_X7_sizeOf, (am_of hok hk h).1, Option.bind_some, hd, if_pos (show (nI 1, M).1 < 4 from (show nI 1 < 4 by decide))]
  rw [if_neg (show ¬ (nI 1, M).1 = 2 from (show ¬ nI 1 = 2 by decide)), f_X7_sizeOf_32]
  dsimp only
  rw [t1', Option.bind_some, t2, Option.bind_some]
  dsimp only
  rw [t3, Option.bind_some, if_neg (show ¬ nI 1 = (2 : Int32) by decide)]
  exact ⟨M3, rfl, a3⟩
theorem mz_2 {U0 M : Mem} {S : Sh} {L : List Nat} {k : Nat} (hok : okS S) (hk : k < S.2.length) (h : AM U0 M S L) (hd : (pg S.2 k).1 = 2) (hL : L.length + 6 ≤ 16) : ∃ M', f_X7_sizeOf (nI k) M = some ((-(nI (pg S.2 k).2.2 + (2 * (nI k + nI (own S k))))), M') ∧ AM U0 M' S ((((((L ++ [12]) ++ [11]) ++ [10]) ++ [24]) ++ [21]) ++ [20]) := by
  have w1 : (L ++ [12]).length = L.length + 1 := by rw [List.length_append]; rfl
  have w2 : ((L ++ [12]) ++ [11]).length = L.length + 2 := by rw [List.length_append, w1]; rfl
  have w3 : (((L ++ [12]) ++ [11]) ++ [10]).length = L.length + 3 := by rw [List.length_append, w2]; rfl
  obtain ⟨M0, t0, a0⟩ := am_trace (b := 12) h (by omega)
  have t0' : f_X7_began 12 M = some M0 := t0
  obtain ⟨M1, t1, a1⟩ := am_trace (b := 11) a0 (by omega)
  have t1' : f_X7_began 11 M0 = some M1 := t1
  obtain ⟨M2, t2, a2⟩ := mp hok hk a1 (by omega)
  obtain ⟨M3, t3, a3⟩ := mm_2 hok hk a2 hd (by omega)
  rw [f_X7_sizeOf, (am_of hok hk h).1, Option.bind_some, hd, if_pos (show (nI 2, M).1 < 4 from (show nI 2 < 4 by decide))]
  rw [if_pos (show (nI 2, M).1 = 2 from rfl)]
  dsimp only
  rw [t0', Option.bind_some, f_X7_sizeOf_32, t1', Option.bind_some, t2, Option.bind_some]
  dsimp only
  rw [t3, Option.bind_some, if_pos (show nI 2 = (2 : Int32) from rfl)]
  exact ⟨M3, rfl, a3⟩
theorem mz_3 {U0 M : Mem} {S : Sh} {L : List Nat} {k : Nat} (hok : okS S) (hk : k < S.2.length) (h : AM U0 M S L) (hd : (pg S.2 k).1 = 3) (hL : L.length + 5 ≤ 16) : ∃ M', f_X7_sizeOf (nI k) M = some ((nI (pg S.2 k).2.2 + (nI k + nI (own S k) - 1000)), M') ∧ AM U0 M' S (((((L ++ [11]) ++ [10]) ++ [22]) ++ [21]) ++ [20]) := by
  have w1 : (L ++ [11]).length = L.length + 1 := by rw [List.length_append]; rfl
  have w2 : ((L ++ [11]) ++ [10]).length = L.length + 2 := by rw [List.length_append, w1]; rfl
  have w3 : (((L ++ [11]) ++ [10]) ++ [22]).length = L.length + 3 := by rw [List.length_append, w2]; rfl
  obtain ⟨M1, t1, a1⟩ := am_trace (b := 11) h (by omega)
  have t1' : f_X7_began 11 M = some M1 := t1
  obtain ⟨M2, t2, a2⟩ := mp hok hk a1 (by omega)
  obtain ⟨M3, t3, a3⟩ := mm_3 hok hk a2 hd (by omega)
  rw [f_X7_sizeOf, (am_of hok hk h).1, Option.bind_some, hd, if_pos (show (nI 3, M).1 < 4 from (show nI 3 < 4 by decide))]
  rw [if_neg (show ¬ (nI 3, M).1 = 2 from (show ¬ nI 3 = 2 by decide)), f_X7_sizeOf_32]
  dsimp only
  rw [t1', Option.bind_some, t2, Option.bind_some]
  dsimp only
  rw [t3, Option.bind_some, if_neg (show ¬ nI 3 = (2 : Int32) by decide)]
  exact ⟨M3, rfl, a3⟩
theorem mz_4 {U0 M : Mem} {S : Sh} {L : List Nat} {k : Nat} (hok : okS S) (hk : k < S.2.length) (h : AM U0 M S L) (hd : (pg S.2 k).1 = 4) (hL : L.length + 2 ≤ 16) : ∃ M', f_X7_sizeOf (nI k) M = some ((nI (pg S.2 k).2.2 - 100), M') ∧ AM U0 M' S ((L ++ [13]) ++ [10]) := by
  obtain ⟨M3, t3, a3⟩ := mt_4 hok hk h hd (by omega)
  rw [f_X7_sizeOf, (am_of hok hk h).1, Option.bind_some, hd, if_neg (show ¬ (nI 4, M).1 < 4 from (show ¬ nI 4 < 4 by decide))]
  dsimp only
  rw [t3, Option.bind_some]
  exact ⟨M3, rfl, a3⟩
theorem mz_5 {U0 M : Mem} {S : Sh} {L : List Nat} {k : Nat} (hok : okS S) (hk : k < S.2.length) (h : AM U0 M S L) (hd : (pg S.2 k).1 = 5) (hL : L.length + 3 ≤ 16) : ∃ M', f_X7_sizeOf (nI k) M = some ((2 * (nI (pg S.2 k).2.2 - 100)), M') ∧ AM U0 M' S (((L ++ [14]) ++ [13]) ++ [10]) := by
  obtain ⟨M3, t3, a3⟩ := mt_5 hok hk h hd (by omega)
  rw [f_X7_sizeOf, (am_of hok hk h).1, Option.bind_some, hd, if_neg (show ¬ (nI 5, M).1 < 4 from (show ¬ nI 5 < 4 by decide))]
  dsimp only
  rw [t3, Option.bind_some]
  exact ⟨M3, rfl, a3⟩
theorem inv_ax {V U V' U' : Mem} {S : Sh} {A : List Act} {L : List Nat} (h : Inv V U) (hSS : SS V U S A) (hL : L.length ≤ 16) (hx : AX V V' S L) (hm : AM U U' S L) : Inv V' U' := by
  obtain ⟨x1, x2, x3, x4, x5, x6, x7⟩ := hx
  obtain ⟨m1, m2, m3, m4, m5, m6⟩ := hm
  obtain ⟨g1, g2, g3, g4, -, g6, g7⟩ := h
  obtain ⟨b1, b2, b3, b4, b5, b6, b7⟩ := hSS
  refine ⟨g1.cg (fun i q1 q2 => x1 i (by omega)) (m1 1 (by omega) (by omega) (by omega)) (m1 2 (by omega) (by omega) (by omega)) (m1 3 (by omega) (by omega) (by omega)), g2.cg (x3 12 (by omega)) (x3 13 (by omega)) (m2 1 (by omega) (by omega)) (m2 18 (by omega) (by omega)), g3.cg (by rw [x1 2 (by omega)]) (x1 3 (by omega)) (m2 11 (by omega) (by omega)) (m1 8 (by omega) (by omega) (by omega)), ⟨L.length, hL, x6, m5, fun j hj => by rw [x7 j hj, m6 j hj]⟩, ⟨S, A, b1, x4, x5, m3, b5.cg (x1 67 (by omega)) (fun i hi => x1 (69 + i) (by omega)), by rw [m2 9 (by omega) (by omega)]; exact b6, b7.cg (m1 7 (by omega) (by omega) (by omega))⟩, g6.cg (fun i q1 q2 => x1 i (by omega)) (m1 14 (by omega) (by omega) (by omega)) (m1 15 (by omega) (by omega) (by omega)), fun x hx => by rw [x1 41 (by omega)]; exact g7 x hx⟩
theorem s_ask : S_ask Inv := by
  intro a b V U h
  obtain ⟨S, A, hSS⟩ := h.2.2.2.2.1
  obtain ⟨hok, hX, hC, hM, -⟩ := id hSS
  have h24 := hok.2.2.1
  have hM' : ShM (st U 0 0 0 4) S := by rw [st_id (by omega)]; exact hM
  unfold f_X6_ask f_X7_ask
  rcases dich a S.2.length with ⟨k, hk, rfl⟩ | hk
  · rw [has_yes hX.1 (by omega) hk, par_yes hM'.1 (by omega) hk, Option.bind_some, Option.bind_some, if_neg i10, if_neg i10]
    dsimp only
    rw [isBetween_eq, show (0 : Int64) = (0 : Int32).toInt64 from rfl, show (1 : Int64) = (1 : Int32).toInt64 from rfl, inw, Option.bind_some, Option.bind_some]
    by_cases h1 : 0 ≤ b ∧ b ≤ 1
    · rw [if_neg (fun q => ((b01z _).mp q) h1), if_neg (fun q => ((b01z _).mp q) h1)]
      dsimp only
      have hM2 : ShM (st (st U 0 0 0) 0 29 0 4) S := by rw [st_id (by omega)]; exact hM'
      rw [countAll_eq (by omega) hM2 hok, Option.bind_some]
      have ax : AX V (st V 0 11 0) S [] := ⟨fun a q => st_id (by omega), fun k _ => st_ne1 (by omega), fun k q => st_ne2 q, hX.cg (st_ne1 (by omega)) (fun k q1 q2 => st_id (by omega)), hC.cg h24 (st_ne1 (by omega)) (fun k _ => st_id (by omega)), st_same, fun j hj => absurd hj (by simp)⟩
      have am : AM U (mk (st (st U 0 0 0) 0 29 0) S.2 S.2.length) S [] := ⟨fun a q1 q2 q3 => by rw [mk_id (by omega), st_id q1, st_id q1], fun k q1 q2 => by rw [mk_id (by omega), st_ne2 q2, st_ne2 q1], by rw [mk_id (by omega)]; exact hM2, fun k l hk hl => mk_11 hk hl, by rw [mk_id (by omega), st_same]; rfl, fun j hj => absurd hj (by simp)⟩
      generalize mk (st (st U 0 0 0) 0 29 0) S.2 S.2.length = MM at *
      obtain ⟨i, hi, rfl⟩ := btw (n := 1) (by omega) h1
      have hp := pg_ok hok.2.2.2 hk
      have hp1 := hp.1
      have hp5 := hp.2.1
      rcases (show i = 0 ∨ i = 1 by omega) with rfl | rfl
      · rcases (show (pg S.2 k).1 = 1 ∨ (pg S.2 k).1 = 2 ∨ (pg S.2 k).1 = 3 ∨ (pg S.2 k).1 = 4 ∨ (pg S.2 k).1 = 5 by omega) with hd | hd | hd | hd | hd
        · obtain ⟨V1, x1, x2⟩ := zs_1 (e := 0) hok hk ax hd (by decide) (by omega)
          have x1' : f_X6_answerTo_L6 (nI 0) (nI k) 0 (st V 0 11 0) = _ := x1
          obtain ⟨M1, y1, y2⟩ := mz_1 hok hk am hd (by decide)
          rw [x1', Option.bind_some, if_pos (show nI 0 = (0 : Int32) from rfl), y1, Option.bind_some]
          exact ⟨_, _, rfl, rfl, rfl, inv_ax h hSS (by decide) x2 y2⟩
        · obtain ⟨V1, x1, x2⟩ := zs_2 (e := 0) hok hk ax hd (by decide) (by omega)
          have x1' : f_X6_answerTo_L6 (nI 0) (nI k) 0 (st V 0 11 0) = _ := x1
          obtain ⟨M1, y1, y2⟩ := mz_2 hok hk am hd (by decide)
          rw [x1', Option.bind_some, if_pos (show nI 0 = (0 : Int32) from rfl), y1, Option.bind_some]
          exact ⟨_, _, rfl, rfl, rfl, inv_ax h hSS (by decide) x2 y2⟩
        · obtain ⟨V1, x1, x2⟩ := zs_3 (e := 0) hok hk ax hd (by decide) (by omega)
          have x1' : f_X6_answerTo_L6 (nI 0) (nI k) 0 (st V 0 11 0) = _ := x1
          obtain ⟨M1, y1, y2⟩ := mz_3 hok hk am hd (by decide)
          rw [x1', Option.bind_some, if_pos (show nI 0 = (0 : Int32) from rfl), y1, Option.bind_some]
          exact ⟨_, _, rfl, rfl, rfl, inv_ax h hSS (by decide) x2 y2⟩
        · obtain ⟨V1, x1, x2⟩ := zs_4 (e := 0) hok hk ax hd (by decide) (by omega)
          have x1' : f_X6_answerTo_L6 (nI 0) (nI k) 0 (st V 0 11 0) = _ := x1
          obtain ⟨M1, y1, y2⟩ := mz_4 hok hk am hd (by decide)
          rw [x1', Option.bind_some, if_pos (show nI 0 = (0 : Int32) from rfl), y1, Option.bind_some]
          exact ⟨_, _, rfl, rfl, rfl, inv_ax h hSS (by decide) x2 y2⟩
        · obtain ⟨V1, x1, x2⟩ := zs_5 (e := 0) hok hk ax hd (by decide) (by omega)
          have x1' : f_X6_answerTo_L6 (nI 0) (nI k) 0 (st V 0 11 0) = _ := x1
          obtain ⟨M1, y1, y2⟩ := mz_5 hok hk am hd (by decide)
          rw [x1', Option.bind_some, if_pos (show nI 0 = (0 : Int32) from rfl), y1, Option.bind_some]
          exact ⟨_, _, rfl, rfl, rfl, inv_ax h hSS (by decide) x2 y2⟩
      · rcases (show (pg S.2 k).1 = 1 ∨ (pg S.2 k).1 = 2 ∨ (pg S.2 k).1 = 3 ∨ (pg S.2 k).1 = 4 ∨ (pg S.2 k).1 = 5 by omega) with hd | hd | hd | hd | hd
        · obtain ⟨V1, x1, x2⟩ := zm_1 (e := 0) hok hk ax hd (by decide) (by omega)
          have x1' : f_X6_answerTo_L6 (nI 1) (nI k) 0 (st V 0 11 0) = _ := x1
          obtain ⟨M1, y1, y2⟩ := mm_1 hok hk am hd (by decide)
          rw [x1', Option.bind_some, if_neg (show ¬ nI 1 = (0 : Int32) by decide), y1, Option.bind_some]
          exact ⟨_, _, rfl, rfl, rfl, inv_ax h hSS (by decide) x2 y2⟩
        · obtain ⟨V1, x1, x2⟩ := zm_2 (e := 0) hok hk ax hd (by decide) (by omega)
          have x1' : f_X6_answerTo_L6 (nI 1) (nI k) 0 (st V 0 11 0) = _ := x1
          obtain ⟨M1, y1, y2⟩ := mm_2 hok hk am hd (by decide)
          rw [x1', Option.bind_some, if_neg (show ¬ nI 1 = (0 : Int32) by decide), y1, Option.bind_some]
          exact ⟨_, _, rfl, rfl, rfl, inv_ax h hSS (by decide) x2 y2⟩
        · obtain ⟨V1, x1, x2⟩ := zm_3 (e := 0) hok hk ax hd (by decide) (by omega)
          have x1' : f_X6_answerTo_L6 (nI 1) (nI k) 0 (st V 0 11 0) = _ := x1
          obtain ⟨M1, y1, y2⟩ := mm_3 hok hk am hd (by decide)
          rw [x1', Option.bind_some, if_neg (show ¬ nI 1 = (0 : Int32) by decide), y1, Option.bind_some]
          exact ⟨_, _, rfl, rfl, rfl, inv_ax h hSS (by decide) x2 y2⟩
        · obtain ⟨V1, x1, x2⟩ := zm_4 (e := 0) hok hk ax hd (by decide) (by omega)
          have x1' : f_X6_answerTo_L6 (nI 1) (nI k) 0 (st V 0 11 0) = _ := x1
          obtain ⟨M1, y1, y2⟩ := mm_4 hok hk am hd (by decide)
          rw [x1', Option.bind_some, if_neg (show ¬ nI 1 = (0 : Int32) by decide), y1, Option.bind_some]
          exact ⟨_, _, rfl, rfl, rfl, inv_ax h hSS (by decide) x2 y2⟩
        · obtain ⟨V1, x1, x2⟩ := zm_5 (e := 0) hok hk ax hd (by decide) (by omega)
          have x1' : f_X6_answerTo_L6 (nI 1) (nI k) 0 (st V 0 11 0) = _ := x1
          obtain ⟨M1, y1, y2⟩ := mm_5 hok hk am hd (by decide)
          rw [x1', Option.bind_some, if_neg (show ¬ nI 1 = (0 : Int32) by decide), y1, Option.bind_some]
          exact ⟨_, _, rfl, rfl, rfl, inv_ax h hSS (by decide) x2 y2⟩
    · rw [if_pos ((b01z _).mpr h1), if_pos ((b01z _).mpr h1)]
      exact ⟨_, _, rfl, rfl, rfl, inv_t h⟩
  · rw [has_no hX.1 (by omega) hk, par_no hM'.1 (by omega) hk, Option.bind_some, Option.bind_some, if_pos rfl, if_pos rfl]
    exact ⟨_, _, rfl, rfl, rfl, inv_t h⟩

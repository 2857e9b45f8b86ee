/-! Paragraphs put in, taken out, made others: lists, and the class's sheets. -/
theorem pg_ins {P : List Pg} {k : Nat} {q : Pg} (hk : k ≤ P.length) (j : Nat) : pg (P.take k ++ q :: P.drop k) j = if j < k then pg P j else if j = k then q else pg P (j - 1) := by
  unfold pg
  simp only [List.getD_eq_getElem?_getD]
  by_cases h : j < k
  · rw [if_pos h, List.getElem?_append_left (by rw [List.length_take]; omega), List.getElem?_take_of_lt h]
  · rw [if_neg h, List.getElem?_append_right (by rw [List.length_take]; omega), List.length_take, Nat.min_eq_left hk]
    by_cases h2 : j = k
    · rw [if_pos h2, h2, Nat.sub_self]
      rfl
    · rw [if_neg h2]
      obtain ⟨i, hi⟩ : ∃ i, j - k = i + 1 := ⟨j - k - 1, by omega⟩
      rw [hi, List.getElem?_cons_succ, List.getElem?_drop]
      congr 2
      omega
theorem len_ins {P : List Pg} {k : Nat} {q : Pg} (hk : k ≤ P.length) : (P.take k ++ q :: P.drop k).length = P.length + 1 := by
  rw [List.length_append, List.length_cons, List.length_take, List.length_drop]
  omega
theorem pg_rmv {P : List Pg} {k : Nat} (hk : k < P.length) (j : Nat) : pg (P.take k ++ P.drop (k + 1)) j = if j < k then pg P j else pg P (j + 1) := by
  unfold pg
  simp only [List.getD_eq_getElem?_getD]
  by_cases h : j < k
  · rw [if_pos h, List.getElem?_append_left (by rw [List.length_take]; omega), List.getElem?_take_of_lt h]
  · rw [if_neg h, List.getElem?_append_right (by rw [List.length_take]; omega), List.length_take, Nat.min_eq_left (by omega), List.getElem?_drop]
    congr 2
    omega
theorem len_rmv {P : List Pg} {k : Nat} (hk : k < P.length) : (P.take k ++ P.drop (k + 1)).length = P.length - 1 := by
  rw [List.length_append, List.length_take, List.length_drop]
  omega
theorem pg_set {P : List Pg} {k : Nat} {q : Pg} (hk : k < P.length) (j : Nat) : pg (P.set k q) j = if j = k then q else pg P j := by
  unfold pg
  simp only [List.getD_eq_getElem?_getD]
  rw [List.getElem?_set]
  by_cases h : k = j
  · subst h
    rw [if_pos rfl, if_pos rfl, if_pos hk]
    rfl
  · rw [if_neg h, if_neg (fun e => h e.symm)]
theorem cnt_take {P Q : List Pg} {j : Nat} (h : P.take j = Q.take j) : cnt P j = cnt Q j := by
  unfold cnt
  rw [h]
theorem take_ins {P : List Pg} {k j : Nat} {q : Pg} (hk : k ≤ P.length) (hj : j ≤ k) : (P.take k ++ q :: P.drop k).take j = P.take j := by
  rw [List.take_append_of_le_length (by rw [List.length_take]; omega), List.take_take, Nat.min_eq_left hj]
theorem take_rmv {P : List Pg} {k j : Nat} (hk : k < P.length) (hj : j ≤ k) : (P.take k ++ P.drop (k + 1)).take j = P.take j := by
  rw [List.take_append_of_le_length (by rw [List.length_take]; omega), List.take_take, Nat.min_eq_left hj]
theorem take_set {P : List Pg} {k j : Nat} {q : Pg} (hj : j ≤ k) : (P.set k q).take j = P.take j := by
  apply List.ext_getElem?
  intro i
  by_cases hi : i < j
  · rw [List.getElem?_take_of_lt hi, List.getElem?_take_of_lt hi, List.getElem?_set, if_neg (by omega)]
  · rw [List.getElem?_eq_none (by rw [List.length_take]; omega), List.getElem?_eq_none (by rw [List.length_take]; omega)]
theorem ok_ins {S : Sh} {k : Nat} {q : Pg} (h : okS S) (hl : S.2.length < 24) (hk : k ≤ S.2.length) (hq : okP q) : okS (insS S k q) := by
  refine ⟨h.1, h.2.1, ?_, fun p hp => ?_⟩
  · unfold insS
    rw [len_ins hk]
    omega
  · unfold insS at hp
    rcases List.mem_append.mp hp with a | a
    · exact h.2.2.2 p (List.mem_of_mem_take a)
    · rcases List.mem_cons.mp a with b | b
      · rw [b]; exact hq
      · exact h.2.2.2 p (List.mem_of_mem_drop b)
theorem ok_rmv {S : Sh} {k : Nat} (h : okS S) (hk : k < S.2.length) : okS (rmvS S k) := by
  refine ⟨h.1, h.2.1, ?_, fun p hp => ?_⟩
  · unfold rmvS
    rw [len_rmv hk]
    have := h.2.2.1
    omega
  · unfold rmvS at hp
    rcases List.mem_append.mp hp with a | a
    · exact h.2.2.2 p (List.mem_of_mem_take a)
    · exact h.2.2.2 p (List.mem_of_mem_drop a)
theorem ok_set {S : Sh} {k : Nat} {q : Pg} (h : okS S) (hq : okP q) : okS (setS S k q) := by
  refine ⟨h.1, h.2.1, ?_, fun p hp => ?_⟩
  · unfold setS
    rw [List.length_set]
    exact h.2.2.1
  · unfold setS at hp
    rcases List.mem_or_eq_of_mem_set hp with a | a
    · exact h.2.2.2 p a
    · rw [a]; exact hq
/-- only sheet z has changed, its styles and kept lines not -/
def FX (z : Nat) (V V' : Mem) : Prop := (∀ a, a ≠ z → a ≠ z + 2 → a ≠ z + 3 → a ≠ z + 4 → V' a = V a) ∧ ∀ k, k ≠ 4 → k ≠ 6 → V' z k = V z k
theorem FX.tr {z : Nat} {V V' V'' : Mem} (h : FX z V V') (h2 : FX z V' V'') : FX z V V'' := ⟨fun a q1 q2 q3 q4 => (h2.1 a q1 q2 q3 q4).trans (h.1 a q1 q2 q3 q4), fun k q1 q2 => (h2.2 k q1 q2).trans (h.2 k q1 q2)⟩
/-- kept lines that hold for one list hold for another that begins alike -/
theorem CI_cut {V V' : Mem} {z k m : Nat} {P Q : List Pg} (hC : CM V z P m) (hQ : (if k < m then k else m) ≤ Q.length) (ht : ∀ j, j ≤ k → j ≤ m → P.take j = Q.take j) (h6 : V' z 6 = nI (if k < m then k else m)) (hl : ∀ j, j ≤ m → V' (z + 5 + 1 + j) = V (z + 5 + 1 + j)) : CI V' z Q := by
  refine ⟨if k < m then k else m, hQ, h6, fun p hp x hx => ?_⟩
  have hpm : p ≤ m ∧ p ≤ k := by
    by_cases c : k < m
    · rw [if_pos c] at hp; omega
    · rw [if_neg c] at hp; omega
  rw [hl p hpm.1, hC.2.2 p hpm.1 x hx, cnt_take (ht p hpm.2 hpm.1)]
theorem minI {k m : Nat} (hk : k < 2147483648) (hm : m < 2147483648) : (if nI k < nI m then nI k else nI m) = nI (if k < m then k else m) := by
  by_cases h : k < m
  · rw [if_pos ((nlt hk hm).mpr h), if_pos h]
  · rw [if_neg (fun q => h ((nlt hk hm).mp q)), if_neg h]
theorem alt_x {z p m : Nat} {S : Sh} {V : Mem} {q : Pg} (hok : okS S) (hS : ShX V z S) (hC : CM V z S.2 m) (hp : p < S.2.length) : ∃ V', f_X3_alter z (nI p) (nI q.1) (nI q.2.1) (nI q.2.2) V = some V' ∧ ShX V' z (setS S p q) ∧ CI V' z (setS S p q).2 ∧ FX z V V' := by
  have h24 := hok.2.2.1
  have i24 : ib (nI p) 24 = true := ibt (by omega) (by omega)
  have cpp : (nI p).toNatClampNeg = p := ncl (by omega)
  have hm := hC.1
  unfold f_X3_alter
  rw [has_yes hS.1 (by omega) hp, Option.bind_some, if_neg i10, if_pos i24, if_pos i24, if_pos i24, cpp]
  dsimp only
  have e6 : st (st (st V (z + 2) p (nI q.1)) (z + 3) p (nI q.2.1)) (z + 4) p (nI q.2.2) z 6 = nI m := by
    rw [st_ne1 (by omega), st_ne1 (by omega), st_ne1 (by omega)]; exact hC.2.1
  rw [e6, minI (by omega) (by omega)]
  refine ⟨_, rfl, ⟨?_, ?_, ?_⟩, ?_, ⟨fun a q1 q2 q3 q4 => ?_, fun k q1 q2 => ?_⟩⟩
  · rw [st_ne2 (by omega), st_ne1 (by omega), st_ne1 (by omega), st_ne1 (by omega)]
    unfold setS
    rw [List.length_set]
    exact hS.1
  · intro l hl
    rw [st_ne1 (by omega), st_ne1 (by omega), st_ne1 (by omega), st_ne1 (by omega)]
    exact hS.2.1 l hl
  · intro k hk
    unfold setS at hk ⊢
    rw [List.length_set] at hk
    obtain ⟨k1, k2, k3⟩ := hS.2.2 k hk
    dsimp only
    rw [pg_set hp]
    by_cases e : k = p
    · subst e
      rw [if_pos rfl]
      simp (disch := omega) only [st_same, st_ne1]
      exact ⟨trivial, trivial, trivial⟩
    · rw [if_neg e]
      simp (disch := omega) only [st_ne1, st_ne2]
      exact ⟨k1, k2, k3⟩
  · refine CI_cut hC (k := p) ?_ (fun j q1 q2 => ?_) st_same (fun j hj => ?_)
    · unfold setS
      rw [List.length_set]
      split <;> omega
    · unfold setS
      exact (take_set q1).symm
    · rw [st_id (by omega), st_id (by omega), st_id (by omega), st_id (by omega)]
  · rw [st_id q1, st_id q4, st_id q3, st_id q2]
  · rw [st_ne2 q2, st_ne1 (by omega), st_ne1 (by omega), st_ne1 (by omega)]
theorem ins_x {z p m : Nat} {S : Sh} {V : Mem} {q : Pg} (hok : okS S) (hS : ShX V z S) (hC : CM V z S.2 m) (hp : p ≤ S.2.length) (hl : S.2.length < 24) (hq : okP q) : ∃ V', f_X3_insert z (nI p) (nI q.1) (nI q.2.1) (nI q.2.2) V = some V' ∧ ShX V' z (insS S p q) ∧ CI V' z (insS S p q).2 ∧ FX z V V' := by
  have hm := hC.1
  unfold f_X3_insert f_X3_slide
  have e1 : nI p + 1 = nI (p + 1) := nI_1 p
  have e2 : nI S.2.length - nI p = nI (S.2.length - p) := nsb hp
  have ck : cok (nI p) (nI (p + 1)) (nI (S.2.length - p)) 24 24 = true := cokn (by omega) (by omega) (by omega) (by omega) (by omega)
  rw [hS.1, if_neg (by rw [li, nle (by omega) (by omega)]; omega), if_neg (nI_pos (by omega)), if_pos (by rw [nle (by omega) (by omega)]; exact hp), e1, e2, if_pos ck, if_pos ck, if_pos ck, ncl (by omega), ncl (by omega), ncl (by omega), Option.bind_some]
  generalize hW : cp (cp (cp V (z + 2) (z + 2) p (p + 1) (S.2.length - p)) (z + 3) (z + 3) p (p + 1) (S.2.length - p)) (z + 4) (z + 4) p (p + 1) (S.2.length - p) = W
  have w0 : ∀ a, a ≠ z + 2 → a ≠ z + 3 → a ≠ z + 4 → W a = V a := fun a q2 q3 q4 => by rw [← hW, cp_id q4, cp_id q3, cp_id q2]
  have hcp : ∀ (i : Nat) (j : Nat), cp V i i p (p + 1) (S.2.length - p) i j = if p + 1 ≤ j ∧ j < p + 1 + (S.2.length - p) then V i (j - 1) else V i j := by
    intro i j
    rw [cp_at]
    by_cases c : p + 1 ≤ j ∧ j < p + 1 + (S.2.length - p)
    · rw [if_pos ⟨rfl, c⟩, if_pos c]
      congr 1
      omega
    · rw [if_neg (fun h => c h.2), if_neg c]
  have w2 : ∀ j, W (z + 2) j = if p + 1 ≤ j ∧ j < p + 1 + (S.2.length - p) then V (z + 2) (j - 1) else V (z + 2) j := fun j => by
    rw [← hW, cp_ne (by omega), cp_ne (by omega)]; exact hcp (z + 2) j
  have w3 : ∀ j, W (z + 3) j = if p + 1 ≤ j ∧ j < p + 1 + (S.2.length - p) then V (z + 3) (j - 1) else V (z + 3) j := fun j => by
    rw [← hW, cp_ne (by omega), cp_at]
    by_cases c : p + 1 ≤ j ∧ j < p + 1 + (S.2.length - p)
    · rw [if_pos ⟨rfl, c⟩, if_pos c, cp_ne (by omega)]
      congr 1
      omega
    · rw [if_neg (fun h => c h.2), if_neg c, cp_ne (by omega)]
  have w4 : ∀ j, W (z + 4) j = if p + 1 ≤ j ∧ j < p + 1 + (S.2.length - p) then V (z + 4) (j - 1) else V (z + 4) j := fun j => by
    rw [← hW, cp_at]
    by_cases c : p + 1 ≤ j ∧ j < p + 1 + (S.2.length - p)
    · rw [if_pos ⟨rfl, c⟩, if_pos c, cp_ne (by omega), cp_ne (by omega)]
      congr 1
      omega
    · rw [if_neg (fun h => c h.2), if_neg c, cp_ne (by omega), cp_ne (by omega)]
  have wz4 : W z 4 = nI S.2.length := by rw [w0 z (by omega) (by omega) (by omega)]; exact hS.1
  have e3 : nI S.2.length + 1 = nI (S.2.length + 1) := nI_1 _
  have i24 : ib (nI p) 24 = true := ibt (by omega) (by omega)
  have cpp : (nI p).toNatClampNeg = p := ncl (by omega)
  rw [wz4, e3]
  unfold f_X3_alter
  rw [has_yes (n := S.2.length + 1) st_same (by omega) (by omega), Option.bind_some, if_neg i10, if_pos i24, if_pos i24, if_pos i24, cpp, Option.bind_some]
  dsimp only
  have e6 : st (st (st (st W z 4 (nI (S.2.length + 1))) (z + 2) p (nI q.1)) (z + 3) p (nI q.2.1)) (z + 4) p (nI q.2.2) z 6 = nI m := by
    rw [st_ne1 (by omega), st_ne1 (by omega), st_ne1 (by omega), st_ne2 (by omega), w0 z (by omega) (by omega) (by omega)]; exact hC.2.1
  rw [e6, minI (by omega) (by omega)]
  refine ⟨_, rfl, ⟨?_, ?_, ?_⟩, ?_, ⟨fun a q1 q2 q3 q4 => ?_, fun k q1 q2 => ?_⟩⟩
  · rw [st_ne2 (by omega), st_ne1 (by omega), st_ne1 (by omega), st_ne1 (by omega), st_same]
    unfold insS
    rw [len_ins hp]
  · intro l hl
    rw [st_ne1 (by omega), st_ne1 (by omega), st_ne1 (by omega), st_ne1 (by omega), st_ne1 (by omega), w0 (z + 1) (by omega) (by omega) (by omega)]
    exact hS.2.1 l hl
  · intro k hk
    unfold insS at hk ⊢
    rw [len_ins hp] at hk
    dsimp only
    rw [pg_ins hp]
    by_cases e : k < p
    · obtain ⟨k1, k2, k3⟩ := hS.2.2 k (by omega)
      rw [if_pos e]
      simp (disch := omega) only [st_ne1, st_ne2]
      rw [w2, w3, w4, if_neg (by omega), if_neg (by omega), if_neg (by omega)]
      exact ⟨k1, k2, k3⟩
    · rw [if_neg e]
      by_cases e2 : k = p
      · subst e2
        rw [if_pos rfl]
        simp (disch := omega) only [st_same, st_ne1]
        exact ⟨trivial, trivial, trivial⟩
      · obtain ⟨k1, k2, k3⟩ := hS.2.2 (k - 1) (by omega)
        rw [if_neg e2]
        simp (disch := omega) only [st_ne1, st_ne2]
        rw [w2, w3, w4, if_pos (by omega), if_pos (by omega), if_pos (by omega)]
        exact ⟨k1, k2, k3⟩
  · refine CI_cut hC (k := p) ?_ (fun j q1 q2 => ?_) st_same (fun j hj => ?_)
    · unfold insS
      rw [len_ins hp]
      split <;> omega
    · unfold insS
      exact (take_ins hp q1).symm
    · rw [st_id (by omega), st_id (by omega), st_id (by omega), st_id (by omega), st_id (by omega), w0 _ (by omega) (by omega) (by omega)]
  · rw [st_id q1, st_id q4, st_id q3, st_id q2, st_id q1, w0 a q2 q3 q4]
  · rw [st_ne2 q2, st_ne1 (by omega), st_ne1 (by omega), st_ne1 (by omega), st_ne2 q1, w0 z (by omega) (by omega) (by omega)]
theorem rmv_x {z p m : Nat} {S : Sh} {V : Mem} (hok : okS S) (hS : ShX V z S) (hC : CM V z S.2 m) (hp : p < S.2.length) : ∃ V', f_X3_remove z (nI p) V = some V' ∧ ShX V' z (rmvS S p) ∧ CI V' z (rmvS S p).2 ∧ FX z V V' := by
  have h24 := hok.2.2.1
  have hm := hC.1
  unfold f_X3_remove f_X3_slide
  have e1 : nI p + 1 = nI (p + 1) := nI_1 p
  have e2 : nI S.2.length - nI p - 1 = nI (S.2.length - p - 1) := by rw [nsb (by omega), li, nsb (by omega)]
  have ck : cok (nI (p + 1)) (nI p) (nI (S.2.length - p - 1)) 24 24 = true := cokn (by omega) (by omega) (by omega) (by omega) (by omega)
  rw [has_yes hS.1 (by omega) hp, Option.bind_some, if_neg i10]
  dsimp only
  have n1 : (nI (p + 1)).toNatClampNeg = p + 1 := ncl (by omega)
  have n2 : (nI p).toNatClampNeg = p := ncl (by omega)
  have n3 : (nI (S.2.length - p - 1)).toNatClampNeg = S.2.length - p - 1 := ncl (by omega)
  simp only [hS.1, e1, e2, if_pos ck, n1, n2, n3, Option.bind_some]
  generalize hW : cp (cp (cp V (z + 2) (z + 2) (p + 1) p (S.2.length - p - 1)) (z + 3) (z + 3) (p + 1) p (S.2.length - p - 1)) (z + 4) (z + 4) (p + 1) p (S.2.length - p - 1) = W
  have w0 : ∀ a, a ≠ z + 2 → a ≠ z + 3 → a ≠ z + 4 → W a = V a := fun a q2 q3 q4 => by rw [← hW, cp_id q4, cp_id q3, cp_id q2]
  have w2 : ∀ j, W (z + 2) j = if p ≤ j ∧ j < p + (S.2.length - p - 1) then V (z + 2) (j + 1) else V (z + 2) j := fun j => by
    rw [← hW, cp_ne (by omega), cp_ne (by omega), cp_at]
    by_cases c : p ≤ j ∧ j < p + (S.2.length - p - 1)
    · rw [if_pos ⟨rfl, c⟩, if_pos c]
      congr 1
      omega
    · rw [if_neg (fun h => c h.2), if_neg c]
  have w3 : ∀ j, W (z + 3) j = if p ≤ j ∧ j < p + (S.2.length - p - 1) then V (z + 3) (j + 1) else V (z + 3) j := fun j => by
    rw [← hW, cp_ne (by omega), cp_at]
    by_cases c : p ≤ j ∧ j < p + (S.2.length - p - 1)
    · rw [if_pos ⟨rfl, c⟩, if_pos c, cp_ne (by omega)]
      congr 1
      omega
    · rw [if_neg (fun h => c h.2), if_neg c, cp_ne (by omega)]
  have w4 : ∀ j, W (z + 4) j = if p ≤ j ∧ j < p + (S.2.length - p - 1) then V (z + 4) (j + 1) else V (z + 4) j := fun j => by
    rw [← hW, cp_at]
    by_cases c : p ≤ j ∧ j < p + (S.2.length - p - 1)
    · rw [if_pos ⟨rfl, c⟩, if_pos c, cp_ne (by omega), cp_ne (by omega)]
      congr 1
      omega
    · rw [if_neg (fun h => c h.2), if_neg c, cp_ne (by omega), cp_ne (by omega)]
  have wz4 : W z 4 = nI S.2.length := by rw [w0 z (by omega) (by omega) (by omega)]; exact hS.1
  have e3 : nI S.2.length - 1 = nI (S.2.length - 1) := nsb (b := 1) (by omega)
  have e6 : st W z 4 (nI (S.2.length - 1)) z 6 = nI m := by
    rw [st_ne2 (by omega), w0 z (by omega) (by omega) (by omega)]; exact hC.2.1
  rw [wz4, e3, e6, minI (by omega) (by omega)]
  refine ⟨_, rfl, ⟨?_, ?_, ?_⟩, ?_, ⟨fun a q1 q2 q3 q4 => ?_, fun k q1 q2 => ?_⟩⟩
  · rw [st_ne2 (by omega), st_same]
    unfold rmvS
    rw [len_rmv hp]
  · intro l hl
    rw [st_ne1 (by omega), st_ne1 (by omega), w0 (z + 1) (by omega) (by omega) (by omega)]
    exact hS.2.1 l hl
  · intro k hk
    unfold rmvS at hk ⊢
    rw [len_rmv hp] at hk
    dsimp only
    rw [pg_rmv hp]
    simp (disch := omega) only [st_ne1]
    rw [w2, w3, w4]
    by_cases e : k < p
    · have cA : ¬ (p ≤ k ∧ k < p + (S.2.length - p - 1)) := by omega
      rw [if_neg cA, if_neg cA, if_neg cA, if_pos e]
      exact hS.2.2 k (by omega)
    · have cA : p ≤ k ∧ k < p + (S.2.length - p - 1) := by omega
      rw [if_pos cA, if_pos cA, if_pos cA, if_neg e]
      exact hS.2.2 (k + 1) (by omega)
  · refine CI_cut hC (k := p) ?_ (fun j q1 q2 => ?_) st_same (fun j hj => ?_)
    · unfold rmvS
      rw [len_rmv hp]
      split <;> omega
    · unfold rmvS
      exact (take_rmv hp q1).symm
    · rw [st_id (by omega), st_id (by omega), w0 _ (by omega) (by omega) (by omega)]
  · rw [st_id q1, st_id q1, w0 a q2 q3 q4]
  · rw [st_ne2 q2, st_ne2 q1, w0 z (by omega) (by omega) (by omega)]

/-! lost. -/
def kc (P : List Pg) (c k : Nat) : Nat := if c / 2 ^ rk P k % 2 = 1 then 1 else 2
def Tc (S : Sh) (c o : Nat) : Sh := (S.1, (List.range S.2.length).map (fun k => if k < o ∧ (pg S.2 k).1 = 2 then (kc S.2 c k, (pg S.2 k).2) else pg S.2 k))
theorem len_Tc {S : Sh} {c o : Nat} : (Tc S c o).2.length = S.2.length := by
  unfold Tc
  rw [List.length_map, List.length_range]
theorem pg_Tc {S : Sh} {c o k : Nat} (hk : k < S.2.length) : pg (Tc S c o).2 k = if k < o ∧ (pg S.2 k).1 = 2 then (kc S.2 c k, (pg S.2 k).2) else pg S.2 k := by
  unfold Tc
  show ((List.range S.2.length).map _).getD k (0, 0, 0) = _
  rw [List.getD_eq_getElem?_getD, List.getElem?_map, List.getElem?_range hk]
  rfl
theorem ok_pg {S T : Sh} (hok : okS S) (h1 : T.1 = S.1) (h2 : T.2.length ≤ 24) (h : ∀ k, k < T.2.length → okP (pg T.2 k)) : okS T := by
  refine ⟨by rw [h1]; exact hok.1, by rw [h1]; exact hok.2.1, h2, fun p hp => ?_⟩
  obtain ⟨k, hk, e⟩ := List.mem_iff_getElem.mp hp
  have := h k hk
  unfold pg at this
  rw [List.getD_eq_getElem?_getD, List.getElem?_eq_getElem hk] at this
  rw [← e]
  exact this
theorem kc_12 {P : List Pg} {c k : Nat} : kc P c k = 1 ∨ kc P c k = 2 := by
  unfold kc
  split
  · exact Or.inl rfl
  · exact Or.inr rfl
theorem ok_Tc {S : Sh} {c o : Nat} (hok : okS S) : okS (Tc S c o) := by
  refine ok_pg hok rfl (by rw [len_Tc]; exact hok.2.2.1) (fun k hk => ?_)
  rw [len_Tc] at hk
  have hp := pg_ok hok.2.2.2 hk
  rw [pg_Tc hk]
  by_cases c1 : k < o ∧ (pg S.2 k).1 = 2
  · rw [if_pos c1]
    rcases kc_12 (P := S.2) (c := c) (k := k) with e | e
    · exact ⟨by dsimp only; omega, by dsimp only; omega, hp.2.2.1, hp.2.2.2⟩
    · exact ⟨by dsimp only; omega, by dsimp only; omega, hp.2.2.1, hp.2.2.2⟩
  · rw [if_neg c1]
    exact hp
theorem Tc_0 {S : Sh} {c : Nat} : Tc S c 0 = S := by
  refine Prod.ext rfl (pg_ext len_Tc (fun k hk => ?_))
  rw [len_Tc] at hk
  rw [pg_Tc hk, if_neg (by omega)]
theorem Tc_no {S : Sh} {c o : Nat} (h : ¬ (pg S.2 o).1 = 2) : Tc S c (o + 1) = Tc S c o := by
  refine Prod.ext rfl (pg_ext (by rw [len_Tc, len_Tc]) (fun k hk => ?_))
  rw [len_Tc] at hk
  rw [pg_Tc hk, pg_Tc hk]
  by_cases e : k = o
  · subst e
    rw [if_neg (fun q => h q.2), if_neg (fun q => h q.2)]
  · have : (k < o + 1) ↔ (k < o) := by omega
    simp only [this]
theorem Tc_yes {S : Sh} {c o : Nat} (ho : o < S.2.length) (h : (pg S.2 o).1 = 2) : Tc S c (o + 1) = setS (Tc S c o) o (qv (Tc S c o) o 0 (kc S.2 c o)) := by
  refine Prod.ext rfl ?_
  show (Tc S c (o + 1)).2 = (Tc S c o).2.set o (qv (Tc S c o) o 0 (kc S.2 c o))
  refine pg_ext (by rw [List.length_set, len_Tc, len_Tc]) (fun k hk => ?_)
  rw [len_Tc] at hk
  rw [pg_Tc hk, pg_set (by rw [len_Tc]; exact ho)]
  by_cases e : k = o
  · subst e
    have e2 : pg (Tc S c k).2 k = pg S.2 k := by rw [pg_Tc hk, if_neg (by omega)]
    rw [if_pos ⟨by omega, h⟩, if_pos rfl]
    unfold qv
    rw [if_pos rfl, e2]
  · have : (k < o + 1) ↔ (k < o) := by omega
    rw [if_neg e, pg_Tc hk]
    simp only [this]
def NR (V : Mem) (S : Sh) : Prop := ∀ j, j < S.2.length → (pg S.2 j).1 = 2 → V 97 (rk S.2 j) = nI j
def LT (S : Sh) (c r : Nat) (T : Sh) : Prop := T.1 = S.1 ∧ T.2.length = S.2.length ∧ ∀ k, k < S.2.length → (pg T.2 k).2 = (pg S.2 k).2 ∧ ((pg S.2 k).1 ≠ 2 → (pg T.2 k).1 = (pg S.2 k).1) ∧ ((pg S.2 k).1 = 2 → ((pg T.2 k).1 = 1 ∨ (pg T.2 k).1 = 2) ∧ (rk S.2 k < r → (pg T.2 k).1 = kc S.2 c k))
theorem LT_ok {S T : Sh} {c r : Nat} (hok : okS S) (h : LT S c r T) : okS T := by
  obtain ⟨h1, h2, h3⟩ := h
  have h24 := hok.2.2.1
  refine ok_pg hok h1 (by omega) (fun k hk => ?_)
  have hk2 : k < S.2.length := by omega
  have hp := pg_ok hok.2.2.2 hk2
  obtain ⟨a1, a2, a3⟩ := h3 k hk2
  have a4 : 1 ≤ (pg T.2 k).1 ∧ (pg T.2 k).1 ≤ 5 := by
    by_cases c2 : (pg S.2 k).1 = 2
    · have := (a3 c2).1
      omega
    · rw [a2 c2]
      exact ⟨hp.1, hp.2.1⟩
  refine ⟨a4.1, a4.2, ?_, ?_⟩
  · rw [a1]; exact hp.2.2.1
  · rw [a1]; exact hp.2.2.2
theorem LT_0 {S T : Sh} {c c' r : Nat} (h : LT S c r T) : LT S c' 0 T := ⟨h.1, h.2.1, fun k hk => ⟨(h.2.2 k hk).1, (h.2.2 k hk).2.1, fun e => ⟨((h.2.2 k hk).2.2 e).1, fun q => absurd q (by omega)⟩⟩⟩
theorem LT_S {S : Sh} {c : Nat} : LT S c 0 S := ⟨rfl, rfl, fun k hk => ⟨rfl, fun _ => rfl, fun e => ⟨Or.inr e, fun q => absurd q (by omega)⟩⟩⟩
theorem LT_end {S T : Sh} {c : Nat} (h : LT S c (rk S.2 S.2.length) T) : T = Tc S c S.2.length := by
  refine Prod.ext h.1 (pg_ext (by rw [len_Tc]; exact h.2.1) (fun k hk => ?_))
  have hk2 : k < S.2.length := by rw [← h.2.1]; exact hk
  obtain ⟨a1, a2, a3⟩ := h.2.2 k hk2
  rw [pg_Tc hk2]
  by_cases e : (pg S.2 k).1 = 2
  · rw [if_pos ⟨hk2, e⟩]
    exact Prod.ext ((a3 e).2 (rk_lt hk2 e)) a1
  · rw [if_neg (fun q => e q.2)]
    exact Prod.ext (a2 e) a1
theorem LT_Tc {S : Sh} {c c' : Nat} : LT S c' 0 (Tc S c S.2.length) := by
  refine ⟨rfl, len_Tc, fun k hk => ?_⟩
  rw [pg_Tc hk]
  by_cases e : (pg S.2 k).1 = 2
  · rw [if_pos ⟨hk, e⟩]
    exact ⟨rfl, fun q => absurd e q, fun _ => ⟨kc_12, fun q => absurd q (by omega)⟩⟩
  · rw [if_neg (fun q => e q.2)]
    exact ⟨rfl, fun _ => rfl, fun q => absurd q e⟩
theorem LT_step {S T : Sh} {c r j : Nat} (h : LT S c r T) (hj : j < S.2.length) (hj2 : (pg S.2 j).1 = 2) (hr : rk S.2 j = r) : LT S c (r + 1) (setS T j (kc S.2 c j, (pg S.2 j).2.1, (pg S.2 j).2.2)) := by
  obtain ⟨h1, h2, h3⟩ := h
  have hl : (setS T j (kc S.2 c j, (pg S.2 j).2.1, (pg S.2 j).2.2)).2.length = T.2.length := List.length_set
  refine ⟨h1, by rw [hl]; exact h2, fun k hk => ?_⟩
  have e : pg (setS T j (kc S.2 c j, (pg S.2 j).2.1, (pg S.2 j).2.2)).2 k = if k = j then (kc S.2 c j, (pg S.2 j).2.1, (pg S.2 j).2.2) else pg T.2 k := pg_set (by omega) k
  obtain ⟨a1, a2, a3⟩ := h3 k hk
  rw [e]
  by_cases q : k = j
  · subst q
    rw [if_pos rfl]
    exact ⟨rfl, fun w => absurd hj2 w, fun _ => ⟨kc_12, fun _ => rfl⟩⟩
  · rw [if_neg q]
    refine ⟨a1, a2, fun w => ⟨(a3 w).1, fun z => (a3 w).2 ?_⟩⟩
    rcases Nat.lt_or_gt_of_ne q with l | l
    · have := rk_lt (P := S.2) l w
      omega
    · have := rk_lt (P := S.2) l hj2
      omega
theorem xq_97 {V0 V V' : Mem} {S : Sh} (hok : okS S) (h : XQ V0 V S) (fr : ∀ a, a ≠ 97 → V' a = V a) : XQ V0 V' S := by
  obtain ⟨⟨a1, a2⟩, a3, a4, a5, a6⟩ := h
  exact ⟨⟨fun a q => by rw [fr a (by omega)]; exact a1 a q, fun k q => by rw [fr 4 (by omega)]; exact a2 k q⟩, by rw [fr 0 (by omega)]; exact a3, a4.cg (by rw [fr 4 (by omega)]) (fun k q1 q2 => fr _ (by omega)), a5.cg hok.2.2.1 (by rw [fr 4 (by omega)]) (fun k q => fr _ (by omega)), fun x hx => by rw [fr 41 (by omega)]; exact a6 x hx⟩
theorem note_x {V0 : Mem} {S : Sh} (hok : okS S) (h5 : rk S.2 S.2.length ≤ 5) : ∀ (d m k : Nat) (V : Mem), k + d = S.2.length → d < m → XQ V0 V S → (∀ j, j < k → (pg S.2 j).1 = 2 → V 97 (rk S.2 j) = nI j) → ∃ V', f_X6_noteRestarts_4 m (nI (rk S.2 k)) (nI k) V = some V' ∧ XQ V0 V' S ∧ NR V' S := by
  have h24 := hok.2.2.1
  intro d
  induction d with
  | zero =>
    intro m k V hk hm hx hN
    obtain ⟨m, rfl⟩ : ∃ n', m = n' + 1 := ⟨m - 1, by omega⟩
    rw [f_X6_noteRestarts_4, hx.2.2.1.1, if_pos (by rw [nle (by omega) (by omega)]; omega)]
    exact ⟨V, rfl, hx, fun j hj => hN j (by omega)⟩
  | succ d ih =>
    intro m k V hk hm hx hN
    obtain ⟨m, rfl⟩ : ∃ n', m = n' + 1 := ⟨m - 1, by omega⟩
    have e1 : nI k + 1 = nI (k + 1) := nI_1 k
    have hk2 : k < S.2.length := by omega
    have hp := pg_ok hok.2.2.2 hk2
    have h5' := hp.2.1
    have s1 : V 6 k = nI (pg S.2 k).1 := (hx.2.2.1.2.2 k hk2).1
    rw [f_X6_noteRestarts_4, hx.2.2.1.1, if_neg (by rw [nle (by omega) (by omega)]; omega), if_pos (ibt (by omega) (by omega)), ncl (show k < _ by omega), s1, f_X6_noteRestarts_43, f_X6_noteRestarts_43, e1]
    by_cases c : (pg S.2 k).1 = 2
    · have hr := rk_lt (P := S.2) hk2 c
      have e2 : nI (rk S.2 k) + 1 = nI (rk S.2 (k + 1)) := by rw [rk, if_pos c]; exact nI_1 _
      rw [if_pos (by rw [c]; rfl), if_neg (by rw [li, nle (by omega) (by omega)]; omega), if_pos (ibt (by omega) (by omega)), ncl (by omega), e2]
      refine ih m (k + 1) _ (by omega) (by omega) (xq_97 hok hx (fun a q => st_id q)) (fun j hj hj2 => ?_)
      by_cases q : j = k
      · subst q; exact st_same
      · have := rk_lt (P := S.2) (show j < k by omega) hj2
        rw [st_ne2 (by omega)]
        exact hN j (by omega) hj2
    · have e2 : rk S.2 (k + 1) = rk S.2 k := by rw [rk, if_neg c]; rfl
      rw [if_neg (by rw [li, neq (by omega) (by omega)]; exact c), ← e2]
      refine ih m (k + 1) V (by omega) (by omega) hx (fun j hj hj2 => ?_)
      by_cases q : j = k
      · subst q; exact absurd hj2 c
      · exact hN j (by omega) hj2
theorem xt_new2 {V0 V : Mem} {S : Sh} (hok : okS S) (h : XQ V0 V S) : ∃ V', f_X3_become 35 4 V = some V' ∧ XT V0 V' S S ∧ V' 97 = V 97 := by
  obtain ⟨V1, x1, x2⟩ := xt_new hok h
  obtain ⟨V2, y1, y2, y3, y4, y5⟩ := sbecome_x (V := V) (z := 35) (r := 4) (by omega) hok.2.2.1 h.2.2.1
  have e : V1 = V2 := by
    rw [x1] at y1
    exact Option.some.inj y1
  subst e
  exact ⟨V1, x1, x2, y4 97 (by omega)⟩
theorem lose_x {V0 : Mem} {S : Sh} {c : Nat} (hok : okS S) (h5 : rk S.2 S.2.length ≤ 5) (hc : c < 32) : ∀ (d m r : Nat) (T : Sh) (V : Mem), r + d = rk S.2 S.2.length → d < m → XT V0 V S T → NR V S → LT S c r T → ∃ V', f_X6_loseRestarts_2 m (nI c) (nI (rk S.2 S.2.length)) (nI r) V = some V' ∧ XT V0 V' S (Tc S c S.2.length) ∧ NR V' S := by
  have h24 := hok.2.2.1
  intro d
  induction d with
  | zero =>
    intro m r T V hr hm hx hN hT
    obtain ⟨m, rfl⟩ : ∃ n', m = n' + 1 := ⟨m - 1, by omega⟩
    rw [f_X6_loseRestarts_2, if_pos (by rw [nle (by omega) (by omega)]; omega)]
    have e : r = rk S.2 S.2.length := by omega
    subst e
    refine ⟨V, rfl, ?_, hN⟩
    rw [← LT_end hT]
    exact hx
  | succ d ih =>
    intro m r T V hr hm hx hN hT
    obtain ⟨m, rfl⟩ : ∃ n', m = n' + 1 := ⟨m - 1, by omega⟩
    have e1 : nI r + 1 = nI (r + 1) := nI_1 r
    obtain ⟨j, j1, j2, j3⟩ := rk_ex (P := S.2) (r := r) S.2.length (by omega)
    have hv : V 97 r = nI j := by rw [← j3]; exact hN j j1 j2
    have i24 : ib (nI j) 24 = true := ibt (by omega) (by omega)
    have cj : (nI j).toNatClampNeg = j := ncl (by omega)
    have s2 : V 7 j = nI (pg S.2 j).2.1 := (hx.1.2.2.1.2.2 j j1).2.1
    have s3 : V 8 j = nI (pg S.2 j).2.2 := (hx.1.2.2.1.2.2 j j1).2.2
    obtain ⟨mm, hmm⟩ := hx.2.2
    obtain ⟨V1, x1, x2, x3, x4⟩ := alt_x (p := j) (q := (kc S.2 c j, (pg S.2 j).2.1, (pg S.2 j).2.2)) (LT_ok hok hT) hx.2.1 hmm (by rw [hT.2.1]; exact j1)
    have x1' : f_X3_alter 35 (nI j) (nI (kc S.2 c j)) (nI (pg S.2 j).2.1) (nI (pg S.2 j).2.2) V = some V1 := x1
    have hx1 := xt_fx hok hx x4 x2 x3
    have hN1 : NR V1 S := fun i i1 i2 => by rw [x4.1 97 (by omega) (by omega) (by omega) (by omega)]; exact hN i i1 i2
    have es : (if (nI c >>> (nI r &&& 31)) &&& 1 = 1 then f_X6_loseRestarts_35_c35 (f_X6_loseRestarts_2 m) (nI c) (nI (rk S.2 S.2.length)) (nI r) (nI j) (nI j) 1 V else f_X6_loseRestarts_35_c35 (f_X6_loseRestarts_2 m) (nI c) (nI (rk S.2 S.2.length)) (nI r) (nI j) (nI j) 2 V) = f_X6_loseRestarts_35_c35 (f_X6_loseRestarts_2 m) (nI c) (nI (rk S.2 S.2.length)) (nI r) (nI j) (nI j) (nI (kc S.2 c j)) V := by
      unfold kc
      rw [j3]
      by_cases b : c / 2 ^ r % 2 = 1
      · rw [if_pos ((bitC c hc r (by omega)).mpr b), if_pos b]
        rfl
      · rw [if_neg (fun q => b ((bitC c hc r (by omega)).mp q)), if_neg b]
        rfl
    rw [f_X6_loseRestarts_2, if_neg (by rw [nle (by omega) (by omega)]; omega), if_pos (ibt (by omega) (by omega)), ncl (show r < _ by omega), hv, es, f_X6_loseRestarts_35_c35, if_pos i24, if_pos i24, cj, s2, s3, x1', Option.bind_some, e1]
    exact ih m (r + 1) _ V1 (by omega) (by omega) hx1 hN1 (LT_step hT j1 j2 j3)
def abF (S : Sh) (p : Nat) (v : Int32) (q m : Nat) : Nat → Nat
  | 0 => 0
  | c + 1 => abF S p v q m c + (if nI (own (Tc S c S.2.length) p) = v then wN c q m else 0)
theorem abF_le {S : Sh} {p q m : Nat} {v : Int32} : ∀ n, abF S p v q m n ≤ sm (fun c => wN c q m) n := by
  intro n
  induction n with
  | zero => exact Nat.le_refl 0
  | succ n ih =>
    rw [abF, sm]
    split <;> omega
def lsV (w : Int32) (A B : Nat) : Int64 := if w = 0 then lN A / lN (Nat.gcd A B) else lN B / lN (Nat.gcd A B)
theorem p10 : ∀ m, m < 6 → 1 ≤ 10 ^ m ∧ 10 ^ m ≤ 100000 := by decide
theorem p2 : ∀ m, m < 6 → 1 ≤ 2 ^ m ∧ 2 ^ m ≤ 32 := by decide
theorem lost_x {V0 : Mem} {S : Sh} {p q : Nat} {v w : Int32} (hok : okS S) (hp : p < S.2.length) (hq : q ≤ 10) (h5 : rk S.2 S.2.length ≤ 5) : ∀ (d n c : Nat) (T : Sh) (V : Mem), c + d = 2 ^ rk S.2 S.2.length → d < n → XT V0 V S T → NR V S → LT S c 0 T → ∃ V' T', f_X6_lost_86 n (nI p) v (nI q) w (nI (rk S.2 S.2.length)) (lN (abF S p v q (rk S.2 S.2.length) c)) (nI c) V = some (lsV w (abF S p v q (rk S.2 S.2.length) (2 ^ rk S.2 S.2.length)) (10 ^ rk S.2 S.2.length), V') ∧ XT V0 V' S T' := by
  have h2 := p2 (rk S.2 S.2.length) (by omega)
  have h10 := p10 (rk S.2 S.2.length) (by omega)
  intro d
  induction d with
  | zero =>
    intro n c T V hc hn hx hN hT
    obtain ⟨n, rfl⟩ : ∃ n', n = n' + 1 := ⟨n - 1, by omega⟩
    have hA : abF S p v q (rk S.2 S.2.length) (2 ^ rk S.2 S.2.length) ≤ 10 ^ rk S.2 S.2.length := by
      rw [← ways_sum (rk S.2 S.2.length) (by omega) q (by omega)]
      exact abF_le _
    have hcd : f_X6_commonDivisor_9 4096 (lN (10 ^ rk S.2 S.2.length)) (lN (abF S p v q (rk S.2 S.2.length) (2 ^ rk S.2 S.2.length))) 0 V = _ := gc_x (V := V) 22 (10 ^ rk S.2 S.2.length) (abF S p v q (rk S.2 S.2.length) (2 ^ rk S.2 S.2.length)) 0 4096 (by omega) (by omega) (by omega) (by omega) (by omega) (by omega)
    have hpw : f_X6_power (10 : Int64) (nI (rk S.2 S.2.length)) V = _ := power_x (b := 10) h5
    have hg : Nat.gcd (10 ^ rk S.2 S.2.length) (abF S p v q (rk S.2 S.2.length) (2 ^ rk S.2 S.2.length)) ≤ 10 ^ rk S.2 S.2.length := Nat.gcd_le_left _ (by omega)
    have hg1 : 0 < Nat.gcd (10 ^ rk S.2 S.2.length) (abF S p v q (rk S.2 S.2.length) (2 ^ rk S.2 S.2.length)) := Nat.gcd_pos_of_pos_left _ (by omega)
    have hgz : ¬ lN (Nat.gcd (10 ^ rk S.2 S.2.length) (abF S p v q (rk S.2 S.2.length) (2 ^ rk S.2 S.2.length))) = 0 := fun e => by
      have := (leq0 (by omega)).mp e
      omega
    rw [f_X6_lost_86, shl5 _ (by omega), if_pos (by rw [nle (by omega) (by omega)]; omega), hpw, Option.bind_some, show c = 2 ^ rk S.2 S.2.length by omega]
    dsimp only
    rw [f_X6_commonDivisor, hcd, Option.bind_some, if_neg hgz, if_neg hgz, lsV, Nat.gcd_comm (abF S p v q (rk S.2 S.2.length) (2 ^ rk S.2 S.2.length))]
    by_cases c0 : w = 0
    · rw [if_pos c0, if_pos c0]
      exact ⟨V, T, rfl, hx⟩
    · rw [if_neg c0, if_neg c0]
      exact ⟨V, T, rfl, hx⟩
  | succ d ih =>
    intro n c T V hc hn hx hN hT
    obtain ⟨n, rfl⟩ : ∃ n', n = n' + 1 := ⟨n - 1, by omega⟩
    have e1 : nI c + 1 = nI (c + 1) := nI_1 c
    have hc32 : c < 32 := by omega
    obtain ⟨V1, x1, x2, x3⟩ := lose_x hok h5 hc32 (rk S.2 S.2.length) 4096 0 T V (by omega) (by omega) hx hN hT
    have x1' : f_X6_loseRestarts_2 4096 (nI c) (nI (rk S.2 S.2.length)) 0 V = _ := x1
    obtain ⟨V2, o1, o2, o3⟩ := own_x (Or.inr rfl) (ok_Tc hok) x2.2.1 x2.2.2 (k := p) (by rw [len_Tc]; exact hp)
    have hx2 := xt_fs hok x2 o2 o3
    have hN2 : NR V2 S := fun i i1 i2 => by rw [o2.1 97 (by omega) (by omega)]; exact x3 i i1 i2
    have hw := ways_eq (rk S.2 S.2.length) (by omega) c hc32 q (by omega) (by omega)
    have p1 : f_X6_power (nI q).toInt64 (nI (bc c)) V2 = some (lN (q ^ bc c), V2) := by
      rw [nI_l (by omega)]
      exact power_x (by omega)
    have p2 : f_X6_power ((10 : Int32) - nI q).toInt64 (nI (rk S.2 S.2.length) - nI (bc c)) V2 = some (lN ((10 - q) ^ (rk S.2 S.2.length - bc c)), V2) := by
      rw [show (10 : Int32) = nI 10 from rfl, nsb (by omega), nsb hw.1, nI_l (by omega)]
      exact power_x (by omega)
    rw [f_X6_lost_86, shl5 _ (by omega), if_neg (by rw [nle (by omega) (by omega)]; omega), f_X6_loseRestarts, x1', Option.bind_some, o1, Option.bind_some]
    unfold f_X6_lost_148
    by_cases b : nI (own (Tc S c S.2.length) p) = v
    · rw [if_pos b]
      dsimp only
      rw [bc_x c hc32, Option.bind_some]
      dsimp only
      rw [p1, Option.bind_some]
      dsimp only
      rw [p2, Option.bind_some]
      dsimp only
      rw [lN_mul, lN_add, e1, ← hw.2]
      have ea : abF S p v q (rk S.2 S.2.length) c + wN c q (rk S.2 S.2.length) = abF S p v q (rk S.2 S.2.length) (c + 1) := by rw [abF, if_pos b]
      rw [ea]
      exact ih n (c + 1) _ V2 (by omega) (by omega) hx2 hN2 LT_Tc
    · rw [if_neg b, e1]
      have ea : abF S p v q (rk S.2 S.2.length) c = abF S p v q (rk S.2 S.2.length) (c + 1) := by rw [abF, if_neg b]; rfl
      rw [ea]
      exact ih n (c + 1) _ V2 (by omega) (by omega) hx2 hN2 LT_Tc
/-! the reference -/
theorem rest_m {M : Mem} {S : Sh} (hok : okS S) (hS : ShM (M 4) S) : ∀ (d n k : Nat), k + d = S.2.length → d < n → f_X7_restarts_4 n (nI (al S.2 k)) (nI k) M = some (nI (al S.2 S.2.length), M) := by
  have h24 := hok.2.2.1
  have e0 : M 4 ((0 : Int32)).toNatClampNeg = nI S.2.length := hS.1
  intro d
  induction d with
  | zero =>
    intro n k hk hn
    obtain ⟨n, rfl⟩ : ∃ n', n = n' + 1 := ⟨n - 1, by omega⟩
    rw [f_X7_restarts_4, if_pos ib076, e0, if_pos (by rw [nle (by omega) (by omega)]; omega), show k = S.2.length by omega]
  | succ d ih =>
    intro n k hk hn
    obtain ⟨n, rfl⟩ : ∃ n', n = n' + 1 := ⟨n - 1, by omega⟩
    have e1 : nI k + 1 = nI (k + 1) := nI_1 k
    have hk2 : k < S.2.length := by omega
    have hp := (pg_ok hok.2.2.2 hk2).2.1
    have o0 : f_X7_of 4 (nI k) 0 M = some (M 4 (4 + 3 * k + 0), M) := of_any (w := 0) (by omega) (by omega)
    have s1 : M 4 (4 + 3 * k + 0) = nI (pg S.2 k).1 := (hS.2.2 k hk2).1
    have ha := al24 (P := S.2) (n := k) (by omega)
    have h2k : 2 ^ k < 2 ^ 24 := Nat.pow_lt_pow_right (by omega) (by omega)
    rw [f_X7_restarts_4, if_pos ib076, e0, if_neg (by rw [nle (by omega) (by omega)]; omega), o0, Option.bind_some, s1, f_X7_restarts_35, f_X7_restarts_35, e1, shl1 k (by omega), or0, orI (by omega) (by omega)]
    by_cases c : (pg S.2 k).1 = 2
    · have ea : al S.2 (k + 1) = al S.2 k ||| 2 ^ k := by rw [al, if_pos c]
      rw [if_pos (by dsimp only; rw [c]; rfl), ← ea]
      exact ih n (k + 1) (by omega) (by omega)
    · have ea : al S.2 (k + 1) = al S.2 k := by rw [al, if_neg c]
      rw [if_neg (by dsimp only; rw [li, neq (by omega) (by omega)]; exact c), ← ea]
      exact ih n (k + 1) (by omega) (by omega)
theorem bits_m {M : Mem} {P : List Pg} (hP : P.length ≤ 24) : ∀ (d n k : Nat), k + d = 24 → d < n → f_X7_bits_4 n (nI (al P P.length)) (nI (rk P k)) (nI k) M = some (nI (rk P 24), M) := by
  intro d
  induction d with
  | zero =>
    intro n k hk hn
    obtain ⟨n, rfl⟩ : ∃ n', n = n' + 1 := ⟨n - 1, by omega⟩
    have e : k = 24 := by omega
    subst e
    rw [f_X7_bits_4, if_pos (by decide)]
  | succ d ih =>
    intro n k hk hn
    obtain ⟨n, rfl⟩ : ∃ n', n = n' + 1 := ⟨n - 1, by omega⟩
    have e1 : nI k + 1 = nI (k + 1) := nI_1 k
    have e2 : nI (rk P k) + (if k < P.length ∧ (pg P k).1 = 2 then 1 else 0) = nI (rk P (k + 1)) := by
      rw [rk]
      by_cases c : (pg P k).1 = 2
      · have hk2 : k < P.length := by
          by_cases q : k < P.length
          · exact q
          · have : pg P k = (0, 0, 0) := by
              unfold pg
              rw [List.getD_eq_getElem?_getD, List.getElem?_eq_none (by omega)]
              rfl
            rw [this] at c
            exact absurd c (by decide)
        rw [if_pos ⟨hk2, c⟩, if_pos c]
        exact nI_1 _
      · rw [if_neg (fun q => c q.2), if_neg c, add0]
        rfl
    rw [f_X7_bits_4, if_neg (by rw [li, nle (by omega) (by omega)]; omega), bitAl hP (by omega), e2, e1]
    exact ih n (k + 1) (by omega) (by omega)
theorem rk24 {P : List Pg} (hP : P.length ≤ 24) : rk P 24 = rk P P.length := by
  have h := rk_nK (P := P) (24 - P.length) P.length
  rw [show P.length + (24 - P.length) = 24 by omega] at h
  have z : ∀ (d k : Nat), P.length ≤ k → nK P 2 d k = 0 := by
    intro d
    induction d with
    | zero => intro k _; rfl
    | succ d ih =>
      intro k hk
      have : pg P k = (0, 0, 0) := by
        unfold pg
        rw [List.getD_eq_getElem?_getD, List.getElem?_eq_none (by omega)]
        rfl
      rw [nK, this, ih (k + 1) (by omega)]
      rfl
  rw [z _ _ (Nat.le_refl _)] at h
  exact h.symm
theorem bitsAll {M : Mem} {P : List Pg} (hP : P.length ≤ 24) : f_X7_bits (nI (al P P.length)) M = some (nI (rk P P.length), M) := by
  unfold f_X7_bits
  rw [← rk24 hP]
  exact bits_m hP 24 4096 0 (by omega) (by omega)
theorem divp {c r : Nat} : c / 2 ^ r / 2 = c / 2 ^ (r + 1) := by
  rw [Nat.div_div_eq_div_mul, Nat.pow_succ]
theorem has_m {M : Mem} {S : Sh} {o : Nat} (h24 : S.2.length ≤ 24) (ho : o < S.2.length) : f_X7_has (nI (al S.2 S.2.length)) (nI o) M = some (if (pg S.2 o).1 = 2 then 1 else 0, M) := by
  unfold f_X7_has
  rw [bitAl h24 (by omega)]
  by_cases c : (pg S.2 o).1 = 2
  · have e : (if o < S.2.length ∧ (pg S.2 o).1 = 2 then (1 : Int32) else 0) = 1 := if_pos ⟨ho, c⟩
    rw [e, if_pos rfl, if_pos c]
  · have e : (if o < S.2.length ∧ (pg S.2 o).1 = 2 then (1 : Int32) else 0) = 0 := if_neg (fun q => c q.2)
    rw [e, if_neg (by decide), if_neg c]
theorem case_m {U : Mem} {S : Sh} {p q c A B : Nat} {v w : Int32} {K : Int32 → Int32 → Int32 → Int32 → Int32 → Int64 → Int64 → Int32 → Mem → Option (Int64 × Mem)} (hok : okS S) (hp : p < S.2.length) (hq : q ≤ 10) (hc : c < 32) : ∀ (d n o : Nat) (M : Mem), o + d = S.2.length → d < n → MT U M S (Tc S c o) → ∃ M', f_X7_lost_106 K n (nI p) v (nI q) w (nI (al S.2 S.2.length)) (lN A) (lN B) (nI c) (lN (wN c q (rk S.2 o))) (nI (c / 2 ^ rk S.2 o)) (nI o) M = K (nI p) v (nI q) w (nI (al S.2 S.2.length)) (lN (A + (if nI (own (Tc S c S.2.length) p) = v then wN c q (rk S.2 S.2.length) else 0))) (lN (B + wN c q (rk S.2 S.2.length))) (nI (c + 1)) M' ∧ MT U M' S (Tc S c S.2.length) := by
  have h24 := hok.2.2.1
  intro d
  induction d with
  | zero =>
    intro n o M ho hn hm
    obtain ⟨n, rfl⟩ : ∃ n', n = n' + 1 := ⟨n - 1, by omega⟩
    have e0 : M 4 ((0 : Int32)).toNatClampNeg = nI S.2.length := hm.1.2.2.2.1
    have e1 : nI c + 1 = nI (c + 1) := nI_1 c
    have e : o = S.2.length := by omega
    subst e
    have hm2 : MT U (mk M (Tc S c S.2.length).2 (Tc S c S.2.length).2.length) S (Tc S c S.2.length) := mt_mk hm
    rw [f_X7_lost_106, if_pos ib076, e0, if_pos (by rw [nle (by omega) (by omega)]; omega), countAll_eq (by omega) hm.2 (ok_Tc hok), Option.bind_some, own_m (r := 6) (by omega) (ok_Tc hok) hm.2 (k := p) (by rw [len_Tc]; exact hp), Option.bind_some]
    unfold f_X7_lost_225
    rw [e1, lN_add, lN_add, show (0 : Int64) = lN 0 from rfl, lN_add]
    by_cases b : nI (own (Tc S c S.2.length) p) = v
    · rw [if_pos b, if_pos b]
      exact ⟨_, rfl, hm2⟩
    · rw [if_neg b, if_neg b]
      exact ⟨_, rfl, hm2⟩
  | succ d ih =>
    intro n o M ho hn hm
    obtain ⟨n, rfl⟩ : ∃ n', n = n' + 1 := ⟨n - 1, by omega⟩
    have e0 : M 4 ((0 : Int32)).toNatClampNeg = nI S.2.length := hm.1.2.2.2.1
    have e1 : nI o + 1 = nI (o + 1) := nI_1 o
    have ho2 : o < S.2.length := by omega
    have hd : c / 2 ^ rk S.2 o < 32 := Nat.lt_of_le_of_lt (Nat.div_le_self _ _) hc
    obtain ⟨b1, b2⟩ := bitL _ hd
    rw [f_X7_lost_106, if_pos ib076, e0, if_neg (by rw [nle (by omega) (by omega)]; omega), has_m h24 ho2, Option.bind_some]
    by_cases k2 : (pg S.2 o).1 = 2
    · have er : rk S.2 (o + 1) = rk S.2 o + 1 := by rw [rk, if_pos k2]
      have e4 : (4 : Int32) + (3 : Int32) * nI o + 0 = nI (4 + 3 * o + 0) := by rw [add0, li, li, pk_mul, nad]; rfl
      have e10 : (10 : Int64) - (nI q).toInt64 = lN (10 - q) := by rw [nI_l (by omega), show (10 : Int64) = lN 10 from rfl, lN_sub hq]
      have hm2 : MT U (st M 6 (4 + 3 * o + 0) (nI (kc S.2 c o))) S (Tc S c (o + 1)) := by
        rw [Tc_yes ho2 k2]
        exact mt_ms hm (lay_qv hm.2 (by rw [len_Tc]; exact ho2) (by omega))
      have hih := ih n (o + 1) _ (by omega) (by omega) hm2
      rw [er, ← divp] at hih
      rw [if_neg (fun z => ((b01z _).mp z) k2)]
      dsimp only
      unfold f_X7_lost_148 f_X7_lost_176_c6 f_X7_lost_183
      rw [e4, if_pos (ibt (by omega) (by omega)), ncl (by omega), b2, e1, e10, nI_l (by omega)]
      by_cases b : c / 2 ^ rk S.2 o % 2 = 1
      · have ek : kc S.2 c o = 1 := by unfold kc; rw [if_pos b]
        have ew : wN c q (rk S.2 o + 1) = wN c q (rk S.2 o) * q := by rw [wN, if_pos b]
        rw [if_pos (b1.mpr b), if_pos (b1.mpr b), lN_mul, ← ew]
        rw [ek] at hih
        exact hih
      · have ek : kc S.2 c o = 2 := by unfold kc; rw [if_neg b]
        have ew : wN c q (rk S.2 o + 1) = wN c q (rk S.2 o) * (10 - q) := by rw [wN, if_neg b]
        rw [if_neg (fun z => b (b1.mp z)), if_neg (fun z => b (b1.mp z)), if_pos (ibt (show 4 + 3 * o + 0 < 76 by omega) (by omega)), lN_mul, ← ew]
        rw [ek] at hih
        exact hih
    · have er : rk S.2 (o + 1) = rk S.2 o := by rw [rk, if_neg k2]; rfl
      have hm2 : MT U M S (Tc S c (o + 1)) := by rw [Tc_no k2]; exact hm
      have hih := ih n (o + 1) M (by omega) (by omega) hm2
      rw [er] at hih
      rw [if_pos ((b01z _).mpr k2), f_X7_lost_183, e1]
      exact hih
theorem lost_m {U : Mem} {S : Sh} {p q : Nat} {v w : Int32} (hok : okS S) (hp : p < S.2.length) (hq : q ≤ 10) (h5 : rk S.2 S.2.length ≤ 5) : ∀ (d n c : Nat) (M : Mem), c + d = 2 ^ rk S.2 S.2.length → d < n → MV U M S → ∃ M', f_X7_lost_80 n (nI p) v (nI q) w (nI (al S.2 S.2.length)) (lN (abF S p v q (rk S.2 S.2.length) c)) (lN (sm (fun c => wN c q (rk S.2 S.2.length)) c)) (nI c) M = some (lsV w (abF S p v q (rk S.2 S.2.length) (2 ^ rk S.2 S.2.length)) (10 ^ rk S.2 S.2.length), M') ∧ MV U M' S := by
  have h24 := hok.2.2.1
  have h2 := p2 (rk S.2 S.2.length) (by omega)
  have h10 := p10 (rk S.2 S.2.length) (by omega)
  intro d
  induction d with
  | zero =>
    intro n c M hc hn hm
    obtain ⟨n, rfl⟩ : ∃ n', n = n' + 1 := ⟨n - 1, by omega⟩
    have hA : abF S p v q (rk S.2 S.2.length) (2 ^ rk S.2 S.2.length) ≤ 10 ^ rk S.2 S.2.length := by
      rw [← ways_sum (rk S.2 S.2.length) (by omega) q (by omega)]
      exact abF_le _
    have e : c = 2 ^ rk S.2 S.2.length := by omega
    subst e
    rw [f_X7_lost_80, bitsAll h24, Option.bind_some, shl5 _ (by omega), if_pos (by rw [nle (by omega) (by omega)]; omega), ways_sum (rk S.2 S.2.length) (by omega) q (by omega)]
    generalize abF S p v q (rk S.2 S.2.length) (2 ^ rk S.2 S.2.length) = A at *
    generalize 10 ^ rk S.2 S.2.length = B at *
    have hg : Nat.gcd A B ≤ B := Nat.gcd_le_right _ (by omega)
    have hg1 : 0 < Nat.gcd A B := Nat.gcd_pos_of_pos_right _ (by omega)
    have hgz : ¬ lN (Nat.gcd A B) = 0 := fun e => by
      have := (leq0 (by omega)).mp e
      omega
    rw [gc_m 22 A B 4096 (by omega) (by omega) (by omega) (by omega), f_X7_lost_279, f_X7_lost_279, if_neg hgz, if_neg hgz, lsV]
    by_cases c0 : w = 0
    · rw [if_pos c0, if_pos c0]
      exact ⟨M, rfl, hm⟩
    · rw [if_neg c0, if_neg c0]
      exact ⟨M, rfl, hm⟩
  | succ d ih =>
    intro n c M hc hn hm
    obtain ⟨n, rfl⟩ : ∃ n', n = n' + 1 := ⟨n - 1, by omega⟩
    have hl := mt_lay h24 hm
    have hl0 : MT U (cp M 4 6 0 0 76) S (Tc S c 0) := by rw [Tc_0]; exact hl
    obtain ⟨M1, x1, x2⟩ := case_m (K := f_X7_lost_80 n) (A := abF S p v q (rk S.2 S.2.length) c) (B := sm (fun c => wN c q (rk S.2 S.2.length)) c) (v := v) (w := w) hok hp hq (show c < 32 by omega) S.2.length 4096 0 _ (by omega) (by omega) hl0
    have r0 : rk S.2 0 = 0 := rfl
    rw [r0, Nat.pow_zero, Nat.div_one] at x1
    have x1' : f_X7_lost_106 (f_X7_lost_80 n) 4096 (nI p) v (nI q) w (nI (al S.2 S.2.length)) (lN (abF S p v q (rk S.2 S.2.length) c)) (lN (sm (fun c => wN c q (rk S.2 S.2.length)) c)) (nI c) 1 (nI c) 0 (cp M 4 6 0 0 76) = _ := x1
    rw [f_X7_lost_80, bitsAll h24, Option.bind_some, shl5 _ (by omega), if_neg (by rw [nle (by omega) (by omega)]; omega), layThen_m, Option.bind_some, x1']
    exact ih n (c + 1) M1 (by omega) (by omega) x2.1
theorem s_lost : S_lost Inv := by
  intro a v b w V U h
  obtain ⟨S, A, hSS⟩ := h.2.2.2.2.1
  obtain ⟨hok, hX, hC, hM, -⟩ := id hSS
  have h24 := hok.2.2.1
  have hM' : ShM (st U 0 0 0 4) S := by rw [st_id (by omega)]; exact hM
  unfold f_X6_lost f_X7_lost f_X6_lost_41 f_X7_lost_48
  rcases dich a S.2.length with ⟨p, hp, rfl⟩ | hk
  · rw [has_yes hX.1 (by omega) hp, par_yes hM'.1 (by omega) hp, Option.bind_some, Option.bind_some, if_neg i10, if_neg i10]
    dsimp only
    rw [isBetween_eq, show (0 : Int64) = (0 : Int32).toInt64 from rfl, show (99 : Int64) = (99 : Int32).toInt64 from rfl, inw, Option.bind_some, Option.bind_some]
    by_cases h1 : 0 ≤ v ∧ v ≤ 99
    · rw [if_neg (fun q => ((b01z _).mp q) h1), if_neg (fun q => ((b01z _).mp q) h1)]
      dsimp only
      rw [isBetween_eq, show (10 : Int64) = (10 : Int32).toInt64 from rfl, inw, Option.bind_some, Option.bind_some]
      by_cases h2 : 0 ≤ b ∧ b ≤ 10
      · rw [if_neg (fun q => ((b01z _).mp q) h2), if_neg (fun q => ((b01z _).mp q) h2)]
        dsimp only
        rw [isBetween_eq, show (1 : Int64) = (1 : Int32).toInt64 from rfl, inw, Option.bind_some, Option.bind_some]
        by_cases h3 : 0 ≤ w ∧ w ≤ 1
        · rw [if_neg (fun q => ((b01z _).mp q) h3), if_neg (fun q => ((b01z _).mp q) h3)]
          obtain ⟨q, q1, rfl⟩ := btw (n := 10) (by omega) h2
          have x2 : f_X3_howManyOf_4 4 4096 2 0 0 V = _ := hm_x hok hX (c := 2) (by omega) S.2.length 4096 0 0 (by omega) (by omega)
          have er : 0 + nK S.2 2 S.2.length 0 = rk S.2 S.2.length := by
            have := rk_nK (P := S.2) S.2.length 0
            rw [rk, Nat.zero_add, Nat.zero_add] at this
            omega
          have y1 : f_X7_restarts_4 4096 0 0 (st U 0 0 0) = _ := rest_m hok hM' S.2.length 4096 0 (by omega) (by omega)
          have hr24 : rk S.2 S.2.length ≤ 24 := by
            have : ∀ n, rk S.2 n ≤ n := by
              intro n
              induction n with
              | zero => exact Nat.le_refl 0
              | succ n ih => rw [rk]; split <;> omega
            have := this S.2.length
            omega
          dsimp only
          rw [f_X3_howManyOf, x2, er, Option.bind_some, f_X7_restarts, y1, Option.bind_some]
          dsimp only
          rw [bitsAll h24, Option.bind_some]
          dsimp only
          by_cases h5 : rk S.2 S.2.length ≤ 5
          · rw [if_pos (by rw [li, nle (by omega) (by omega)]; omega), if_pos (by rw [li, nle (by omega) (by omega)]; omega)]
            obtain ⟨V1, n1, n2, n3⟩ := note_x hok h5 S.2.length 4096 0 V (by omega) (by omega) (xq_rf h hSS) (fun j hj => absurd hj (by omega))
            have n1' : f_X6_noteRestarts_4 4096 0 0 V = some V1 := n1
            obtain ⟨V2, b1, b2, b3⟩ := xt_new2 hok n2
            have hN2 : NR V2 S := fun i i1 i2 => by rw [b3]; exact n3 i i1 i2
            obtain ⟨V3, T3, l1, l2⟩ := lost_x (V0 := V) (v := v) (w := w) hok hp q1 h5 (2 ^ rk S.2 S.2.length) 4096 0 S V2 (by omega) (by have := p2 (rk S.2 S.2.length) (by omega); omega) b2 hN2 LT_S
            have l1' : f_X6_lost_86 4096 (nI p) v (nI q) w (nI (rk S.2 S.2.length)) 0 0 V2 = _ := l1
            obtain ⟨M3, m1, m2⟩ := lost_m (U := U) (v := v) (w := w) hok hp q1 h5 (2 ^ rk S.2 S.2.length) 4096 0 _ (by omega) (by have := p2 (rk S.2 S.2.length) (by omega); omega) (mv_t hM)
            have m1' : f_X7_lost_80 4096 (nI p) v (nI q) w (nI (al S.2 S.2.length)) 0 0 0 (st U 0 0 0) = _ := m1
            rw [f_X6_noteRestarts, n1', Option.bind_some, b1, Option.bind_some]
            refine ⟨_, _, l1', m1', rfl, inv_xv h hSS l2.1 m2.1 m2.2.1 m2.2.2.1⟩
          · rw [if_neg (by rw [li, nle (by omega) (by omega)]; omega), if_neg (by rw [li, nle (by omega) (by omega)]; omega)]
            exact ⟨_, _, rfl, rfl, rfl, inv_t h⟩
        · rw [if_pos ((b01z _).mpr h3), if_pos ((b01z _).mpr h3)]
          exact ⟨_, _, rfl, rfl, rfl, inv_t h⟩
      · rw [if_pos ((b01z _).mpr h2), if_pos ((b01z _).mpr h2)]
        exact ⟨_, _, rfl, rfl, rfl, inv_t h⟩
    · rw [if_pos ((b01z _).mpr h1), if_pos ((b01z _).mpr h1)]
      exact ⟨_, _, rfl, rfl, rfl, inv_t h⟩
  · rw [has_no hX.1 (by omega) hk, par_no hM'.1 (by omega) hk, Option.bind_some, Option.bind_some, if_pos rfl, if_pos rfl]
    exact ⟨_, _, rfl, rfl, rfl, inv_t h⟩

/-! nearest. -/
def nv (S : Sh) (p t : Nat) : Nat := own (mvS S p t) t
def gq (S : Sh) (p : Nat) (v : Int32) (t : Nat) : Prop := nI (nv S p t) = v
def ds (p t : Nat) : Nat := if t < p then p - t else t - p
def RS (S : Sh) (p : Nat) (v : Int32) (k : Nat) (x : Int32) : Prop := (x = -1000000 ∧ ∀ t, t < k → ¬ gq S p v t) ∨ ∃ t, t < k ∧ x = nI t ∧ gq S p v t ∧ ∀ t', t' < k → gq S p v t' → ds p t < ds p t' ∨ (ds p t = ds p t' ∧ t ≤ t')
theorem RS_one {S : Sh} {p k : Nat} {v x y : Int32} (hx : RS S p v k x) (hy : RS S p v k y) : x = y := by
  rcases hx with ⟨x1, x2⟩ | ⟨t, t1, t2, t3, t4⟩
  · rcases hy with ⟨y1, y2⟩ | ⟨s, s1, s2, s3, s4⟩
    · rw [x1, y1]
    · exact absurd s3 (x2 s s1)
  · rcases hy with ⟨y1, y2⟩ | ⟨s, s1, s2, s3, s4⟩
    · exact absurd t3 (y2 t t1)
    · have a := t4 s s1 s3
      have b := s4 t t1 t3
      have e : t = s := by omega
      rw [t2, s2, e]
theorem nv_eq {S : Sh} {p t : Nat} (hp : p < S.2.length) (ht : t < S.2.length) : nv S p t = ov (cnt (rmvS S p).2 t) (pg S.2 p) (pg S.2 p).2.1 := by
  have hl : (rmvS S p).2.length = S.2.length - 1 := len_rmv hp
  unfold nv own
  rw [pg_mv hp ht, cnt_succ (by rw [len_mv hp ht]; exact ht), pg_mv hp ht]
  have e : cnt (mvS S p t).2 t = cnt (rmvS S p).2 t := by
    apply cnt_take
    unfold mvS insS
    exact take_ins (by omega) (Nat.le_refl t)
  rw [e]
theorem xt_96 {V0 V V' : Mem} {S T : Sh} (hok : okS S) (hokT : okS T) (h : XT V0 V S T) (fr : ∀ a, a ≠ 96 → V' a = V a) : XT V0 V' S T := by
  obtain ⟨⟨⟨a1, a2⟩, a3, a4, a5, a6⟩, b1, b2⟩ := h
  have hc : CI V' 35 T.2 := b2.cg hokT.2.2.1 (by rw [fr 35 (by omega)]) (fun k q => fr _ (by omega))
  exact ⟨⟨⟨fun a q => by rw [fr a (by omega)]; exact a1 a q, fun k q => by rw [fr 4 (by omega)]; exact a2 k q⟩, by rw [fr 0 (by omega)]; exact a3, a4.cg (by rw [fr 4 (by omega)]) (fun k q1 q2 => fr _ (by omega)), a5.cg hok.2.2.1 (by rw [fr 4 (by omega)]) (fun k q => fr _ (by omega)), z0_ci hc⟩, b1.cg (by rw [fr 35 (by omega)]) (fun k q1 q2 => fr _ (by omega)), hc⟩
theorem countAt_x {V0 V : Mem} {S : Sh} {p t : Nat} (hok : okS S) (hp : p < S.2.length) (ht : t < S.2.length) (hx : XT V0 V S (rmvS S p)) : ∃ V', f_X6_countAt (nI p) (nI t) V = some (nI (nv S p t), V') ∧ XT V0 V' S (rmvS S p) := by
  have h24 := hok.2.2.1
  have hl : (rmvS S p).2.length = S.2.length - 1 := len_rmv hp
  have hokT := ok_rmv hok hp
  obtain ⟨V1, x1, x2, x3, x4⟩ := ahead_eq hokT hx.2.1 hx.2.2 (t := t) (by omega)
  have hx1 := xt_fs hok hx x2 x3
  have hpp := pg_ok hok.2.2.2 hp
  generalize hW : cp V1 (35 + 5 + 1 + t) 96 0 0 6 = W
  have w0 : ∀ a, a ≠ 96 → W a = V1 a := fun a q => by rw [← hW, cp_id q]
  have w96 : ∀ x, x < 6 → W 96 x = nI (cnt (rmvS S p).2 t x) := fun x hxx => by
    rw [← hW, cp_in (by omega), Nat.zero_add, Nat.sub_zero]
    exact x4 x hxx
  obtain ⟨s1, s2, s3⟩ := hx1.1.2.2.1.2.2 p hp
  have s1' : W (4 + 2) p = nI (pg S.2 p).1 := by rw [w0 _ (by omega)]; exact s1
  have s2' : W (4 + 3) p = nI (pg S.2 p).2.1 := by rw [w0 _ (by omega)]; exact s2
  have s3' : W (4 + 4) p = nI (pg S.2 p).2.2 := by rw [w0 _ (by omega)]; exact s3
  have ho := over_eq (r := 96) (V := W) (C := cnt (rmvS S p).2 t) (f := W 96) (k := (pg S.2 p).1) (l := (pg S.2 p).2.1) (s := (pg S.2 p).2.2) ⟨hpp.1, hpp.2.1⟩ (by have := hpp.2.2.1; omega) (by have := hpp.2.2.2; omega) (cf_of w96)
  have i24 : ib (nI p) 24 = true := ibt (by omega) (by omega)
  have cp' : (nI p).toNatClampNeg = p := ncl (by omega)
  have ck : cok 0 0 6 6 6 = true := by decide
  have hlv := hpp.2.2.1
  have bt : 0 ≤ nI t ∧ nI t ≤ nI (rmvS S p).2.length := ⟨nI_pos' (by omega), by rw [nle (by omega) (by omega)]; omega⟩
  have hW' : cp V1 (35 + 5 + 1 + t) 96 (Int32.toNatClampNeg 0) (Int32.toNatClampNeg 0) (Int32.toNatClampNeg 6) = W := hW
  refine ⟨ms W 96 (cf (ov (cnt (rmvS S p).2 t) (pg S.2 p)) (W 96)), ?_, xt_96 hok hokT hx1 (fun a q => by rw [ms_id q, w0 a q])⟩
  unfold f_X6_countAt
  rw [isBetween_eq, hx.2.1.1, Option.bind_some, if_neg (fun q => ((b01z _).mp q) bt)]
  dsimp only
  rw [x1, Option.bind_some]
  dsimp only
  rw [if_pos (kb35 (by omega)), if_pos ck, hW']
  unfold f_X3_countOver
  rw [if_pos i24, if_pos i24, if_pos i24, cp', s1', s2', s3', ho, Option.bind_some, Option.bind_some, if_pos i24]
  have e7 : ms W 96 (cf (ov (cnt (rmvS S p).2 t) (pg S.2 p)) (W 96)) 7 p = nI (pg S.2 p).2.1 := by rw [ms_ne (by omega)]; exact s2'
  have e7' : ms W 96 (cf (ov (cnt (rmvS S p).2 t) ((pg S.2 p).1, (pg S.2 p).2.1, (pg S.2 p).2.2)) (W 96)) 7 p = nI (pg S.2 p).2.1 := e7
  rw [e7', if_pos (ibt (by omega) (by omega)), ncl (by omega), ms_eq, nv_eq hp ht]
  have e8 : cf (ov (cnt (rmvS S p).2 t) ((pg S.2 p).1, (pg S.2 p).2.1, (pg S.2 p).2.2)) (W 96) (pg S.2 p).2.1 = nI (ov (cnt (rmvS S p).2 t) (pg S.2 p) (pg S.2 p).2.1) := if_pos (by omega)
  rw [e8]
theorem countAt_no {V : Mem} {n : Nat} {x y : Int32} (h4 : V 35 4 = nI n) (h : ¬ (0 ≤ y ∧ y ≤ nI n)) : f_X6_countAt x y V = some (-1000000, V) := by
  unfold f_X6_countAt
  rw [isBetween_eq, h4, Option.bind_some, if_pos ((b01z _).mpr h)]
theorem sub_neg' {a b : Nat} (h : a < b) (hb : b < 2147483648) : ¬ (0 : Int32) ≤ nI a - nI b := by
  intro q
  rw [Int32.le_iff_toInt_le] at q
  have e : (nI a - nI b).toInt = (a : Int) - b := by
    rw [Int32.toInt_sub, nI_toInt (by omega), nI_toInt (by omega)]
    exact Int.bmod_eq_of_le (by omega) (by omega)
  rw [e] at q
  have z : (0 : Int32).toInt = 0 := by decide
  rw [z] at q
  omega
theorem near_x {V0 : Mem} {S : Sh} {p : Nat} {v : Int32} (hok : okS S) (hp : p < S.2.length) (hv : 0 ≤ v) : ∀ (d m far : Nat) (V : Mem), far + d = S.2.length → d < m → XT V0 V S (rmvS S p) → (∀ t, t < S.2.length → gq S p v t → far ≤ ds p t) → ∃ x V', f_X6_nearest_59 m (nI p) v (nI far) V = some (x, V') ∧ XT V0 V' S (rmvS S p) ∧ RS S p v S.2.length x := by
  have h24 := hok.2.2.1
  have hl : (rmvS S p).2.length = S.2.length - 1 := len_rmv hp
  have vn : ¬ (-1000000 : Int32) = v := fun e => absurd (e ▸ hv) (by decide)
  intro d
  induction d with
  | zero =>
    intro m far V hf hm hx hg
    obtain ⟨m, rfl⟩ : ∃ n', m = n' + 1 := ⟨m - 1, by omega⟩
    rw [f_X6_nearest_59, hx.1.2.2.1.1, if_pos (by rw [nle (by omega) (by omega)]; omega)]
    refine ⟨_, V, rfl, hx, Or.inl ⟨rfl, fun t ht q => ?_⟩⟩
    have := hg t ht q
    unfold ds at this
    split at this <;> omega
  | succ d ih =>
    intro m far V hf hm hx hg
    obtain ⟨m, rfl⟩ : ∃ n', m = n' + 1 := ⟨m - 1, by omega⟩
    have e1 : nI far + 1 = nI (far + 1) := nI_1 far
    rw [f_X6_nearest_59, hx.1.2.2.1.1, if_neg (by rw [nle (by omega) (by omega)]; omega), e1, nad]
    have low : ∃ V1 y, f_X6_countAt (nI p) (nI p - nI far) V = some (y, V1) ∧ XT V0 V1 S (rmvS S p) ∧ ((far ≤ p ∧ y = nI (nv S p (p - far))) ∨ (p < far ∧ y = -1000000)) := by
      by_cases c : far ≤ p
      · rw [nsb c]
        obtain ⟨V1, a1, a2⟩ := countAt_x hok hp (t := p - far) (by omega) hx
        exact ⟨V1, _, a1, a2, Or.inl ⟨c, rfl⟩⟩
      · exact ⟨V, _, countAt_no hx.2.1.1 (fun q => sub_neg' (show p < far by omega) (by omega) q.1), hx, Or.inr ⟨by omega, rfl⟩⟩
    obtain ⟨V1, y, a1, a2, a3⟩ := low
    rw [a1, Option.bind_some]
    by_cases c1 : y = v
    · rcases a3 with ⟨b1, b2⟩ | ⟨b1, b2⟩
      · rw [if_pos c1, nsb b1]
        refine ⟨_, V1, rfl, a2, Or.inr ⟨p - far, by omega, rfl, by rw [← c1, b2]; rfl, fun t' ht' q => ?_⟩⟩
        have := hg t' ht' q
        unfold ds at this ⊢
        split at this <;> split <;> omega
      · exact absurd (b2 ▸ c1) vn
    · rw [if_neg c1]
      dsimp only
      have high : ∃ V2 y, f_X6_countAt (nI p) (nI (p + far)) V1 = some (y, V2) ∧ XT V0 V2 S (rmvS S p) ∧ ((p + far < S.2.length ∧ y = nI (nv S p (p + far))) ∨ (S.2.length ≤ p + far ∧ y = -1000000)) := by
        by_cases c : p + far < S.2.length
        · obtain ⟨V2, a1, a2⟩ := countAt_x hok hp (t := p + far) c a2
          exact ⟨V2, _, a1, a2, Or.inl ⟨c, rfl⟩⟩
        · exact ⟨V1, _, countAt_no a2.2.1.1 (fun q => by have := q.2; rw [nle (by omega) (by omega)] at this; omega), a2, Or.inr ⟨by omega, rfl⟩⟩
      obtain ⟨V2, w, d1, d2, d3⟩ := high
      have nolow : ∀ t, t < S.2.length → gq S p v t → t = p - far → far ≤ p → False := by
        intro t ht q e1 e2
        rcases a3 with ⟨b1, b2⟩ | ⟨b1, b2⟩
        · apply c1
          rw [b2, ← e1]
          exact q
        · omega
      rw [d1, Option.bind_some]
      by_cases c2 : w = v
      · rcases d3 with ⟨b1, b2⟩ | ⟨b1, b2⟩
        · rw [if_pos c2]
          refine ⟨_, V2, rfl, d2, Or.inr ⟨p + far, b1, rfl, by rw [← c2, b2]; rfl, fun t' ht' q => ?_⟩⟩
          have g1 := hg t' ht' q
          have g2 := nolow t' ht' q
          by_cases e : far ≤ p ∧ t' = p - far
          · exact absurd (g2 e.2 e.1) (fun x => x)
          · unfold ds at g1 ⊢
            split at g1 <;> split <;> omega
        · exact absurd (b2 ▸ c2) vn
      · rw [if_neg c2]
        refine ih m (far + 1) V2 (by omega) (by omega) d2 (fun t ht q => ?_)
        have g1 := hg t ht q
        have g2 := nolow t ht q
        have g3 : ¬ t = p + far := by
          intro e
          rcases d3 with ⟨b1, b2⟩ | ⟨b1, b2⟩
          · apply c2
            rw [b2, ← e]
            exact q
          · omega
        by_cases e : far ≤ p ∧ t = p - far
        · exact absurd (g2 e.2 e.1) (fun x => x)
        · unfold ds at g1 ⊢
          split at g1 <;> split <;> omega
theorem far_m {a b : Nat} {M : Mem} (ha : a < 2147483648) (hb : b < 2147483648) : f_X7_farOf (nI a) (nI b) M = some (nI (ds b a), M) := by
  unfold f_X7_farOf ds
  by_cases c : a < b
  · rw [if_neg (by rw [nle hb ha]; omega), if_pos c, nsb (by omega)]
  · rw [if_pos (by rw [nle hb ha]; omega), if_neg c, nsb (by omega)]
theorem near_m {U : Mem} {S : Sh} {p : Nat} {v : Int32} (hok : okS S) (hp : p < S.2.length) (hlb : (pg S.2 p).1 ≤ 3) : ∀ (d m k : Nat) (x : Int32) (M : Mem), k + d = S.2.length → d < m → MV U M S → RS S p v k x → ∃ x' M', f_X7_nearest_34 m (nI p) v x (nI k) M = some (x', M') ∧ MV U M' S ∧ RS S p v S.2.length x' := by
  have h24 := hok.2.2.1
  intro d
  induction d with
  | zero =>
    intro m k x M hk hm hM hR
    obtain ⟨m, rfl⟩ : ∃ n', m = n' + 1 := ⟨m - 1, by omega⟩
    have e0 : M 4 ((0 : Int32)).toNatClampNeg = nI S.2.length := hM.2.2.2.1
    rw [f_X7_nearest_34, if_pos ib076, e0, if_pos (by rw [nle (by omega) (by omega)]; omega)]
    exact ⟨_, M, rfl, hM, by rw [← show k = S.2.length by omega]; exact hR⟩
  | succ d ih =>
    intro m k x M hk hm hM hR
    obtain ⟨m, rfl⟩ : ∃ n', m = n' + 1 := ⟨m - 1, by omega⟩
    have e0 : M 4 ((0 : Int32)).toNatClampNeg = nI S.2.length := hM.2.2.2.1
    have e1 : nI k + 1 = nI (k + 1) := nI_1 k
    have hk2 : k < S.2.length := by omega
    have hl := mt_lay h24 hM
    obtain ⟨g, t1, t2⟩ := moveTo_m (U := cp M 4 6 0 0 76) (r := 6) hl.2 hok hp hk2
    have hokT := ok_mv hok hp hk2
    have hlen := len_mv hp hk2
    have hm1 := mt_ms hl t2
    have hm2 : MT U (mk (ms (cp M 4 6 0 0 76) 6 g) (mvS S p k).2 (mvS S p k).2.length) S (mvS S p k) := mt_mk hm1
    have ow := own_m (r := 6) (by omega) hokT hm1.2 (k := k) (by omega)
    rw [f_X7_nearest_34, if_pos ib076, e0, if_neg (by rw [nle (by omega) (by omega)]; omega), lbl_m hok hM.2.2.2 hp, Option.bind_some, if_neg (fun q => ((b01z _).mp q) hlb)]
    dsimp only
    rw [layThen_m, Option.bind_some, t1, Option.bind_some, countAll_eq (by omega) hm1.2 hokT, Option.bind_some]
    generalize hMM : mk (ms (cp M 4 6 0 0 76) 6 g) (mvS S p k).2 (mvS S p k).2.length = MM at *
    unfold f_X7_nearest_103 f_X7_nearest_130
    rw [ow, Option.bind_some, e1]
    dsimp only
    have keep : ¬ (gq S p v k ∧ (x = -1000000 ∨ ∃ t, t < k ∧ x = nI t ∧ ds p k < ds p t)) → RS S p v (k + 1) x := by
      intro hno
      rcases hR with ⟨r1, r2⟩ | ⟨t, w1, w2, t3, t4⟩
      · refine Or.inl ⟨r1, fun t ht q => ?_⟩
        by_cases c : t = k
        · subst c
          exact hno ⟨q, Or.inl r1⟩
        · exact r2 t (by omega) q
      · refine Or.inr ⟨t, by omega, w2, t3, fun t' ht' q => ?_⟩
        by_cases c : t' = k
        · subst c
          have : ¬ ds p t' < ds p t := fun e => hno ⟨q, Or.inr ⟨t, w1, w2, e⟩⟩
          omega
        · exact t4 t' (by omega) q
    have swap : gq S p v k → (x = -1000000 ∨ ∃ t, t < k ∧ x = nI t ∧ ds p k < ds p t) → RS S p v (k + 1) (nI k) := by
      intro hq hne
      refine Or.inr ⟨k, by omega, rfl, hq, fun t' ht' q => ?_⟩
      by_cases c : t' = k
      · subst c; omega
      · rcases hR with ⟨r1, r2⟩ | ⟨t, t1, t2, t3, t4⟩
        · exact absurd q (r2 t' (by omega))
        · rcases hne with e | ⟨s, s1, s2, s3⟩
          · have := t2.symm.trans e
            exact absurd this (fun z => absurd (z ▸ nI_pos' (show t < 2147483648 by omega)) (by decide))
          · have e : s = t := by
              have := s2.symm.trans t2
              rw [neq (by omega) (by omega)] at this
              exact this
            subst e
            have := t4 t' (by omega) q
            omega
    by_cases c : x = -1000000
    · rw [if_pos c]
      by_cases b : nI (nv S p k) = v
      · have b' : nI (own (mvS S p k) k) = v := b
        rw [if_pos b', if_neg (by decide)]
        exact ih m (k + 1) (nI k) MM (by omega) (by omega) hm2.1 (swap b (Or.inl c))
      · have b' : ¬ nI (own (mvS S p k) k) = v := b
        rw [if_neg b']
        exact ih m (k + 1) x MM (by omega) (by omega) hm2.1 (keep (fun q => b q.1))
    · rw [if_neg c]
      obtain ⟨t, s1, rfl, s3, s4⟩ : ∃ t, t < k ∧ x = nI t ∧ gq S p v t ∧ ∀ t', t' < k → gq S p v t' → ds p t < ds p t' ∨ (ds p t = ds p t' ∧ t ≤ t') := by
        rcases hR with ⟨r1, r2⟩ | r
        · exact absurd r1 c
        · exact r
      have d1 : ds p t < 2147483648 := by unfold ds; split <;> omega
      have d2 : ds p k < 2147483648 := by unfold ds; split <;> omega
      rw [far_m (by omega) (by omega), Option.bind_some]
      dsimp only
      rw [far_m (by omega) (by omega), Option.bind_some]
      dsimp only
      by_cases f : nI (ds p t) ≤ nI (ds p k)
      · rw [if_pos f, ow, Option.bind_some, if_pos (show (0 : Int32) = 0 from rfl)]
        dsimp only
        have hk3 := keep (fun q => by
          rcases q.2 with e | ⟨s, s1', s2', s3'⟩
          · exact c e
          · have e : s = t := by
              have := s2'
              rw [neq (by omega) (by omega)] at this
              exact this.symm
            subst e
            rw [nle d1 d2] at f
            omega)
        by_cases b : nI (own (mvS S p k) k) = v
        · rw [if_pos b]
          exact ih m (k + 1) _ MM (by omega) (by omega) hm2.1 hk3
        · rw [if_neg b]
          exact ih m (k + 1) _ MM (by omega) (by omega) hm2.1 hk3
      · rw [if_neg f, ow, Option.bind_some, if_neg (show ¬ (1 : Int32) = 0 by decide)]
        dsimp only
        have f' : ds p k < ds p t := by
          rw [nle d1 d2] at f
          omega
        by_cases b : nI (nv S p k) = v
        · have b' : nI (own (mvS S p k) k) = v := b
          rw [if_pos b']
          exact ih m (k + 1) (nI k) MM (by omega) (by omega) hm2.1 (swap b (Or.inr ⟨t, s1, rfl, f'⟩))
        · have b' : ¬ nI (own (mvS S p k) k) = v := b
          rw [if_neg b']
          exact ih m (k + 1) _ MM (by omega) (by omega) hm2.1 (keep (fun q => b q.1))
theorem s_nearest : S_nearest Inv := by
  intro a v V U h
  obtain ⟨S, A, hSS⟩ := h.2.2.2.2.1
  obtain ⟨hok, hX, hC, hM, -⟩ := id hSS
  have h24 := hok.2.2.1
  have hM' : ShM (st U 0 0 0 4) S := by rw [st_id (by omega)]; exact hM
  have e0 : st U 0 0 0 4 ((0 : Int32)).toNatClampNeg = nI S.2.length := hM'.1
  unfold f_X6_nearest f_X7_nearest
  rcases dich a S.2.length with ⟨p, hp, rfl⟩ | hk
  · rw [has_yes hX.1 (by omega) hp, par_yes hM'.1 (by omega) hp, Option.bind_some, Option.bind_some, if_neg i10, if_neg i10]
    dsimp only
    rw [isBetween_eq, show (0 : Int64) = (0 : Int32).toInt64 from rfl, show (99 : Int64) = (99 : Int32).toInt64 from rfl, inw, Option.bind_some, Option.bind_some]
    by_cases h1 : 0 ≤ v ∧ v ≤ 99
    · rw [if_neg (fun q => ((b01z _).mp q) h1), if_neg (fun q => ((b01z _).mp q) h1)]
      dsimp only
      rw [lbl_x hok hX hp, Option.bind_some]
      by_cases hlb : (pg S.2 p).1 ≤ 3
      · rw [if_neg (fun q => ((b01z _).mp q) hlb)]
        dsimp only
        have hlen : (rmvS S p).2.length = S.2.length - 1 := len_rmv hp
        obtain ⟨V1, x1, x2⟩ := xt_new hok (xq_rf h hSS)
        obtain ⟨m, hm⟩ := x2.2.2
        obtain ⟨V2, y1, y2, y3, y4⟩ := rmv_x hok x2.2.1 hm hp
        obtain ⟨x, V3, z1, z2, z3⟩ := near_x (V0 := V) (v := v) hok hp h1.1 S.2.length 4096 0 V2 (by omega) (by omega) (xt_fx hok x2 y4 y2 y3) (fun _ _ _ => Nat.zero_le _)
        have z1' : f_X6_nearest_59 4096 (nI p) v 0 V2 = _ := z1
        obtain ⟨x', M3, u1, u2, u3⟩ := near_m (U := U) (v := v) hok hp hlb S.2.length 4096 0 (-1000000) _ (by omega) (by omega) (mv_t hM) (Or.inl ⟨rfl, fun t ht => absurd ht (by omega)⟩)
        have u1' : f_X7_nearest_34 4096 (nI p) v (-1000000) 0 (st U 0 0 0) = _ := u1
        rw [x1, Option.bind_some, y1, Option.bind_some, z1', u1']
        exact ⟨_, _, rfl, rfl, RS_one z3 u3, inv_xv h hSS z2.1 u2.1 u2.2.1 u2.2.2.1⟩
      · rw [if_pos ((b01z _).mpr hlb)]
        have un : ∀ n, f_X7_nearest_34 (n + 1) (nI p) v (-1000000) 0 (st U 0 0 0) = some (-1000000, st U 0 0 0) := by
          intro n
          rw [f_X7_nearest_34, if_pos ib076, e0, lbl_m hok hM' hp, Option.bind_some, if_pos ((b01z _).mpr hlb)]
          by_cases c : nI S.2.length ≤ 0
          · rw [if_pos c]
          · rw [if_neg c]
        rw [un 4095]
        exact ⟨_, _, rfl, rfl, rfl, inv_t h⟩
    · rw [if_pos ((b01z _).mpr h1), if_pos ((b01z _).mpr h1)]
      exact ⟨_, _, rfl, rfl, rfl, inv_t h⟩
  · rw [has_no hX.1 (by omega) hk, par_no hM'.1 (by omega) hk, Option.bind_some, Option.bind_some, if_pos rfl, if_pos rfl]
    exact ⟨_, _, rfl, rfl, rfl, inv_t h⟩

/-! sets, as, span. -/
theorem none_x {V : Mem} {z n : Nat} (hV : V z 4 = nI n) (hn : n < 2147483648) : f_X3_isNone z V = some (if n = 0 then 1 else 0, V) := by
  unfold f_X3_isNone
  rw [hV]
  by_cases h : n = 0
  · rw [if_pos (by rw [h]; rfl), if_pos h]
  · rw [if_neg (by rw [li, neq (by omega) (by omega)]; exact h), if_neg h]
theorem there_m {U : Mem} {n : Nat} (hU : U 4 0 = nI n) (hn : n < 2147483648) : f_X7_isThere U = some (if 0 < n then 1 else 0, U) := by
  unfold f_X7_isThere
  have e : U 4 ((0 : Int32)).toNatClampNeg = nI n := hU
  rw [if_pos (by decide), e]
  by_cases h : 0 < n
  · rw [if_neg (by rw [li, nle (by omega) (by omega)]; omega), if_pos h]
  · rw [if_pos (by rw [li, nle (by omega) (by omega)]; omega), if_neg h]
theorem or0 (x : Int32) : x ||| 0 = x := by
  have h : (x ||| 0).toBitVec = x.toBitVec := by simp
  exact Int32.toBitVec_inj.mp h
def stF (S : Sh) (v : Int32) : Nat → Nat → Int32 → Int32
  | 0, _, acc => acc
  | d + 1, k, acc => stF S v d (k + 1) (if (pg S.2 k).1 ≤ 3 ∧ nI (own S k) = v then acc ||| ((1 : Int32) <<< (nI k &&& 31)) else acc)
theorem sets_x {S : Sh} (hok : okS S) (v : Int32) : ∀ (d n k : Nat) (acc : Int32) (V : Mem), k + d = S.2.length → d < n → ShX V 4 S → CI V 4 S.2 → ∃ V', f_X6_sets_30 n v acc (nI k) V = some (stF S v d k acc, V') ∧ FS 4 V V' ∧ CI V' 4 S.2 := by
  have h24 := hok.2.2.1
  intro d
  induction d with
  | zero =>
    intro n k acc V hk hn hS hC
    obtain ⟨n, rfl⟩ : ∃ n', n = n' + 1 := ⟨n - 1, by omega⟩
    refine ⟨V, ?_, FS.rf, hC⟩
    unfold f_X6_sets_30
    rw [hS.1, if_pos (by rw [nle (by omega) (by omega)]; omega)]
    rfl
  | succ d ih =>
    intro n k acc V hk hn hS hC
    obtain ⟨n, rfl⟩ : ∃ n', n = n' + 1 := ⟨n - 1, by omega⟩
    have e1 : nI k + 1 = nI (k + 1) := nI_1 k
    unfold f_X6_sets_30 f_X6_sets_70
    rw [hS.1, if_neg (by rw [nle (by omega) (by omega)]; omega), lbl_x hok hS (show k < _ by omega), Option.bind_some, e1]
    by_cases hl : (pg S.2 k).1 ≤ 3
    · rw [if_neg (fun q => ((b01z _).mp q) hl)]
      obtain ⟨V1, o1, o2, o3⟩ := own_x (Or.inl rfl) hok hS hC (show k < _ by omega)
      dsimp only
      rw [o1, Option.bind_some]
      by_cases hv : nI (own S k) = v
      · rw [if_pos hv]
        obtain ⟨V', i1, i2, i3⟩ := ih n (k + 1) (acc ||| ((1 : Int32) <<< (nI k &&& 31))) V1 (by omega) (by omega) (hS.fs o2) o3
        refine ⟨V', ?_, o2.tr i2, i3⟩
        dsimp only
        rw [i1]
        rw [stF, if_pos ⟨hl, hv⟩]
      · rw [if_neg hv]
        obtain ⟨V', i1, i2, i3⟩ := ih n (k + 1) acc V1 (by omega) (by omega) (hS.fs o2) o3
        refine ⟨V', ?_, o2.tr i2, i3⟩
        dsimp only
        rw [i1]
        rw [stF, if_neg (fun q => hv q.2)]
    · rw [if_pos ((b01z _).mpr hl)]
      obtain ⟨V', i1, i2, i3⟩ := ih n (k + 1) acc V (by omega) (by omega) hS hC
      refine ⟨V', ?_, i2, i3⟩
      dsimp only
      rw [i1]
      rw [stF, if_neg (fun q => hl q.1)]
theorem sets_m {U : Mem} {S : Sh} (hok : okS S) (hS : ShM (U 4) S) (v : Int32) : ∀ (d n k : Nat) (acc : Int32), k + d = S.2.length → d < n → f_X7_sets_42 n v acc (nI k) (mk U S.2 S.2.length) = some (stF S v d k acc, mk U S.2 S.2.length) := by
  have h24 := hok.2.2.1
  have hS' : ShM (mk U S.2 S.2.length 4) S := by rw [mk_id (by omega)]; exact hS
  have e0 : mk U S.2 S.2.length 4 ((0 : Int32)).toNatClampNeg = nI S.2.length := hS'.1
  intro d
  induction d with
  | zero =>
    intro n k acc hk hn
    obtain ⟨n, rfl⟩ : ∃ n', n = n' + 1 := ⟨n - 1, by omega⟩
    unfold f_X7_sets_42
    rw [if_pos (by decide), e0, if_pos (by rw [nle (by omega) (by omega)]; omega)]
    rfl
  | succ d ih =>
    intro n k acc hk hn
    obtain ⟨n, rfl⟩ : ∃ n', n = n' + 1 := ⟨n - 1, by omega⟩
    have e1 : nI k + 1 = nI (k + 1) := nI_1 k
    unfold f_X7_sets_42 f_X7_sets_84
    rw [if_pos (by decide), e0, if_neg (by rw [nle (by omega) (by omega)]; omega), lbl_m hok hS' (show k < _ by omega), Option.bind_some, e1, or0]
    by_cases hl : (pg S.2 k).1 ≤ 3
    · rw [if_neg (fun q => ((b01z _).mp q) hl)]
      dsimp only
      rw [own_m (by omega) hok hS (show k < _ by omega), Option.bind_some]
      by_cases hv : nI (own S k) = v
      · rw [if_pos hv]
        dsimp only
        rw [ih n (k + 1) _ (by omega) (by omega)]
        rw [stF, if_pos ⟨hl, hv⟩]
      · rw [if_neg hv]
        dsimp only
        rw [ih n (k + 1) _ (by omega) (by omega)]
        rw [stF, if_neg (fun q => hv q.2)]
    · rw [if_pos ((b01z _).mpr hl)]
      dsimp only
      rw [ih n (k + 1) _ (by omega) (by omega)]
      rw [stF, if_neg (fun q => hl q.1)]
theorem s_sets : S_sets Inv := by
  intro a V U h
  obtain ⟨S, A, hSS⟩ := h.2.2.2.2.1
  obtain ⟨hok, hX, hC, hM, -⟩ := id hSS
  have h24 := hok.2.2.1
  have hM' : ShM (st U 0 0 0 4) S := by rw [st_id (by omega)]; exact hM
  unfold f_X6_sets f_X7_sets
  rw [none_x hX.1 (by omega), there_m hM'.1 (by omega), Option.bind_some, Option.bind_some]
  by_cases hn : S.2.length = 0
  · rw [if_neg (fun q => ((b01z _).mp q) hn), if_pos ((b01z _).mpr (by omega))]
    exact ⟨_, _, rfl, rfl, rfl, inv_t h⟩
  · rw [if_pos ((b01z _).mpr hn), if_neg (fun q => ((b01z _).mp q) (by omega))]
    dsimp only
    rw [isBetween_eq, show (0 : Int64) = (0 : Int32).toInt64 from rfl, show (99 : Int64) = (99 : Int32).toInt64 from rfl, inw, Option.bind_some, Option.bind_some]
    by_cases h1 : 0 ≤ a ∧ a ≤ 99
    · rw [if_neg (fun q => ((b01z _).mp q) h1), if_neg (fun q => ((b01z _).mp q) h1)]
      dsimp only
      obtain ⟨V', i1, i2, i3⟩ := sets_x hok a S.2.length 4096 0 0 V (by omega) (by omega) hX hC
      have i1' : f_X6_sets_30 4096 a 0 0 V = _ := i1
      have j1 := sets_m (U := st U 0 0 0) hok hM' a S.2.length 4096 0 0 (by omega) (by omega)
      have j1' : f_X7_sets_42 4096 a 0 0 (mk (st U 0 0 0) S.2 S.2.length) = _ := j1
      rw [i1', countAll_eq (by omega) hM' hok, Option.bind_some, j1']
      refine ⟨_, _, rfl, rfl, rfl, inv_fs h hSS i2 i3 (qm_t.tr qm_mk) ?_ ?_⟩
      · dsimp only
        rw [mk_id (by omega), st_ne2 (by omega)]
      · dsimp only
        rw [mk_id (by omega), st_ne2 (by omega)]
    · rw [if_pos ((b01z _).mpr h1), if_pos ((b01z _).mpr h1)]
      exact ⟨_, _, rfl, rfl, rfl, inv_t h⟩
/-! as -/
theorem as_st (n : Nat) {x1 x2 : Int32} {k s : Nat} (hk : k ≤ 5) (hs : s < 6) (hne : ¬ nI k = x2) (V : Mem) : f_X6_as_36 (n + 1) x1 x2 (nI k) (nI s) V = f_X6_as_36 n x1 x2 (tba 0 k) (nI (s + 1)) V := by
  rw [f_X6_as_36, if_neg (by rw [li, nle (by omega) (by omega)]; omega), if_neg hne, if_neg (nm1 (by omega)), if_pos (ibt (by omega) (by omega)), ncl (by omega)]
  have e : nI s + 1 = nI (s + 1) := nI_1 s
  rw [e]
theorem as_eq (n : Nat) {x1 : Int32} {k s : Nat} (hs : s < 6) (V : Mem) : f_X6_as_36 (n + 1) x1 (nI k) (nI k) (nI s) V = some (x1, st V 0 12 0) := by
  rw [f_X6_as_36, if_neg (by rw [li, nle (by omega) (by omega)]; omega), if_pos rfl, f_X6_as_65, if_pos rfl]
  rfl
theorem as_no (n : Nat) {x1 : Int32} {c s : Nat} (hs : s < 6) (hc : c ≤ 5) (V : Mem) : f_X6_as_36 (n + 1) x1 (nI c) (-1) (nI s) V = some (-1000010 - 3, st V 0 12 3) := by
  have h : ¬ (-1 : Int32) = nI c := fun q => nm1 (by omega) q.symm
  rw [f_X6_as_36, if_neg (by rw [li, nle (by omega) (by omega)]; omega), if_neg h, if_pos rfl, f_X6_as_65, if_neg h]
  rfl
theorem as_0 (n : Nat) {x1 : Int32} {c s : Nat} (hs : s < 5) (hc : c ≤ 5) (V : Mem) : f_X6_as_36 (n + 2) x1 (nI c) (nI 0) (nI s) V = if c = 0 then some (x1, st V 0 12 0) else some (-1000010 - 3, st V 0 12 3) := by
  by_cases h : c = 0
  · subst h
    rw [if_pos rfl, as_eq (n + 1) (by omega)]
  · rw [if_neg h, as_st (n + 1) (by omega) (by omega) (by rw [neq (by omega) (by omega)]; omega)]
    exact as_no n (by omega) hc V
theorem as_14 (n : Nat) {x1 : Int32} {c k s : Nat} (hk : k = 1 ∨ k = 4) (hs : s < 4) (hc : c ≤ 5) (V : Mem) : f_X6_as_36 (n + 3) x1 (nI c) (nI k) (nI s) V = if c = k ∨ c = 0 then some (x1, st V 0 12 0) else some (-1000010 - 3, st V 0 12 3) := by
  by_cases h : k = c
  · subst h
    rw [if_pos (Or.inl rfl), as_eq (n + 2) (by omega)]
  · rw [as_st (n + 2) (by omega) (by omega) (by rw [neq (by omega) (by omega)]; exact h)]
    have e : tba 0 k = nI 0 := by rcases hk with rfl | rfl <;> rfl
    rw [e, as_0 n (by omega) hc]
    by_cases h0 : c = 0
    · rw [if_pos h0, if_pos (Or.inr h0)]
    · rw [if_neg h0, if_neg (by omega)]
theorem as_n (n : Nat) {x1 : Int32} {c k : Nat} (hc : c ≤ 5) (hk : 1 ≤ k ∧ k ≤ 5) (V : Mem) : f_X6_as_36 (n + 4) x1 (nI c) (nI k) (nI 0) V = if c = 0 ∨ k = c ∨ (c = 1 ∧ k < 4) ∨ (c = 4 ∧ k = 5) then some (x1, st V 0 12 0) else some (-1000010 - 3, st V 0 12 3) := by
  by_cases h : k = c
  · subst h
    rw [as_eq (n + 3) (by omega), if_pos (Or.inr (Or.inl rfl))]
  · have key : ∀ j, (j = 1 ∨ j = 4) → tba 0 k = nI j → (∀ q : Prop, True) → ((c = j ∨ c = 0) ↔ (c = 0 ∨ k = c ∨ (c = 1 ∧ k < 4) ∨ (c = 4 ∧ k = 5))) → f_X6_as_36 (n + 4) x1 (nI c) (nI k) (nI 0) V = if c = 0 ∨ k = c ∨ (c = 1 ∧ k < 4) ∨ (c = 4 ∧ k = 5) then some (x1, st V 0 12 0) else some (-1000010 - 3, st V 0 12 3) := by
      intro j hj ht _ hiff
      rw [as_st (n + 3) (by omega) (by omega) (by rw [neq (by omega) (by omega)]; exact h), ht, as_14 n hj (by omega) hc]
      by_cases hq : c = j ∨ c = 0
      · rw [if_pos hq, if_pos (hiff.mp hq)]
      · rw [if_neg hq, if_neg (fun q => hq (hiff.mpr q))]
    rcases (show (k = 1 ∨ k = 4) ∨ k = 2 ∨ k = 3 ∨ k = 5 by omega) with h1 | rfl | rfl | rfl
    · rw [as_14 (n + 1) h1 (by omega) hc]
      by_cases hq : c = k ∨ c = 0
      · rw [if_pos hq, if_pos (by omega)]
      · rw [if_neg hq, if_neg (by omega)]
    · exact key 1 (Or.inl rfl) rfl (fun _ => trivial) (by omega)
    · exact key 1 (Or.inl rfl) rfl (fun _ => trivial) (by omega)
    · exact key 4 (Or.inr rfl) rfl (fun _ => trivial) (by omega)
theorem as_x {x1 : Int32} {c k : Nat} (hc : c ≤ 5) (hk : 1 ≤ k ∧ k ≤ 5) (V : Mem) : f_X6_as_36 4096 x1 (nI c) (nI k) 0 V = if c = 0 ∨ k = c ∨ (c = 1 ∧ k < 4) ∨ (c = 4 ∧ k = 5) then some (x1, st V 0 12 0) else some (-1000010 - 3, st V 0 12 3) := as_n 4092 hc hk V
theorem isOf_m {c k : Nat} (hc : c ≤ 5) (hk : 1 ≤ k ∧ k ≤ 5) (V : Mem) : f_X7_isOf (nI k) (nI c) V = some (if c = 0 ∨ k = c ∨ (c = 1 ∧ k < 4) ∨ (c = 4 ∧ k = 5) then 1 else 0, V) := by
  rcases (show k = 1 ∨ k = 2 ∨ k = 3 ∨ k = 4 ∨ k = 5 by omega) with rfl | rfl | rfl | rfl | rfl <;>
  rcases (show c = 0 ∨ c = 1 ∨ c = 2 ∨ c = 3 ∨ c = 4 ∨ c = 5 by omega) with rfl | rfl | rfl | rfl | rfl | rfl <;> rfl
theorem s_as : S_as Inv := by
  intro a b V U h
  obtain ⟨S, A, hSS⟩ := h.2.2.2.2.1
  obtain ⟨hok, hX, hC, hM, -⟩ := id hSS
  have h24 := hok.2.2.1
  have hM' : ShM (st U 0 0 0 4) S := by rw [st_id (by omega)]; exact hM
  unfold f_X6_as f_X7_as
  rcases dich a S.2.length with ⟨k, hk, rfl⟩ | hk
  · rw [has_yes hX.1 (by omega) hk, par_yes hM'.1 (by omega) hk, Option.bind_some, Option.bind_some, if_neg i10, if_neg i10]
    dsimp only
    rw [isBetween_eq, show (0 : Int64) = (0 : Int32).toInt64 from rfl, show (5 : Int64) = (5 : Int32).toInt64 from rfl, inw, Option.bind_some, Option.bind_some]
    by_cases h1 : 0 ≤ b ∧ b ≤ 5
    · rw [if_neg (fun q => ((b01z _).mp q) h1), if_neg (fun q => ((b01z _).mp q) h1)]
      dsimp only
      obtain ⟨c, c1, rfl⟩ := btw (n := 5) (by omega) h1
      have hp := pg_ok hok.2.2.2 hk
      have hM2 : ShM (st (st U 0 0 0) 0 1 0 4) S := by rw [st_id (by omega)]; exact hM'
      have e0 : f_X7_of 4 (nI k) 0 (st (st U 0 0 0) 0 1 0) = _ := of_eq (w := 0) hM2 hk h24 (by omega)
      have e1 : st (st U 0 0 0) 0 1 0 4 (4 + 3 * k + 0) = nI (pg S.2 k).1 := (hM2.2.2 k hk).1
      have e2 : V 6 k = nI (pg S.2 k).1 := (hX.2.2 k hk).1
      rw [if_pos (ibt (by omega) (by omega)), ncl (by omega), e2, as_x c1 ⟨hp.1, hp.2.1⟩, e0, Option.bind_some, e1]
      dsimp only
      rw [isOf_m c1 ⟨hp.1, hp.2.1⟩, Option.bind_some]
      by_cases hc : c = 0 ∨ (pg S.2 k).1 = c ∨ (c = 1 ∧ (pg S.2 k).1 < 4) ∨ (c = 4 ∧ (pg S.2 k).1 = 5)
      · rw [if_pos hc, if_neg (fun q => ((b01z _).mp q) hc)]
        refine ⟨_, _, rfl, rfl, rfl, inv_f h (fun x q => ?_) (fun j q1 q2 => ?_) ?_⟩
        · dsimp only
          rw [st_id q, st_id q]
        · dsimp only
          rw [st_ne2 q2, st_ne2 q1]
        · dsimp only
          rw [st_same]
      · rw [if_neg hc, if_pos ((b01z _).mpr hc)]
        exact ⟨_, _, rfl, rfl, rfl, inv_fnd h⟩
    · rw [if_pos ((b01z _).mpr h1), if_pos ((b01z _).mpr h1)]
      exact ⟨_, _, rfl, rfl, rfl, inv_t h⟩
  · rw [has_no hX.1 (by omega) hk, par_no hM'.1 (by omega) hk, Option.bind_some, Option.bind_some, if_pos rfl, if_pos rfl]
    exact ⟨_, _, rfl, rfl, rfl, inv_t h⟩

/-! The reference's rows of sheets: laid, put in, taken out, copied. -/
theorem of_any {U : Mem} {r k w : Nat} (hk : k < 24) (hw : w < 3) : f_X7_of r (nI k) (nI w) U = some (U r (4 + 3 * k + w), U) := by
  unfold f_X7_of
  have e : (4 : Int32) + (3 : Int32) * nI k + nI w = nI (4 + 3 * k + w) := by rw [li, li, pk_mul, nad, nad]
  rw [e, if_pos (ibt (by omega) (by omega)), ncl (by omega)]
def l3 (f : Nat → Int32) (k : Nat) (a b c : Int32) : Nat → Int32 := fun y => if y = 4 + 3 * k then a else if y = 4 + 3 * k + 1 then b else if y = 4 + 3 * k + 2 then c else f y
theorem layAt_eq {U : Mem} {r k : Nat} {a b c : Int32} (hk : k < 24) : f_X7_layAt r (nI k) a b c U = some (ms U r (l3 (U r) k a b c)) := by
  unfold f_X7_layAt
  have e0 : (4 : Int32) + (3 : Int32) * nI k + 0 = nI (4 + 3 * k) := by rw [add0, li, li, pk_mul, nad]
  have e1 : (4 : Int32) + (3 : Int32) * nI k + 1 = nI (4 + 3 * k + 1) := by rw [li, li, pk_mul, nad]; exact nI_1 _
  have e2 : (4 : Int32) + (3 : Int32) * nI k + 2 = nI (4 + 3 * k + 2) := by rw [li, li, pk_mul, nad]; exact nI_add _ 2
  rw [e0, e1, e2, if_pos (ibt (by omega) (by omega)), if_pos (ibt (by omega) (by omega)), if_pos (ibt (by omega) (by omega)), ncl (by omega), ncl (by omega), ncl (by omega)]
  congr 1
  apply mem_ext
  intro x y
  by_cases h : x = r
  · subst h
    rw [ms_same, st_at, st_at, st_at]
    unfold l3
    by_cases y0 : y = 4 + 3 * k
    · rw [if_neg (by omega), if_neg (by omega), if_pos ⟨rfl, y0⟩, if_pos y0]
    · by_cases y1 : y = 4 + 3 * k + 1
      · rw [if_neg (by omega), if_pos ⟨rfl, y1⟩, if_neg y0, if_pos y1]
      · by_cases y2 : y = 4 + 3 * k + 2
        · rw [if_pos ⟨rfl, y2⟩, if_neg y0, if_neg y1, if_pos y2]
        · rw [if_neg (fun q => y2 q.2), if_neg (fun q => y1 q.2), if_neg (fun q => y0 q.2), if_neg y0, if_neg y1, if_neg y2]
  · rw [ms_ne h, st_ne1 h, st_ne1 h, st_ne1 h]
def gp (f : Nat → Int32) (n k : Nat) : Nat → Int32 := fun y => if 4 + 3 * (k + 1) ≤ y ∧ y < 4 + 3 * (n + 1) then f (y - 3) else f y
theorem put_loop {U : Mem} {r n p : Nat} {a b c : Int32} (hn : n < 24) : ∀ (d m k : Nat), p + d = k → k ≤ n → d < m → f_X7_putAt_5 m r (nI p) a b c (nI k) (ms U r (gp (U r) n k)) = some (st (ms U r (l3 (gp (U r) n p) p a b c)) r 0 (l3 (gp (U r) n p) p a b c 0 + 1)) := by
  intro d
  induction d with
  | zero =>
    intro m k hk hkn hm
    obtain ⟨m, rfl⟩ : ∃ n', m = n' + 1 := ⟨m - 1, by omega⟩
    have e : k = p := by omega
    subst e
    rw [f_X7_putAt_5, if_pos (by rw [nle (by omega) (by omega)]; omega), layAt_eq (by omega), Option.bind_some, if_pos (by decide), if_pos (by decide), ms_eq, ms_ms]
    show some (st _ r 0 (ms U r _ r 0 + 1)) = _
    rw [ms_same]
  | succ d ih =>
    intro m k hk hkn hm
    obtain ⟨m, rfl⟩ : ∃ n', m = n' + 1 := ⟨m - 1, by omega⟩
    have e1 : nI k - 1 = nI (k - 1) := nsb (b := 1) (by omega)
    have e2 : nI k + (-1) = nI (k - 1) := by
      obtain ⟨j, rfl⟩ : ∃ j, k = j + 1 := ⟨k - 1, by omega⟩
      rw [pk_m1]
      rfl
    have o0 : ∀ W : Mem, f_X7_of r (nI (k - 1)) 0 W = some (W r (4 + 3 * (k - 1) + 0), W) := fun W => of_any (w := 0) (by omega) (by omega)
    have o1 : ∀ W : Mem, f_X7_of r (nI (k - 1)) 1 W = some (W r (4 + 3 * (k - 1) + 1), W) := fun W => of_any (w := 1) (by omega) (by omega)
    have o2 : ∀ W : Mem, f_X7_of r (nI (k - 1)) 2 W = some (W r (4 + 3 * (k - 1) + 2), W) := fun W => of_any (w := 2) (by omega) (by omega)
    rw [f_X7_putAt_5, if_neg (by rw [nle (by omega) (by omega)]; omega), e1, o0, Option.bind_some]
    dsimp only
    rw [o1, Option.bind_some]
    dsimp only
    rw [o2, Option.bind_some]
    dsimp only
    rw [layAt_eq (by omega), Option.bind_some, e2, ms_eq, ms_ms]
    have hg : l3 (gp (U r) n k) k (gp (U r) n k (4 + 3 * (k - 1) + 0)) (gp (U r) n k (4 + 3 * (k - 1) + 1)) (gp (U r) n k (4 + 3 * (k - 1) + 2)) = gp (U r) n (k - 1) := by
      funext y
      unfold l3 gp
      by_cases y0 : y = 4 + 3 * k
      · simp (disch := omega) only [if_pos, if_neg]
        congr 1
        omega
      · by_cases y1 : y = 4 + 3 * k + 1
        · simp (disch := omega) only [if_pos, if_neg]
          congr 1
          omega
        · by_cases y2 : y = 4 + 3 * k + 2
          · simp (disch := omega) only [if_pos, if_neg]
            congr 1
            omega
          · by_cases c1 : 4 + 3 * (k + 1) ≤ y ∧ y < 4 + 3 * (n + 1)
            · simp (disch := omega) only [if_pos, if_neg]
            · simp (disch := omega) only [if_pos, if_neg]
    rw [hg]
    exact ih m (k - 1) (by omega) (by omega) (by omega)
theorem putAt_m {U : Mem} {r p : Nat} {S : Sh} {q : Pg} (hS : ShM (U r) S) (hl : S.2.length < 24) (hp : p ≤ S.2.length) : ∃ g, f_X7_putAt r (nI p) (nI q.1) (nI q.2.1) (nI q.2.2) U = some (ms U r g) ∧ ShM g (insS S p q) := by
  unfold f_X7_putAt
  have e0 : U r ((0 : Int32)).toNatClampNeg = nI S.2.length := hS.1
  have hz : ms U r (gp (U r) S.2.length S.2.length) = U := by
    apply mem_ext
    intro x y
    by_cases h : x = r
    · subst h
      rw [ms_same]
      unfold gp
      rw [if_neg (by omega)]
    · rw [ms_ne h]
  have e := put_loop (U := U) (r := r) (n := S.2.length) (p := p) (a := nI q.1) (b := nI q.2.1) (c := nI q.2.2) hl (S.2.length - p) 4096 S.2.length (by omega) (by omega) (by omega)
  rw [hz] at e
  rw [if_pos (by decide), e0, e]
  have z0 : l3 (gp (U r) S.2.length p) p (nI q.1) (nI q.2.1) (nI q.2.2) 0 = nI S.2.length := by
    unfold l3 gp
    simp (disch := omega) only [if_pos, if_neg]
    exact hS.1
  rw [z0, nI_1]
  refine ⟨upd (l3 (gp (U r) S.2.length p) p (nI q.1) (nI q.2.1) (nI q.2.2)) 0 (nI (S.2.length + 1)), ?_, ?_, ?_, ?_⟩
  · unfold st
    rw [ms_eq, ms_ms]
  · unfold insS upd
    rw [len_ins hp]
    rfl
  · intro l hl2
    unfold upd l3 gp
    simp (disch := omega) only [if_pos, if_neg]
    exact hS.2.1 l hl2
  · intro k hk
    unfold insS at hk ⊢
    rw [len_ins hp] at hk
    dsimp only
    rw [pg_ins hp]
    unfold upd l3 gp
    by_cases e1 : k < p
    · simp (disch := omega) only [if_pos, if_neg]
      exact hS.2.2 k (by omega)
    · by_cases e2 : k = p
      · simp (disch := omega) only [if_pos, if_neg]
        exact ⟨trivial, trivial, trivial⟩
      · simp (disch := omega) only [if_pos, if_neg]
        have h := hS.2.2 (k - 1) (by omega)
        rw [show 4 + 3 * k - 3 = 4 + 3 * (k - 1) by omega, show 4 + 3 * k + 1 - 3 = 4 + 3 * (k - 1) + 1 by omega, show 4 + 3 * k + 2 - 3 = 4 + 3 * (k - 1) + 2 by omega]
        exact h
def gt (f : Nat → Int32) (n p k : Nat) : Nat → Int32 := fun y => if y = 0 then nI (n - 1) else if 4 + 3 * p ≤ y ∧ y < 4 + 3 * k then f (y + 3) else f y
theorem take_loop {U : Mem} {r n p : Nat} (hn : n ≤ 24) (hp : p < n) : ∀ (d m k : Nat), k + d = n - 1 → p ≤ k → d < m → f_X7_takeOut_9 m r (nI k) (ms U r (gt (U r) n p k)) = some (ms U r (l3 (gt (U r) n p (n - 1)) (n - 1) 0 0 0)) := by
  have z0 : ∀ k, ms U r (gt (U r) n p k) r ((0 : Int32)).toNatClampNeg = nI (n - 1) := fun k => by
    show ms U r (gt (U r) n p k) r 0 = _
    rw [ms_same]
    unfold gt
    rw [if_pos rfl]
  intro d
  induction d with
  | zero =>
    intro m k hk hkp hm
    obtain ⟨m, rfl⟩ : ∃ n', m = n' + 1 := ⟨m - 1, by omega⟩
    have e : k = n - 1 := by omega
    subst e
    rw [f_X7_takeOut_9, if_pos (by decide), z0, if_pos (by rw [nle (by omega) (by omega)]; omega), if_pos (by decide), layAt_eq (by omega), Option.bind_some, ms_eq, ms_ms]
  | succ d ih =>
    intro m k hk hkp hm
    obtain ⟨m, rfl⟩ : ∃ n', m = n' + 1 := ⟨m - 1, by omega⟩
    have e1 : nI k + 1 = nI (k + 1) := nI_1 k
    have o0 : ∀ W : Mem, f_X7_of r (nI (k + 1)) 0 W = some (W r (4 + 3 * (k + 1) + 0), W) := fun W => of_any (w := 0) (by omega) (by omega)
    have o1 : ∀ W : Mem, f_X7_of r (nI (k + 1)) 1 W = some (W r (4 + 3 * (k + 1) + 1), W) := fun W => of_any (w := 1) (by omega) (by omega)
    have o2 : ∀ W : Mem, f_X7_of r (nI (k + 1)) 2 W = some (W r (4 + 3 * (k + 1) + 2), W) := fun W => of_any (w := 2) (by omega) (by omega)
    rw [f_X7_takeOut_9, if_pos (by decide), z0, if_neg (by rw [nle (by omega) (by omega)]; omega), e1, o0, Option.bind_some]
    dsimp only
    rw [o1, Option.bind_some]
    dsimp only
    rw [o2, Option.bind_some]
    dsimp only
    rw [layAt_eq (by omega), Option.bind_some, ms_eq, ms_ms]
    have hg : l3 (gt (U r) n p k) k (gt (U r) n p k (4 + 3 * (k + 1) + 0)) (gt (U r) n p k (4 + 3 * (k + 1) + 1)) (gt (U r) n p k (4 + 3 * (k + 1) + 2)) = gt (U r) n p (k + 1) := by
      funext y
      unfold l3 gt
      by_cases y0 : y = 4 + 3 * k
      · simp (disch := omega) only [if_pos, if_neg]
        congr 1
        omega
      · by_cases y1 : y = 4 + 3 * k + 1
        · simp (disch := omega) only [if_pos, if_neg]
          congr 1
          omega
        · by_cases y2 : y = 4 + 3 * k + 2
          · simp (disch := omega) only [if_pos, if_neg]
            congr 1
            omega
          · by_cases yz : y = 0
            · simp (disch := omega) only [if_pos, if_neg]
            · by_cases c1 : 4 + 3 * p ≤ y ∧ y < 4 + 3 * k
              · simp (disch := omega) only [if_pos, if_neg]
              · simp (disch := omega) only [if_pos, if_neg]
    rw [hg]
    exact ih m (k + 1) (by omega) (by omega) (by omega)
theorem takeOut_m {U : Mem} {r p : Nat} {S : Sh} (hS : ShM (U r) S) (h24 : S.2.length ≤ 24) (hp : p < S.2.length) : ∃ g, f_X7_takeOut r (nI p) U = some (ms U r g) ∧ ShM g (rmvS S p) := by
  unfold f_X7_takeOut
  have e0 : U r ((0 : Int32)).toNatClampNeg = nI S.2.length := hS.1
  have e1 : nI S.2.length - 1 = nI (S.2.length - 1) := nsb (b := 1) (by omega)
  have hz : st U r ((0 : Int32)).toNatClampNeg (nI (S.2.length - 1)) = ms U r (gt (U r) S.2.length p p) := by
    show st U r 0 _ = _
    unfold st
    congr 1
    funext y
    unfold upd gt
    by_cases h : y = 0
    · rw [if_pos h, if_pos h]
    · rw [if_neg h, if_neg h, if_neg (by omega)]
  rw [if_pos (by decide), if_pos (by decide), e0, e1, hz, take_loop h24 hp (S.2.length - 1 - p) 4096 p (by omega) (by omega) (by omega)]
  refine ⟨_, rfl, ?_, ?_, ?_⟩
  · unfold rmvS l3 gt
    simp (disch := omega) only [if_pos, if_neg, if_true]
    rw [len_rmv hp]
  · intro l hl2
    unfold l3 gt
    simp (disch := omega) only [if_pos, if_neg]
    exact hS.2.1 l hl2
  · intro k hk
    unfold rmvS at hk ⊢
    rw [len_rmv hp] at hk
    dsimp only
    rw [pg_rmv hp]
    have n0 : ∀ w, w < 3 → l3 (gt (U r) S.2.length p (S.2.length - 1)) (S.2.length - 1) 0 0 0 (4 + 3 * k + w) = if p ≤ k then U r (4 + 3 * (k + 1) + w) else U r (4 + 3 * k + w) := by
      intro w hw
      unfold l3 gt
      by_cases c : p ≤ k
      · simp (disch := omega) only [if_pos, if_neg]
        congr 1
        omega
      · simp (disch := omega) only [if_pos, if_neg]
    have n1 := n0 0 (by omega)
    have n2 := n0 1 (by omega)
    have n3 := n0 2 (by omega)
    rw [Nat.add_zero] at n1
    rw [n1, n2, n3]
    by_cases e : k < p
    · rw [if_neg (show ¬ p ≤ k by omega), if_neg (show ¬ p ≤ k by omega), if_neg (show ¬ p ≤ k by omega), if_pos e]
      exact hS.2.2 k (by omega)
    · rw [if_pos (show p ≤ k by omega), if_pos (show p ≤ k by omega), if_pos (show p ≤ k by omega), if_neg e]
      exact hS.2.2 (k + 1) (by omega)

/-! The reference's counters: source and amount in one number, as the class has them. -/
def sf (C : Nat → Nat) (f : Nat → Int32) : Nat → Int32 := fun x => if x < 6 then nI (C x / 1000) - 1 else f x
def af (C : Nat → Nat) (f : Nat → Int32) : Nat → Int32 := fun x => if x < 6 then nI (C x % 1000) else f x
def mc (U : Mem) (C : Nat → Nat) : Mem := ms (ms U 9 (sf C (U 9))) 10 (af C (U 10))
theorem mc_id {U : Mem} {C : Nat → Nat} {a : Nat} (h1 : a ≠ 9) (h2 : a ≠ 10) : mc U C a = U a := by
  unfold mc
  rw [ms_id h2, ms_id h1]
theorem mc_9 {U : Mem} {C : Nat → Nat} : mc U C 9 = sf C (U 9) := by
  unfold mc
  rw [ms_id (by decide), ms_eq]
theorem mc_10 {U : Mem} {C : Nat → Nat} : mc U C 10 = af C (U 10) := by
  unfold mc
  rw [ms_eq]
theorem mem_ext {V W : Mem} (h : ∀ a b, V a b = W a b) : V = W := funext fun a => funext fun b => h a b
theorem mc_ext {U V : Mem} {C : Nat → Nat} (h0 : ∀ a, a ≠ 9 → a ≠ 10 → V a = U a) (h9 : ∀ x, V 9 x = sf C (U 9) x) (h10 : ∀ x, V 10 x = af C (U 10) x) : V = mc U C := by
  funext a
  by_cases e9 : a = 9
  · subst e9; rw [mc_9]; funext x; exact h9 x
  · by_cases e10 : a = 10
    · subst e10; rw [mc_10]; funext x; exact h10 x
    · rw [mc_id e9 e10]; exact h0 a e9 e10
def uC (C : Nat → Nat) (k v : Nat) : Nat → Nat := fun x => if x = k then v else C x
theorem become_mc {U : Mem} {C : Nat → Nat} {x s a : Nat} (hx : x < 6) (ha : a < 1000) : f_X7_become (nI x) (nI s - 1) (nI a) (mc U C) = some (mc U (uC C x (1000 * s + a))) := by
  unfold f_X7_become
  rw [if_pos (ibt hx (by omega)), if_pos (ibt hx (by omega)), ncl (by omega)]
  congr 1
  refine mc_ext (fun b h9 h10 => ?_) (fun y => ?_) (fun y => ?_)
  · rw [st_id h10, st_id h9, mc_id h9 h10]
  · rw [st_id (by decide), st_at, mc_9]
    unfold sf uC
    by_cases e : y = x
    · subst e
      rw [if_pos ⟨rfl, rfl⟩, if_pos hx, if_pos rfl]
      congr 2
      omega
    · rw [if_neg (fun q => e q.2), if_neg e]
  · rw [st_at, st_id (by decide), mc_10]
    unfold af uC
    by_cases e : y = x
    · subst e
      rw [if_pos ⟨rfl, rfl⟩, if_pos hx, if_pos rfl]
      congr 1
      omega
    · rw [if_neg (fun q => e q.2), if_neg e]
theorem become_z {U : Mem} {C : Nat → Nat} {x a : Nat} (hx : x < 6) (ha : a < 1000) : f_X7_become (nI x) (-1) (nI a) (mc U C) = some (mc U (uC C x a)) := by
  have h := become_mc (U := U) (C := C) (x := x) (s := 0) (a := a) hx ha
  rw [show nI 0 - 1 = (-1 : Int32) from by decide] at h
  rw [h]
  congr 3
  omega
theorem p152 {U : Mem} : ∀ (d n k : Nat) (C : Nat → Nat), k + d = 3 → d < n → f_X7_passes_152 n (nI k) (mc U C) = some (mc U (fun x => if k ≤ x ∧ x < 3 then 0 else C x)) := by
  intro d
  induction d with
  | zero =>
    intro n k C hk hn
    obtain ⟨n, rfl⟩ : ∃ n', n = n' + 1 := ⟨n - 1, by omega⟩
    have e : k = 3 := by omega
    subst e
    unfold f_X7_passes_152
    rw [if_pos (by rw [li, nle (by omega) (by omega)]; omega)]
    congr 2
    funext x
    rw [if_neg (by omega)]
  | succ d ih =>
    intro n k C hk hn
    obtain ⟨n, rfl⟩ : ∃ n', n = n' + 1 := ⟨n - 1, by omega⟩
    unfold f_X7_passes_152
    have e1 : nI k + 1 = nI (k + 1) := nI_1 k
    have e2 := become_z (U := U) (C := C) (x := k) (a := 0) (by omega) (by omega)
    rw [if_neg (by rw [li, nle (by omega) (by omega)]; omega), show (0 : Int32) = nI 0 from rfl, e2, Option.bind_some, e1, ih n (k + 1) _ (by omega) (by omega)]
    congr 2
    funext x
    unfold uC
    by_cases hx : x = k
    · subst hx
      rw [if_neg (by omega), if_pos rfl, if_pos (by omega)]
    · by_cases h1 : k ≤ x ∧ x < 3
      · rw [if_pos h1, if_pos (by omega)]
      · rw [if_neg h1, if_neg (by omega), if_neg hx]
theorem p146 {U : Mem} {C : Nat → Nat} {l : Nat} (hl : l < 3) : f_X7_passes_146 (nI l) (mc U C) = some (mc U (fun x => if l < x ∧ x < 3 then 0 else C x)) := by
  unfold f_X7_passes_146
  have e1 : nI l + 1 = nI (l + 1) := nI_1 l
  rw [e1, p152 (2 - l) 4096 (l + 1) C (by omega) (by omega)]
  rfl
theorem inc_mc {U : Mem} {C : Nat → Nat} {l : Nat} (hl : l < 6) (hC : C l % 1000 < 999) : st (mc U C) 10 l (mc U C 10 l + 1) = mc U (uC C l (C l + 1)) := by
  refine mc_ext (fun b h9 h10 => ?_) (fun y => ?_) (fun y => ?_)
  · rw [st_id h10, mc_id h9 h10]
  · rw [st_id (by decide), mc_9]
    unfold sf uC
    by_cases e : y = l
    · subst e
      rw [if_pos hl, if_pos hl, if_pos rfl]
      congr 2
      omega
    · rw [if_neg e]
  · rw [st_at, mc_10]
    unfold af uC
    by_cases e : y = l
    · subst e
      rw [if_pos ⟨rfl, rfl⟩, if_pos hl, if_pos rfl, if_pos hl]
      have : nI (C y % 1000) + 1 = nI (C y % 1000 + 1) := nI_1 _
      rw [this]
      congr 1
      omega
    · rw [if_neg (fun q => e q.2), if_neg e]
theorem of_eq {U : Mem} {r k w : Nat} {S : Sh} (hS : ShM (U r) S) (hk : k < S.2.length) (h24 : S.2.length ≤ 24) (hw : w < 3) : f_X7_of r (nI k) (nI w) U = some (U r (4 + 3 * k + w), U) := by
  unfold f_X7_of
  have e : (4 : Int32) + (3 : Int32) * nI k + nI w = nI (4 + 3 * k + w) := by rw [li, li, pk_mul, nad, nad]
  rw [e, if_pos (ibt (by omega) (by omega)), ncl (by omega)]
theorem p109 {U : Mem} {r k : Nat} {S : Sh} {C : Nat → Nat} (hr : r ≠ 9 ∧ r ≠ 10) (hS : ShM (U r) S) (hok : okS S) (hk : k < S.2.length) (hC : ∀ x, x < 6 → C x % 1000 < 999) {kd : Nat} (h1 : 1 ≤ kd) (h5 : kd ≤ 5) (hs : kd = 2 → (pg S.2 k).1 = 2) :
    f_X7_passes_109 r (nI k) (nI kd) (nI (pg S.2 k).2.1) (mc U C) = some (mc U (if kd = 2 then sA C (pg S.2 k).2.1 (pg S.2 k).2.2 else if 4 ≤ kd then C else sA C (pg S.2 k).2.1 (C (pg S.2 k).2.1 + 1))) := by
  have hp := pg_ok hok.2.2.2 hk
  unfold f_X7_passes_109
  have hl : (pg S.2 k).2.1 < 3 := by have := hp.2.2.1; omega
  have hst : (pg S.2 k).2.2 ≤ 20 := hp.2.2.2
  generalize hL : (pg S.2 k).2.1 = L at hl
  by_cases h4 : 4 ≤ kd
  · rw [if_pos (by rw [li, nle (by omega) (by omega)]; omega), if_neg (by omega), if_pos h4]
  · rw [if_neg (by rw [li, nle (by omega) (by omega)]; omega)]
    by_cases h2 : kd = 2
    · have hS2 : ShM (mc U C r) S := by rw [mc_id hr.1 hr.2]; exact hS
      have e := of_eq (w := 2) hS2 hk hok.2.2.1 (by omega)
      have e' : f_X7_of r (nI k) 2 (mc U C) = _ := e
      rw [if_pos (by rw [li, neq (by omega) (by omega)]; exact h2), e', Option.bind_some]
      dsimp only
      rw [(hS2.2.2 k hk).2.2, become_z (by omega) (by omega), Option.bind_some, p146 hl, if_pos h2]
      congr 2
      funext x
      unfold uC sA
      by_cases hx : x = L
      · rw [if_neg (by omega), if_pos hx, if_pos hx]
      · rw [if_neg hx, if_neg hx]
    · have e6 : ib (nI L) 6 = true := ibt (by omega) (by omega)
      rw [if_neg (by rw [li, neq (by omega) (by omega)]; exact h2), if_pos e6, if_pos e6, ncl (by omega), inc_mc (by omega) (hC L (by omega)), p146 hl, if_neg h2, if_neg h4]
      congr 2
      funext x
      unfold uC sA
      by_cases hx : x = L
      · rw [if_neg (by omega), if_pos hx, if_pos hx]
      · rw [if_neg hx, if_neg hx]

/-! Pure rows: numbers and places of Mem. -/
theorem st_at (V : Mem) (i k : Nat) (x : Int32) (a b : Nat) : st V i k x a b = if a = i ∧ b = k then x else V a b := by
  unfold st ms upd
  by_cases h : a = i
  · subst h
    by_cases h2 : b = k
    · simp [h2]
    · simp [h2]
  · simp [h]
theorem st_id {V : Mem} {i k : Nat} {x : Int32} {a : Nat} (h : a ≠ i) : st V i k x a = V a := by
  unfold st ms
  rw [if_neg h]
theorem ms_at (V : Mem) (i : Nat) (f : Nat → Int32) (a b : Nat) : ms V i f a b = if a = i then f b else V a b := by
  unfold ms
  by_cases h : a = i
  · rw [if_pos h, if_pos h]
  · rw [if_neg h, if_neg h]
theorem ms_id {V : Mem} {i a : Nat} {f : Nat → Int32} (h : a ≠ i) : ms V i f a = V a := if_neg h
theorem ms_eq {V : Mem} {i : Nat} {f : Nat → Int32} : ms V i f i = f := if_pos rfl
theorem cp_at (V : Mem) (i0 i sp dp n a b : Nat) : cp V i0 i sp dp n a b = if a = i ∧ dp ≤ b ∧ b < dp + n then V i0 (sp + (b - dp)) else V a b := by
  unfold cp ms va_cpy
  by_cases h : a = i
  · subst h
    by_cases h2 : dp ≤ b ∧ b < dp + n
    · simp [h2]
    · rw [if_pos rfl, if_neg h2, if_neg (fun q => h2 q.2)]
  · rw [if_neg h, if_neg (fun q => h q.1)]
theorem cp_id {V : Mem} {i0 i sp dp n a : Nat} (h : a ≠ i) : cp V i0 i sp dp n a = V a := by
  unfold cp ms
  rw [if_neg h]
theorem st_same {V : Mem} {i k : Nat} {x : Int32} : st V i k x i k = x := by rw [st_at, if_pos ⟨rfl, rfl⟩]
theorem st_ne1 {V : Mem} {i k a b : Nat} {x : Int32} (h : a ≠ i) : st V i k x a b = V a b := by rw [st_id h]
theorem st_ne2 {V : Mem} {i k a b : Nat} {x : Int32} (h : b ≠ k) : st V i k x a b = V a b := by rw [st_at, if_neg (fun q => h q.2)]
theorem ms_same {V : Mem} {i b : Nat} {f : Nat → Int32} : ms V i f i b = f b := by rw [ms_eq]
theorem ms_ne {V : Mem} {i a b : Nat} {f : Nat → Int32} (h : a ≠ i) : ms V i f a b = V a b := by rw [ms_id h]
theorem cp_in {V : Mem} {i0 i sp dp n b : Nat} (h : dp ≤ b ∧ b < dp + n) : cp V i0 i sp dp n i b = V i0 (sp + (b - dp)) := by rw [cp_at, if_pos ⟨rfl, h⟩]
theorem cp_out {V : Mem} {i0 i sp dp n b : Nat} (h : b < dp ∨ dp + n ≤ b) : cp V i0 i sp dp n i b = V i b := by rw [cp_at, if_neg (by omega)]
theorem cp_ne {V : Mem} {i0 i sp dp n a b : Nat} (h : a ≠ i) : cp V i0 i sp dp n a b = V a b := by rw [cp_id h]
theorem li (n : Nat) : (OfNat.ofNat n : Int32) = nI (OfNat.ofNat n) := rfl
theorem nle {a b : Nat} (ha : a < 2147483648) (hb : b < 2147483648) : (nI a ≤ nI b) ↔ a ≤ b := nI_leI ha hb
theorem nlt {a b : Nat} (ha : a < 2147483648) (hb : b < 2147483648) : (nI a < nI b) ↔ a < b := nI_ltI ha hb
theorem neq {a b : Nat} (ha : a < 2147483648) (hb : b < 2147483648) : (nI a = nI b) ↔ a = b := nI_eq ha hb
theorem ncl {a : Nat} (ha : a < 2147483648) : (nI a).toNatClampNeg = a := nI_clamp ha
theorem nad (a b : Nat) : nI a + nI b = nI (a + b) := nI_add a b
theorem nsb {a b : Nat} (h : b ≤ a) : nI a - nI b = nI (a - b) := pk_sub h
theorem ibn {j n : Nat} (hj : j < 2147483648) : ib (nI j) n = decide (j < n) := by
  unfold ib
  rw [ncl hj]
  have h0 : ¬ nI j < 0 := nI_pos hj
  by_cases h : n ≤ j
  · simp [h0, h, Nat.not_lt.mpr h]
  · simp [h0, h, Nat.lt_of_not_le h]
theorem ibt {j n : Nat} (h : j < n) (hn : n < 2147483648) : ib (nI j) n = true := by
  rw [ibn (by omega)]
  exact decide_eq_true h
theorem ib_of {x : Int32} {n : Nat} (h : ib x n = true) (hn : n < 2147483648) : ∃ j, j < n ∧ x = nI j := by
  have h1 : vp_in x n := by
    unfold ib at h
    intro q
    rcases q with q | q
    · simp [q] at h
    · simp [q] at h
  exact vp_in_of h1 hn
theorem cokn {a b c n0 n1 : Nat} (ha : a < 2147483648) (hb : b < 2147483648) (hc : c < 2147483648) (h1 : a + c ≤ n0) (h2 : b + c ≤ n1) : cok (nI a) (nI b) (nI c) n0 n1 = true := by
  unfold cok
  rw [ncl ha, ncl hb, ncl hc]
  have e1 : ¬ nI a < 0 := nI_pos ha
  have e2 : ¬ nI b < 0 := nI_pos hb
  have e3 : ¬ nI c < 0 := nI_pos hc
  simp [e1, e2, e3, h1, h2]
/-- an Int32 is one of 0 .. n - 1, or none of them -/
theorem rng (x : Int32) (n : Nat) (hn : n < 2147483648) : (∃ j, j < n ∧ x = nI j) ∨ (x < 0 ∨ nI n ≤ x) := by
  rcases pk_ix x (n := n) hn with h | h | h
  · exact Or.inr (Or.inl h)
  · exact Or.inr (Or.inr h)
  · exact Or.inl h
/-! counters -/
def sA (C : Nat → Nat) (l v : Nat) : Nat → Nat := fun x => if x = l then v else if l < x ∧ x < 3 then 0 else C x
def rsm (C : Nat → Nat) : Nat → Nat := fun x => if x < 3 then C (x + 3) else C x
def kpt (C : Nat → Nat) : Nat → Nat := fun x => if x < 3 then C x else if x < 6 then C (x - 3) else C x
def hdc (C : Nat → Nat) : Nat → Nat := fun x => if x < 3 then 0 else if x < 6 then C (x - 3) else C x
def ov (C : Nat → Nat) (p : Nat × Nat × Nat) : Nat → Nat :=
  if p.1 = 1 then sA C p.2.1 (C p.2.1 + 1)
  else if p.1 = 2 then sA C p.2.1 p.2.2
  else if p.1 = 3 then sA (rsm C) p.2.1 (rsm C p.2.1 + 1)
  else if p.1 = 5 then hdc C
  else C
/-- the counters' row holds C (six of them), the rest as f has it -/
def cf (C : Nat → Nat) (f : Nat → Int32) : Nat → Int32 := fun x => if x < 6 then nI (C x) else f x
theorem sA_loop (r : Nat) : ∀ (d n : Nat) (V : Mem) (k : Nat), k + d = 3 → d < n → f_X1_standAt_8 n r (nI k) V = some (ms V r (fun x => if k ≤ x ∧ x < 3 then 0 else V r x)) := by
  intro d
  induction d with
  | zero =>
    intro n V k hk hn
    obtain ⟨n, rfl⟩ : ∃ n', n = n' + 1 := ⟨n - 1, by omega⟩
    have hk3 : k = 3 := by omega
    subst hk3
    unfold f_X1_standAt_8
    rw [if_pos (by rw [li, nle (by omega) (by omega)]; omega)]
    congr 1
    funext a
    by_cases h : a = r
    · subst h
      rw [ms_eq]
      funext x
      rw [if_neg (by omega)]
    · rw [ms_id h]
  | succ d ih =>
    intro n V k hk hn
    obtain ⟨n, rfl⟩ : ∃ n', n = n' + 1 := ⟨n - 1, by omega⟩
    unfold f_X1_standAt_8
    rw [if_neg (by rw [li, nle (by omega) (by omega)]; omega), if_pos (ibt (by omega) (by omega)), li, nad, ih n _ (k + 1) (by omega) (by omega), ncl (by omega)]
    congr 1
    funext a
    by_cases h : a = r
    · subst h
      rw [ms_eq, ms_eq]
      funext x
      rw [st_at]
      by_cases hx : x = k
      · subst hx
        rw [if_neg (by omega), if_pos ⟨rfl, rfl⟩, if_pos (by omega)]
      · by_cases h1 : k ≤ x ∧ x < 3
        · rw [if_pos h1, if_pos (by omega)]
        · rw [if_neg h1, if_neg (by omega), if_neg (by omega)]
    · rw [ms_id h, ms_id h, st_id h]
theorem standAt_eq (r l v : Nat) (V : Mem) (hl : l < 3) : f_X1_standAt r (nI l) (nI v) V = some (ms V r (fun x => if x = l then nI v else if l < x ∧ x < 3 then 0 else V r x)) := by
  unfold f_X1_standAt
  rw [if_pos (ibt (by omega) (by omega)), li, nad, sA_loop r (2 - l) _ _ (l + 1) (by omega) (by omega), ncl (by omega)]
  congr 1
  funext a
  by_cases h : a = r
  · subst h
    rw [ms_eq, ms_eq]
    funext x
    rw [st_at]
    by_cases hx : x = l
    · subst hx
      rw [if_neg (by omega), if_pos ⟨rfl, rfl⟩, if_pos rfl]
    · by_cases h1 : l < x ∧ x < 3
      · rw [if_pos (by omega), if_neg hx, if_pos h1]
      · rw [if_neg (by omega), if_neg (by omega), if_neg hx, if_neg h1]
  · rw [ms_id h, ms_id h, st_id h]
theorem standAt_cf {r l v : Nat} {V : Mem} {C : Nat → Nat} {f : Nat → Int32} (hl : l < 3) (hC : V r = cf C f) : f_X1_standAt r (nI l) (nI v) V = some (ms V r (cf (sA C l v) f)) := by
  rw [standAt_eq r l v V hl]
  congr 1
  congr 1
  funext x
  unfold cf sA
  rw [hC]
  unfold cf
  by_cases h6 : x < 6
  · rw [if_pos h6, if_pos h6]
    by_cases h1 : x = l
    · rw [if_pos h1, if_pos h1]
    · rw [if_neg h1, if_neg h1]
      by_cases h2 : l < x ∧ x < 3
      · rw [if_pos h2, if_pos h2]; rfl
      · rw [if_neg h2, if_neg h2]
  · rw [if_neg h6, if_neg (by omega), if_neg (by omega), if_neg h6]
theorem ms_ms {V : Mem} {i : Nat} {f g : Nat → Int32} : ms (ms V i f) i g = ms V i g := by
  funext a
  by_cases h : a = i
  · subst h; rw [ms_eq, ms_eq]
  · rw [ms_id h, ms_id h, ms_id h]
theorem cp_ms {V : Mem} {r sp dp n : Nat} : cp V r r sp dp n = ms V r (va_cpy (V r) (V r) sp dp n) := rfl
theorem over_eq {r : Nat} {V : Mem} {C : Nat → Nat} {f : Nat → Int32} {k l s : Nat} (hk : 1 ≤ k ∧ k ≤ 5) (hl : l < 3) (hs : s < 2147483648) (hC : V r = cf C f) : f_X1_over r (nI k) (nI l) (nI s) V = some (ms V r (cf (ov C (k, l, s)) f)) := by
  unfold f_X1_over
  have e3 : (cp V r r ((3 : Int32)).toNatClampNeg ((0 : Int32)).toNatClampNeg ((3 : Int32)).toNatClampNeg) = ms V r (cf (rsm C) f) := by
    show cp V r r 3 0 3 = _
    rw [cp_ms, hC]
    congr 1
    funext x
    unfold va_cpy cf rsm
    by_cases h : 0 ≤ x ∧ x < 0 + 3
    · rw [if_pos h, if_pos (by omega), if_pos (by omega), if_pos (by omega)]
      congr 2
      omega
    · rw [if_neg h, if_neg (show ¬ x < 3 by omega)]
  have e5 : (cp V r r ((0 : Int32)).toNatClampNeg ((3 : Int32)).toNatClampNeg ((3 : Int32)).toNatClampNeg) = ms V r (cf (kpt C) f) := by
    show cp V r r 0 3 3 = _
    rw [cp_ms, hC]
    congr 1
    funext x
    unfold va_cpy cf kpt
    by_cases h : 3 ≤ x ∧ x < 3 + 3
    · rw [if_pos h, if_pos (show 0 + (x - 3) < 6 by omega), if_pos (show x < 6 by omega), if_neg (by omega), if_pos (by omega)]
      congr 2
      omega
    · rw [if_neg h]
      by_cases h6 : x < 6
      · rw [if_pos h6, if_pos h6, if_pos (by omega)]
      · rw [if_neg h6, if_neg h6]
  have b6 : ib (nI l) 6 = true := ibt (by omega) (by omega)
  rcases (show k = 1 ∨ k = 2 ∨ k = 3 ∨ k = 4 ∨ k = 5 by omega) with rfl | rfl | rfl | rfl | rfl
  · rw [if_pos (show nI 1 = (1 : Int32) from rfl), if_pos b6, ncl (by omega), hC]
    have : cf C f l = nI (C l) := if_pos (by omega)
    rw [this, li, nad, standAt_cf hl hC]
    rfl
  · rw [if_neg (show ¬ nI 2 = (1 : Int32) by decide), if_pos (show nI 2 = (2 : Int32) from rfl), standAt_cf hl hC]
    rfl
  · rw [if_neg (show ¬ nI 3 = (1 : Int32) by decide), if_neg (show ¬ nI 3 = (2 : Int32) by decide), if_pos (show nI 3 = (3 : Int32) from rfl), if_pos (by decide), if_pos b6, e3, ncl (by omega), ms_eq]
    have : cf (rsm C) f l = nI (rsm C l) := if_pos (by omega)
    rw [this, li, nad, standAt_cf (C := rsm C) (f := f) hl ms_eq, ms_ms]
    rfl
  · rw [if_neg (show ¬ nI 4 = (1 : Int32) by decide), if_neg (show ¬ nI 4 = (2 : Int32) by decide), if_neg (show ¬ nI 4 = (3 : Int32) by decide), if_pos (show nI 4 = (4 : Int32) from rfl)]
    congr 1
    funext a
    by_cases h : a = r
    · subst h; rw [ms_eq, hC]; rfl
    · rw [ms_id h]
  · rw [if_neg (show ¬ nI 5 = (1 : Int32) by decide), if_neg (show ¬ nI 5 = (2 : Int32) by decide), if_neg (show ¬ nI 5 = (3 : Int32) by decide), if_neg (show ¬ nI 5 = (4 : Int32) by decide), if_pos (show nI 5 = (5 : Int32) from rfl), if_pos (by decide), e5]
    have h0 := standAt_cf (r := r) (l := 0) (v := 0) (V := ms V r (cf (kpt C) f)) (C := kpt C) (f := f) (by omega) ms_eq
    have h1 : f_X1_standAt r (0 : Int32) (0 : Int32) (ms V r (cf (kpt C) f)) = _ := h0
    rw [h1, ms_ms]
    show some _ = some _
    congr 2
    congr 1
    funext x
    unfold sA
    show _ = hdc C x
    unfold hdc kpt
    by_cases hx : x = 0
    · rw [if_pos hx, if_pos (by omega)]
    · rw [if_neg hx]
      by_cases h3 : x < 3
      · rw [if_pos ⟨by omega, h3⟩, if_pos h3]
      · rw [if_neg (by omega), if_neg h3, if_neg h3]

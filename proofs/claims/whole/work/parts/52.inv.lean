/-! What holds between the class's memory V and the reference's U, between calls. -/
def ShM (f : Nat → Int32) (S : Sh) : Prop := f 0 = nI S.2.length ∧ (∀ l, l < 3 → f (1 + l) = nI (S.1.getD l 0)) ∧ ∀ k, k < S.2.length → f (4 + 3 * k) = nI (pg S.2 k).1 ∧ f (4 + 3 * k + 1) = nI (pg S.2 k).2.1 ∧ f (4 + 3 * k + 2) = nI (pg S.2 k).2.2
/-- an act: what it was, place, other place (or style), and the paragraph that it took -/
abbrev Act : Type := Nat × Nat × Nat × Pg
def insS (S : Sh) (k : Nat) (p : Pg) : Sh := (S.1, S.2.take k ++ p :: S.2.drop k)
def rmvS (S : Sh) (k : Nat) : Sh := (S.1, S.2.take k ++ S.2.drop (k + 1))
def setS (S : Sh) (k : Nat) (p : Pg) : Sh := (S.1, S.2.set k p)
def styS (S : Sh) (l v : Nat) : Sh := (S.1.set l v, S.2)
def mvS (S : Sh) (k t : Nat) : Sh := insS (rmvS S k) t (pg S.2 k)
/-- the act is undone -/
def und (S : Sh) (a : Act) : Sh :=
  if a.1 = 0 then rmvS S a.2.1
  else if a.1 = 1 then insS S a.2.1 a.2.2.2
  else if a.1 = 2 then mvS S a.2.2.1 a.2.1
  else if a.1 = 3 then setS S a.2.1 a.2.2.2
  else styS S a.2.1 a.2.2.1
/-- it can be undone on S -/
def vA (S : Sh) (a : Act) : Prop :=
  if a.1 = 0 then a.2.1 < S.2.length ∧ 1 < S.2.length
  else if a.1 = 1 then a.2.1 ≤ S.2.length ∧ S.2.length < 24 ∧ okP a.2.2.2
  else if a.1 = 2 then a.2.2.1 < S.2.length ∧ a.2.1 < S.2.length
  else if a.1 = 3 then a.2.1 < S.2.length ∧ okP a.2.2.2
  else a.1 = 4 ∧ a.2.1 < 3 ∧ a.2.2.1 ≤ 3
/-- acts, the latest first: all can be undone, one behind the other, and what stands in the reference's row of sheets is what comes -/
def AW (U : Mem) : Sh → List Act → Prop
  | _, [] => True
  | S, a :: A => vA S a ∧ ShM (fun j => U 7 (76 * A.length + j)) (und S a) ∧ AW U (und S a) A
def actRow (V : Mem) (i : Nat) (a : Act) : Prop := V i 0 = nI a.1 ∧ V i 1 = nI a.2.1 ∧ V i 2 = nI a.2.2.1 ∧ V i 3 = nI a.2.2.2.1 ∧ V i 4 = nI a.2.2.2.2.1 ∧ V i 5 = nI a.2.2.2.2.2
/-- the ring of acts (the latest first in A) -/
def AV (V : Mem) (A : List Act) : Prop := A.length ≤ 24 ∧ V 67 2 = nI A.length ∧ ∃ o, o < 24 ∧ V 67 1 = nI o ∧ ∀ k, k < A.length → actRow V (69 + (o + (A.length - 1 - k)) % 24) (A.getD k (0, 0, 0, 0, 0, 0))
def RR (V U : Mem) : Prop := ∀ r, r < 8 → V (99 + 2 * r) 1 = U 1 r ∧ (U 1 r = -1 ∨ ∃ l n, l ≤ 2 ∧ n ≤ 40 ∧ U 1 r = nI l ∧ V (99 + 2 * r) 2 = nI n ∧ U 2 r = nI n ∧ ∀ j, j < n → V (99 + 2 * r + 1) j = U 3 (40 * r + j))
def SN (V U : Mem) : Prop := V 0 12 = U 0 1 ∧ V 0 13 = U 0 18
def TP (V U : Mem) : Prop := ∃ n, n ≤ 130 ∧ V 2 1 = nI n ∧ U 0 11 = nI n ∧ ∀ j, j < n → V 3 j = U 8 j ∧ ∃ b, b < 256 ∧ V 3 j = nI b
def TR (V U : Mem) : Prop := ∃ n, n ≤ 16 ∧ V 0 11 = nI n ∧ U 0 29 = nI n ∧ ∀ j, j < n → V 98 j = U 16 j
def SS (V U : Mem) (S : Sh) (A : List Act) : Prop := okS S ∧ ShX V 4 S ∧ CI V 4 S.2 ∧ ShM (U 4) S ∧ AV V A ∧ U 0 9 = nI A.length ∧ AW U S A
def IM (V U : Mem) : Prop := ∀ k, k < 2 → (V (115 + 31 * k) 4 = 0 ∧ U 14 k = 0) ∨ ∃ S, okS S ∧ 0 < S.2.length ∧ ShX V (115 + 31 * k) S ∧ ShM (fun j => U 15 (76 * k + j)) S ∧ U 14 k = 1
def Z0 (V : Mem) : Prop := ∀ x, x < 6 → V 41 x = 0
def Inv (V U : Mem) : Prop := RR V U ∧ SN V U ∧ TP V U ∧ TR V U ∧ (∃ S A, SS V U S A) ∧ IM V U ∧ Z0 V
theorem RR.cg {V U V' U' : Mem} (h : RR V U) (hV : ∀ a, 99 ≤ a → a < 115 → V' a = V a) (h1 : U' 1 = U 1) (h2 : U' 2 = U 2) (h3 : U' 3 = U 3) : RR V' U' := by
  intro r hr
  rw [hV (99 + 2 * r) (by omega) (by omega), hV (99 + 2 * r + 1) (by omega) (by omega), h1, h2, h3]
  exact h r hr
theorem SN.cg {V U V' U' : Mem} (h : SN V U) (a : V' 0 12 = V 0 12) (b : V' 0 13 = V 0 13) (c : U' 0 1 = U 0 1) (d : U' 0 18 = U 0 18) : SN V' U' := ⟨by rw [a, c]; exact h.1, by rw [b, d]; exact h.2⟩
theorem TP.cg {V U V' U' : Mem} (h : TP V U) (a : V' 2 1 = V 2 1) (b : V' 3 = V 3) (c : U' 0 11 = U 0 11) (d : U' 8 = U 8) : TP V' U' := by
  obtain ⟨n, h1, h2, h3, h4⟩ := h
  exact ⟨n, h1, by rw [a]; exact h2, by rw [c]; exact h3, by rw [b, d]; exact h4⟩
theorem TR.cg {V U V' U' : Mem} (h : TR V U) (a : V' 0 11 = V 0 11) (b : V' 98 = V 98) (c : U' 0 29 = U 0 29) (d : U' 16 = U 16) : TR V' U' := by
  obtain ⟨n, h1, h2, h3, h4⟩ := h
  exact ⟨n, h1, by rw [a]; exact h2, by rw [c]; exact h3, by rw [b, d]; exact h4⟩
theorem ShX.cg {V V' : Mem} {z : Nat} {S : Sh} (h : ShX V z S) (a : V' z 4 = V z 4) (b : ∀ k, 1 ≤ k → k ≤ 4 → V' (z + k) = V (z + k)) : ShX V' z S := by
  refine ⟨by rw [a]; exact h.1, ?_, ?_⟩
  · rw [b 1 (by omega) (by omega)]; exact h.2.1
  · rw [b 2 (by omega) (by omega), b 3 (by omega) (by omega), b 4 (by omega) (by omega)]; exact h.2.2
theorem CI.cg {V V' : Mem} {z : Nat} {P : List Pg} (hl : P.length ≤ 24) (h : CI V z P) (a : V' z 6 = V z 6) (b : ∀ k, k ≤ 24 → V' (z + 5 + 1 + k) = V (z + 5 + 1 + k)) : CI V' z P := by
  obtain ⟨m, h1, h2, h3⟩ := h
  exact ⟨m, h1, by rw [a]; exact h2, fun p hp => by rw [b p (by omega)]; exact h3 p hp⟩
theorem AW.cg {U U' : Mem} (h : U' 7 = U 7) : ∀ {A : List Act} {S : Sh}, AW U S A → AW U' S A := by
  intro A
  induction A with
  | nil => intro S _; trivial
  | cons a A ih =>
    intro S hA
    obtain ⟨h1, h2, h3⟩ := hA
    exact ⟨h1, by rw [h]; exact h2, ih h3⟩
theorem AV.cg {V V' : Mem} {A : List Act} (h : AV V A) (a : V' 67 = V 67) (b : ∀ i, i < 24 → V' (69 + i) = V (69 + i)) : AV V' A := by
  obtain ⟨h1, h2, o, h3, h4, h5⟩ := h
  refine ⟨h1, by rw [a]; exact h2, o, h3, by rw [a]; exact h4, fun k hk => ?_⟩
  have h6 := h5 k hk
  have h7 : (o + (A.length - 1 - k)) % 24 < 24 := Nat.mod_lt _ (by decide)
  unfold actRow at h6 ⊢
  rw [b _ h7]
  exact h6
theorem SS.cg {V U V' U' : Mem} {S : Sh} {A : List Act} (h : SS V U S A) (a : ∀ i, 4 ≤ i → i ≤ 34 → V' i = V i) (b : V' 67 = V 67) (c : ∀ i, i < 24 → V' (69 + i) = V (69 + i)) (d : U' 4 = U 4) (e : U' 0 9 = U 0 9) (f : U' 7 = U 7) : SS V' U' S A := by
  obtain ⟨h1, h2, h3, h4, h5, h6, h7⟩ := h
  refine ⟨h1, h2.cg (by rw [a 4 (by omega) (by omega)]) (fun k q1 q2 => a (4 + k) (by omega) (by omega)), h3.cg h1.2.2.1 (by rw [a 4 (by omega) (by omega)]) (fun k q1 => a (4 + 5 + 1 + k) (by omega) (by omega)), by rw [d]; exact h4, h5.cg b c, by rw [e]; exact h6, h7.cg f⟩
theorem IM.cg {V U V' U' : Mem} (h : IM V U) (a : ∀ i, 115 ≤ i → i < 177 → V' i = V i) (b : U' 14 = U 14) (c : U' 15 = U 15) : IM V' U' := by
  intro k hk
  rcases h k hk with h | ⟨S, h1, h2, h3, h4, h5⟩
  · refine Or.inl ?_
    rw [a (115 + 31 * k) (by omega) (by omega), b]
    exact h
  · refine Or.inr ⟨S, h1, h2, h3.cg (by rw [a (115 + 31 * k) (by omega) (by omega)]) (fun j q1 q2 => a (115 + 31 * k + j) (by omega) (by omega)), by rw [c]; exact h4, by rw [b]; exact h5⟩
/-! small callees -/
theorem isBetween_eq (v a b : Int32) (V : Mem) : f_X6_isBetween v a b V = some (if a ≤ v ∧ v ≤ b then 1 else 0, V) := by
  unfold f_X6_isBetween
  by_cases h1 : v < a
  · rw [if_pos h1, if_neg (fun q => Int32.not_le.mpr h1 q.1)]
  · rw [if_neg h1]
    by_cases h2 : b < v
    · rw [if_pos h2, if_neg (fun q => Int32.not_le.mpr h2 q.2)]
    · rw [if_neg h2, if_pos ⟨Int32.not_lt.mp h1, Int32.not_lt.mp h2⟩]
theorem b01 (P : Prop) [Decidable P] : ((if P then (1 : Int32) else 0) &&& 1) = (if P then 1 else 0) := by
  by_cases h : P
  · rw [if_pos h]; decide
  · rw [if_neg h]; decide
theorem b01z (P : Prop) [Decidable P] : ((if P then (1 : Int32) else 0) = 0) ↔ ¬ P := by
  by_cases h : P
  · rw [if_pos h]
    exact ⟨fun q => absurd q (by decide), fun q => absurd h q⟩
  · rw [if_neg h]
    exact ⟨fun _ => h, fun _ => rfl⟩
theorem isRow_eq (v : Int32) (V : Mem) : f_X6_isRow v V = some (if 0 ≤ v ∧ v ≤ 7 then 1 else 0, V) := by
  unfold f_X6_isRow
  rw [isBetween_eq, Option.bind_some, if_pos (b01 _)]
theorem isLevel_eq (v : Int32) (V : Mem) : f_X6_isLevel v V = some (if 0 ≤ v ∧ v ≤ 2 then 1 else 0, V) := by
  unfold f_X6_isLevel
  rw [isBetween_eq, Option.bind_some, if_pos (b01 _)]
theorem in_eq (a b c : Int64) (V : Mem) : f_X7_in a b c V = some (if b ≤ a ∧ a ≤ c then 1 else 0, V) := by
  unfold f_X7_in
  by_cases h1 : b ≤ a
  · rw [if_neg (Int32.not_lt.mpr ((lg_cmp_ge a b).mpr h1))]
    by_cases h2 : a ≤ c
    · rw [if_neg (Int32.not_lt.mpr ((lg_cmp_le a c).mpr h2)), if_pos ⟨h1, h2⟩]
    · rw [if_pos (Int32.not_le.mp (fun q => h2 ((lg_cmp_le a c).mp q))), if_neg (fun q => h2 q.2)]
  · rw [if_pos (Int32.not_le.mp (fun q => h1 ((lg_cmp_ge a b).mp q))), if_neg (fun q => h1 q.1)]
theorem wle (a b : Int32) : a.toInt64 ≤ b.toInt64 ↔ a ≤ b := by
  rw [Int64.le_iff_toInt_le, Int32.le_iff_toInt_le, Int32.toInt_toInt64, Int32.toInt_toInt64]
theorem inw (a b c : Int32) (V : Mem) : f_X7_in a.toInt64 b.toInt64 c.toInt64 V = some (if b ≤ a ∧ a ≤ c then 1 else 0, V) := by
  rw [in_eq]
  by_cases h : b ≤ a ∧ a ≤ c
  · rw [if_pos h, if_pos ⟨(wle b a).mpr h.1, (wle a c).mpr h.2⟩]
  · rw [if_neg h, if_neg (fun q => h ⟨(wle b a).mp q.1, (wle a c).mp q.2⟩)]
theorem mRow_eq (v : Int32) (V : Mem) : f_X7_isRow v V = some (if 0 ≤ v ∧ v ≤ 7 then 1 else 0, V) := by
  unfold f_X7_isRow
  rw [show (0 : Int64) = (0 : Int32).toInt64 from rfl, show (7 : Int64) = (7 : Int32).toInt64 from rfl, inw, Option.bind_some, if_pos (b01 _)]
/-- a number between 0 and n - 1 -/
theorem btw {x : Int32} {n : Nat} (hn : n < 2147483647) (h : 0 ≤ x ∧ x ≤ nI n) : ∃ j, j ≤ n ∧ x = nI j := by
  rcases rng x (n + 1) (by omega) with ⟨j, h1, h2⟩ | h1 | h1
  · exact ⟨j, by omega, h2⟩
  · exact absurd h1 (Int32.not_lt.mpr h.1)
  · exact absurd h.2 (by
      intro q
      have := Int32.le_trans h1 q
      rw [nle (by omega) (by omega)] at this
      omega)

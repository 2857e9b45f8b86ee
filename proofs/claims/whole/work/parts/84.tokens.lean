/-! Tokens, on both sides. -/
abbrev dgt (b : Nat → Nat) (q : Nat) : Prop := 48 ≤ b q ∧ b q ≤ 57
def rl (b : Nat → Nat) : Nat → Nat → Nat
  | 0, q => q
  | d + 1, q => if dgt b q then rl b d (q + 1) else q
def rv (b : Nat → Nat) : Nat → Nat → Nat → Nat
  | 0, _, x => x
  | d + 1, q, x => if dgt b q then rv b d (q + 1) (x * 10 + (b q - 48)) else x
def lexN (b : Nat → Nat) (n q : Nat) : Nat := if q < n then (if dgt b q then rl b (n - q) q else q + 1) else q
def lexT (b : Nat → Nat) (n q : Nat) : Nat × Nat := if q < n then (if dgt b q then (if rl b (n - q) q - q ≤ 2 then (1, rv b (n - q) q 0) else (2, 0)) else if 97 ≤ b q ∧ b q ≤ 122 then (3, b q) else if b q = 44 ∨ b q = 59 then (4, b q) else (2, 0)) else (0, 0)
theorem rl_le {b : Nat → Nat} : ∀ (d q : Nat), q ≤ rl b d q ∧ rl b d q ≤ q + d := by
  intro d
  induction d with
  | zero => intro q; exact ⟨Nat.le_refl _, Nat.le_refl _⟩
  | succ d ih =>
    intro q
    rw [rl]
    split
    · have := ih (q + 1)
      omega
    · omega
theorem lexN_le {b : Nat → Nat} {n q : Nat} (h : q ≤ n) : q ≤ lexN b n q ∧ lexN b n q ≤ n := by
  unfold lexN
  have := rl_le (b := b) (n - q) q
  split
  · split <;> omega
  · omega
def okT (t : Nat × Nat) : Prop := t.1 ≤ 4 ∧ (t.1 = 1 → t.2 ≤ 99) ∧ (t.1 = 3 → 97 ≤ t.2 ∧ t.2 ≤ 122) ∧ (t.1 = 4 → t.2 = 44 ∨ t.2 = 59)
/-- the run's first places -/
theorem run1 {b : Nat → Nat} {d q : Nat} (h : dgt b q) (hn : d = 0 ∨ ¬ dgt b (q + 1)) : rl b (d + 1) q = q + 1 ∧ rv b (d + 1) q 0 = b q - 48 := by
  rw [rl, rv, if_pos h, if_pos h]
  cases d with
  | zero => exact ⟨rfl, by rw [rv]; omega⟩
  | succ d =>
    have h2 : ¬ dgt b (q + 1) := hn.elim (fun q => absurd q (by omega)) (fun q => q)
    rw [rl, rv, if_neg h2, if_neg h2]
    exact ⟨rfl, by omega⟩
theorem run2 {b : Nat → Nat} {d q : Nat} (h : dgt b q) (h1 : dgt b (q + 1)) (hn : d = 0 ∨ ¬ dgt b (q + 2)) : rl b (d + 1 + 1) q = q + 2 ∧ rv b (d + 1 + 1) q 0 = 10 * (b q - 48) + (b (q + 1) - 48) := by
  rw [rl, rv, if_pos h, if_pos h, rl, rv, if_pos h1, if_pos h1]
  cases d with
  | zero => exact ⟨rfl, by rw [rv]; omega⟩
  | succ d =>
    have h2 : ¬ dgt b (q + 1 + 1) := hn.elim (fun q => absurd q (by omega)) (fun q => q)
    rw [rl, rv, if_neg h2, if_neg h2]
    exact ⟨rfl, by omega⟩
theorem run3 {b : Nat → Nat} {d q : Nat} (h : dgt b q) (h1 : dgt b (q + 1)) (h2 : dgt b (q + 2)) : rl b (d + 1 + 1 + 1) q = rl b d (q + 3) := by
  have h2' : dgt b (q + 1 + 1) := h2
  rw [rl, if_pos h, rl, if_pos h1, rl, if_pos h2']
theorem lexT_ok {b : Nat → Nat} {n q : Nat} : okT (lexT b n q) := by
  unfold lexT
  by_cases hq : q < n
  · rw [if_pos hq]
    by_cases hd : dgt b q
    · rw [if_pos hd]
      by_cases h2 : rl b (n - q) q - q ≤ 2
      · rw [if_pos h2]
        refine ⟨by dsimp only; omega, fun _ => ?_, fun e => absurd e (by dsimp only; omega), fun e => absurd e (by dsimp only; omega)⟩
        obtain ⟨d, hd'⟩ : ∃ d, n - q = d + 1 := ⟨n - q - 1, by omega⟩
        rw [hd'] at h2 ⊢
        by_cases c : d = 0 ∨ ¬ dgt b (q + 1)
        · have := run1 hd c
          show rv b (d + 1) q 0 ≤ 99
          omega
        · have c1 : dgt b (q + 1) := Classical.byContradiction (fun e => c (Or.inr e))
          obtain ⟨d, rfl⟩ : ∃ d', d = d' + 1 := ⟨d - 1, by have : ¬ d = 0 := fun e => c (Or.inl e); omega⟩
          by_cases c2 : d = 0 ∨ ¬ dgt b (q + 2)
          · have := run2 hd c1 c2
            show rv b (d + 1 + 1) q 0 ≤ 99
            omega
          · have c3 : dgt b (q + 2) := Classical.byContradiction (fun e => c2 (Or.inr e))
            obtain ⟨d, rfl⟩ : ∃ d', d = d' + 1 := ⟨d - 1, by have : ¬ d = 0 := fun e => c2 (Or.inl e); omega⟩
            rw [run3 hd c1 c3] at h2
            have := rl_le (b := b) d (q + 3)
            omega
      · rw [if_neg h2]
        exact ⟨by decide, fun e => absurd e (by decide), fun e => absurd e (by decide), fun e => absurd e (by decide)⟩
    · rw [if_neg hd]
      by_cases h1 : 97 ≤ b q ∧ b q ≤ 122
      · rw [if_pos h1]
        exact ⟨by dsimp only; omega, fun e => absurd e (by dsimp only; omega), fun _ => h1, fun e => absurd e (by dsimp only; omega)⟩
      · rw [if_neg h1]
        by_cases h2 : b q = 44 ∨ b q = 59
        · rw [if_pos h2]
          exact ⟨by dsimp only; omega, fun e => absurd e (by dsimp only; omega), fun e => absurd e (by dsimp only; omega), fun _ => h2⟩
        · rw [if_neg h2]
          exact ⟨by decide, fun e => absurd e (by decide), fun e => absurd e (by decide), fun e => absurd e (by decide)⟩
  · rw [if_neg hq]
    exact ⟨by decide, fun e => absurd e (by decide), fun e => absurd e (by decide), fun e => absurd e (by decide)⟩
def EX (b : Nat → Nat) (n : Nat) (V : Mem) : Prop := n ≤ 130 ∧ V 2 1 = nI n ∧ ∀ j, j < n → V 3 j = nI (b j) ∧ b j < 256
def EU (b : Nat → Nat) (n : Nat) (U : Mem) : Prop := n ≤ 130 ∧ U 0 11 = nI n ∧ ∀ j, j < n → U 8 j = nI (b j) ∧ b j < 256
def TKV (t : Nat × Nat) (V : Mem) : Prop := (t.1 = 0 → V 2 4 = 0) ∧ (t.1 = 1 → V 2 4 = 1 ∧ V 2 5 = nI t.2) ∧ (t.1 = 2 → V 2 4 = 2) ∧ (3 ≤ t.1 → V 2 4 = nI t.2)
def TKU (t : Nat × Nat) (U : Mem) : Prop := (t.1 = 0 → U 0 14 = 1) ∧ (t.1 = 1 → U 0 14 = 3 ∧ U 0 15 = nI t.2) ∧ (t.1 = 2 → U 0 14 = 0) ∧ (t.1 = 3 → U 0 14 = 2 ∧ U 0 15 = nI t.2) ∧ (t.1 = 4 → U 0 14 = 4 ∧ U 0 15 = nI t.2)
theorem fig_eq {c : Nat} {V : Mem} (hc : c < 256) : f_X5_isFigure (nI c) V = some (if 48 ≤ c ∧ c ≤ 57 then 1 else 0, V) := by
  unfold f_X5_isFigure
  by_cases h1 : c < 48
  · rw [if_pos (by rw [li, nlt (by omega) (by omega)]; exact h1), if_neg (by omega)]
  · rw [if_neg (by rw [li, nlt (by omega) (by omega)]; exact h1)]
    by_cases h2 : 57 < c
    · rw [if_pos (by rw [li, nlt (by omega) (by omega)]; exact h2), if_neg (by omega)]
    · rw [if_neg (by rw [li, nlt (by omega) (by omega)]; exact h2), if_pos (by omega)]
def fm (V : Mem) (e x : Nat) : Mem := ms V 2 (fun k => if k = 3 then nI e else if k = 5 then nI x else V 2 k)
theorem fm_st {V : Mem} {q x q' x' : Nat} {A B : Int32} (hA : A = nI x') (hB : B = nI q') : st (st (fm V q x) 2 5 A) 2 3 B = fm V q' x' := by
  apply mem_ext
  intro a c
  rw [st_at, st_at]
  unfold fm
  rw [ms_at, ms_at]
  by_cases ha : a = 2
  · subst ha
    by_cases h3 : c = 3
    · rw [if_pos ⟨rfl, h3⟩, if_pos rfl, if_pos h3]; exact hB
    · by_cases h5 : c = 5
      · rw [if_neg (fun q => h3 q.2), if_pos ⟨rfl, h5⟩, if_pos rfl, if_neg h3, if_pos h5]; exact hA
      · rw [if_neg (fun q => h3 q.2), if_neg (fun q => h5 q.2), if_pos rfl, if_pos rfl, if_neg h3, if_neg h5, if_neg h3, if_neg h5]
  · rw [if_neg (fun q => ha q.1), if_neg (fun q => ha q.1), if_neg ha, if_neg ha]
theorem dig {x c : Nat} (h : 48 ≤ c) : nI x * 10 + nI c - 48 = nI (x * 10 + (c - 48)) := by
  rw [show (10 : Int32) = nI 10 from rfl, show (48 : Int32) = nI 48 from rfl, pk_mul, nad, nsb (by omega)]
  congr 1
  omega
theorem fig_loop {b : Nat → Nat} {n : Nat} {V : Mem} (hE : EX b n V) : ∀ (d m q x : Nat), q + d = n → d < m → f_X5_stepOverFigures_8 2 m (fm V q x) = f_X5_stepOverFigures_71 2 (fm V (rl b d q) (rv b d q x)) := by
  obtain ⟨h1, h2, h3⟩ := hE
  have l1 : ∀ q x, fm V q x 2 1 = nI n := fun q x => h2
  have l3 : ∀ q x, fm V q x 2 3 = nI q := fun q x => rfl
  have l5 : ∀ q x, fm V q x 2 5 = nI x := fun q x => rfl
  have lb : ∀ q x, fm V q x (2 + 1) = V 3 := fun q x => rfl
  intro d
  induction d with
  | zero =>
    intro m q x hq hm
    obtain ⟨m, rfl⟩ : ∃ n', m = n' + 1 := ⟨m - 1, by omega⟩
    rw [f_X5_stepOverFigures_8, l1, l3, if_pos (by rw [nle (by omega) (by omega)]; omega)]
    rfl
  | succ d ih =>
    intro m q x hq hm
    obtain ⟨m, rfl⟩ : ∃ n', m = n' + 1 := ⟨m - 1, by omega⟩
    obtain ⟨k1, k2⟩ := h3 q (by omega)
    have i130 : ib (nI q) 130 = true := ibt (by omega) (by omega)
    rw [f_X5_stepOverFigures_8, l1, l3, if_neg (by rw [nle (by omega) (by omega)]; omega), if_pos i130, ncl (by omega), lb, k1, fig_eq k2, Option.bind_some, rl, rv]
    by_cases c : dgt b q
    · rw [if_neg (fun z => ((b01z _).mp z) c)]
      simp only [l3, if_pos i130, if_pos c]
      rw [ncl (by omega), lb, k1, l5, st_ne2 (show (3 : Nat) ≠ 5 by omega), l3, fm_st (dig c.1) (nI_1 q)]
      exact ih m (q + 1) _ (by omega) (by omega)
    · rw [if_pos ((b01z _).mpr c)]
      simp only [if_neg c]
theorem step_x {b : Nat → Nat} {n q : Nat} {V : Mem} (hE : EX b n V) (h6 : V 2 6 = 0) (h3 : V 2 3 = nI q) (hq : q ≤ n) : ∃ V', f_X5_stepOn 2 V = some V' ∧ (∀ a, a ≠ 2 → V' a = V a) ∧ V' 2 1 = V 2 1 ∧ V' 2 6 = 0 ∧ V' 2 2 = nI q ∧ V' 2 3 = nI (lexN b n q) ∧ TKV (lexT b n q) V' := by
  obtain ⟨h130, hl, hb⟩ := id hE
  unfold f_X5_stepOn
  rw [if_pos h6, h3]
  generalize hW : st (st V 2 2 (nI q)) 2 5 0 = W
  have w0 : ∀ a, a ≠ 2 → W a = V a := fun a ha => by rw [← hW, st_id ha, st_id ha]
  have w1 : W 2 1 = nI n := by rw [← hW, st_ne2 (by omega), st_ne2 (by omega)]; exact hl
  have w2 : W 2 2 = nI q := by rw [← hW, st_ne2 (by omega), st_same]
  have w3 : W 2 3 = nI q := by rw [← hW, st_ne2 (by omega), st_ne2 (by omega)]; exact h3
  have w5 : W 2 5 = 0 := by rw [← hW, st_same]
  have w6 : W 2 6 = 0 := by rw [← hW, st_ne2 (by omega), st_ne2 (by omega)]; exact h6
  rw [w1, w2]
  unfold lexN lexT
  by_cases c : q < n
  · obtain ⟨k1, k2⟩ := hb q c
    have e1 : nI q + 1 = nI (q + 1) := nI_1 q
    have x2 : st W 2 3 (nI (q + 1)) 2 2 = nI q := by rw [st_ne2 (by omega)]; exact w2
    have x3 : st W 2 3 (nI (q + 1)) (2 + 1) q = nI (b q) := by rw [st_ne1 (by omega), w0 _ (by omega)]; exact k1
    rw [if_pos (by rw [nlt (by omega) (by omega)]; exact c), e1, x2, if_pos (ibt (by omega) (by omega)), ncl (by omega), x3, fig_eq k2, Option.bind_some, if_pos c, if_pos c]
    by_cases cd : dgt b q
    · rw [if_neg (fun z => ((b01z _).mp z) cd)]
      simp only [if_pos cd]
      have hfm : st (st W 2 3 (nI (q + 1))) 2 3 (nI q) = fm W q 0 := by
        apply mem_ext
        intro a k
        rw [st_at, st_at]
        unfold fm
        rw [ms_at]
        by_cases ha : a = 2
        · subst ha
          by_cases h3 : k = 3
          · rw [if_pos ⟨rfl, h3⟩, if_pos rfl, if_pos h3]
          · rw [if_neg (fun q => h3 q.2), if_neg (fun q => h3 q.2), if_pos rfl, if_neg h3]
            by_cases h5 : k = 5
            · rw [if_pos h5, h5, w5]; rfl
            · rw [if_neg h5]
        · rw [if_neg (fun q => ha q.1), if_neg (fun q => ha q.1), if_neg ha]
      have hEW : EX b n W := ⟨h130, w1, fun j hj => by rw [w0 3 (by omega)]; exact hb j hj⟩
      have hrl := rl_le (b := b) (n - q) q
      rw [f_X5_stepOverFigures, x2, hfm, fig_loop hEW (n - q) 4096 q 0 (by omega) (by omega), f_X5_stepOverFigures_71]
      have f3 : fm W (rl b (n - q) q) (rv b (n - q) q 0) 2 3 = nI (rl b (n - q) q) := rfl
      have f2 : fm W (rl b (n - q) q) (rv b (n - q) q 0) 2 2 = nI q := w2
      have f1 : fm W (rl b (n - q) q) (rv b (n - q) q 0) 2 1 = nI n := w1
      have f6 : fm W (rl b (n - q) q) (rv b (n - q) q 0) 2 6 = 0 := w6
      have f5 : fm W (rl b (n - q) q) (rv b (n - q) q 0) 2 5 = nI (rv b (n - q) q 0) := rfl
      have f0 : ∀ a, a ≠ 2 → fm W (rl b (n - q) q) (rv b (n - q) q 0) a = V a := fun a ha => by
        unfold fm
        rw [ms_id ha, w0 a ha]
      rw [f3, f2, nsb (by omega), f_X5_stepOverFigures_90_cz, f_X5_stepOverFigures_90_cz]
      by_cases c2 : rl b (n - q) q - q ≤ 2
      · rw [if_neg (by rw [li, nlt (by omega) (by omega)]; omega), if_pos c2, Option.bind_some]
        refine ⟨_, rfl, fun a ha => by rw [st_id ha, f0 a ha], by rw [st_ne2 (by omega), f1, hl], by rw [st_ne2 (by omega)]; exact f6, by rw [st_ne2 (by omega)]; exact f2, by rw [st_ne2 (by omega)]; exact f3, fun e => absurd e (by dsimp only; omega), fun _ => ⟨st_same, by rw [st_ne2 (by omega)]; exact f5⟩, fun e => absurd e (by dsimp only; omega), fun e => absurd e (by dsimp only; omega)⟩
      · rw [if_pos (by rw [li, nlt (by omega) (by omega)]; omega), if_neg c2, Option.bind_some]
        refine ⟨_, rfl, fun a ha => by rw [st_id ha, f0 a ha], by rw [st_ne2 (by omega), f1, hl], by rw [st_ne2 (by omega)]; exact f6, by rw [st_ne2 (by omega)]; exact f2, by rw [st_ne2 (by omega)]; exact f3, fun e => absurd e (by dsimp only; omega), fun e => absurd e (by dsimp only; omega), fun _ => st_same, fun e => absurd e (by dsimp only; omega)⟩
    · rw [if_pos ((b01z _).mpr cd)]
      simp only [if_neg cd]
      have fin : ∀ y : Int32, (∀ a, a ≠ 2 → st (st W 2 3 (nI (q + 1))) 2 4 y a = V a) ∧ st (st W 2 3 (nI (q + 1))) 2 4 y 2 1 = V 2 1 ∧ st (st W 2 3 (nI (q + 1))) 2 4 y 2 6 = 0 ∧ st (st W 2 3 (nI (q + 1))) 2 4 y 2 2 = nI q ∧ st (st W 2 3 (nI (q + 1))) 2 4 y 2 3 = nI (q + 1) := fun y => ⟨fun a ha => by rw [st_id ha, st_id ha, w0 a ha], by rw [st_ne2 (by omega), st_ne2 (by omega), w1, hl], by rw [st_ne2 (by omega), st_ne2 (by omega)]; exact w6, by rw [st_ne2 (by omega)]; exact x2, by rw [st_ne2 (by omega), st_same]⟩
      have e84 : ¬ (97 ≤ b q ∧ b q ≤ 122) → ∃ V', f_X5_stepOn_84 2 (nI (b q)) (st W 2 3 (nI (q + 1))) = some V' ∧ (∀ a, a ≠ 2 → V' a = V a) ∧ V' 2 1 = V 2 1 ∧ V' 2 6 = 0 ∧ V' 2 2 = nI q ∧ V' 2 3 = nI (q + 1) ∧ TKV (if b q = 44 ∨ b q = 59 then (4, b q) else (2, 0)) V' := by
        intro hno
        unfold f_X5_stepOn_84 f_X5_stepOn_96
        by_cases c44 : b q = 44
        · rw [if_pos (by rw [c44]; rfl), if_pos (Or.inl c44)]
          obtain ⟨g1, g2, g3, g4, g5⟩ := fin (nI (b q))
          exact ⟨_, rfl, g1, g2, g3, g4, g5, fun e => absurd e (by dsimp only; omega), fun e => absurd e (by dsimp only; omega), fun e => absurd e (by dsimp only; omega), fun _ => st_same⟩
        · rw [if_neg (by rw [li, neq (by omega) (by omega)]; exact c44)]
          by_cases c59 : b q = 59
          · rw [if_pos (by rw [c59]; rfl), if_pos (Or.inr c59)]
            obtain ⟨g1, g2, g3, g4, g5⟩ := fin (nI (b q))
            exact ⟨_, rfl, g1, g2, g3, g4, g5, fun e => absurd e (by dsimp only; omega), fun e => absurd e (by dsimp only; omega), fun e => absurd e (by dsimp only; omega), fun _ => st_same⟩
          · rw [if_neg (by rw [li, neq (by omega) (by omega)]; exact c59), if_neg (fun z => z.elim c44 c59)]
            obtain ⟨g1, g2, g3, g4, g5⟩ := fin 2
            exact ⟨_, rfl, g1, g2, g3, g4, g5, fun e => absurd e (by dsimp only; omega), fun e => absurd e (by dsimp only; omega), fun _ => st_same, fun e => absurd e (by dsimp only; omega)⟩
      by_cases c97 : b q < 97
      · rw [if_pos (by rw [li, nlt (by omega) (by omega)]; exact c97), if_neg (show ¬ (97 ≤ b q ∧ b q ≤ 122) by omega)]
        exact e84 (by omega)
      · rw [if_neg (by rw [li, nlt (by omega) (by omega)]; exact c97)]
        by_cases c122 : b q ≤ 122
        · rw [if_pos (by rw [li, nle (by omega) (by omega)]; exact c122), if_pos (show 97 ≤ b q ∧ b q ≤ 122 by omega), f_X5_stepOn_96]
          obtain ⟨g1, g2, g3, g4, g5⟩ := fin (nI (b q))
          exact ⟨_, rfl, g1, g2, g3, g4, g5, fun e => absurd e (by dsimp only; omega), fun e => absurd e (by dsimp only; omega), fun e => absurd e (by dsimp only; omega), fun _ => st_same⟩
        · rw [if_neg (by rw [li, nle (by omega) (by omega)]; exact c122), if_neg (show ¬ (97 ≤ b q ∧ b q ≤ 122) by omega)]
          exact e84 (by omega)
  · rw [if_neg (by rw [nlt (by omega) (by omega)]; exact c), if_neg c, if_neg c]
    refine ⟨_, rfl, fun a ha => by rw [st_id ha, w0 a ha], by rw [st_ne2 (by omega), w1, hl], by rw [st_ne2 (by omega)]; exact w6, by rw [st_ne2 (by omega)]; exact w2, by rw [st_ne2 (by omega)]; exact w3, fun _ => st_same, fun e => absurd e (by dsimp only; omega), fun e => absurd e (by dsimp only; omega), fun e => absurd e (by dsimp only; omega)⟩
def gm (U : Mem) (p e : Nat) (t y : Int32) : Mem := ms U 0 (fun k => if k = 12 then nI e else if k = 13 then nI p else if k = 14 then t else if k = 15 then y else U 0 k)
theorem gm_ext {U W : Mem} {p e : Nat} {t y : Int32} (h0 : ∀ a, a ≠ 0 → W a = U a) (h12 : W 0 12 = nI e) (h13 : W 0 13 = nI p) (h14 : W 0 14 = t) (h15 : W 0 15 = y) (hk : ∀ k, k ≠ 12 → k ≠ 13 → k ≠ 14 → k ≠ 15 → W 0 k = U 0 k) : W = gm U p e t y := by
  apply mem_ext
  intro a k
  unfold gm
  rw [ms_at]
  by_cases ha : a = 0
  · subst ha
    rw [if_pos rfl]
    by_cases k12 : k = 12
    · rw [if_pos k12, k12]; exact h12
    · rw [if_neg k12]
      by_cases k13 : k = 13
      · rw [if_pos k13, k13]; exact h13
      · rw [if_neg k13]
        by_cases k14 : k = 14
        · rw [if_pos k14, k14]; exact h14
        · rw [if_neg k14]
          by_cases k15 : k = 15
          · rw [if_pos k15, k15]; exact h15
          · rw [if_neg k15]; exact hk k k12 k13 k14 k15
  · rw [if_neg ha, h0 a ha]
theorem gm_0 {U : Mem} {p e a : Nat} {t y : Int32} (h : a ≠ 0) : gm U p e t y a = U a := ms_id h
theorem gm_k {U : Mem} {p e k : Nat} {t y : Int32} (h : k < 12 ∨ 15 < k) : gm U p e t y 0 k = U 0 k := by
  unfold gm
  rw [ms_same, if_neg (by omega), if_neg (by omega), if_neg (by omega), if_neg (by omega)]
theorem gm_12 {U : Mem} {p e : Nat} {t y : Int32} : gm U p e t y 0 12 = nI e := by
  unfold gm
  rw [ms_same, if_pos rfl]
theorem gm_13 {U : Mem} {p e : Nat} {t y : Int32} : gm U p e t y 0 13 = nI p := by
  unfold gm
  rw [ms_same, if_neg (by decide), if_pos rfl]
theorem gm_14 {U : Mem} {p e : Nat} {t y : Int32} : gm U p e t y 0 14 = t := by
  unfold gm
  rw [ms_same, if_neg (by decide), if_neg (by decide), if_pos rfl]
theorem gm_15 {U : Mem} {p e : Nat} {t y : Int32} : gm U p e t y 0 15 = y := by
  unfold gm
  rw [ms_same, if_neg (by decide), if_neg (by decide), if_neg (by decide), if_pos rfl]
theorem gs12 {U : Mem} {p e e' : Nat} {t y : Int32} : st (gm U p e t y) 0 12 (nI e') = gm U p e' t y := gm_ext (fun a ha => by rw [st_id ha, gm_0 ha]) st_same (st_ne2 (by omega)) (st_ne2 (by omega)) (st_ne2 (by omega)) (fun k q1 q2 q3 q4 => by rw [st_ne2 q1, gm_k (by omega)])
theorem gs14 {U : Mem} {p e : Nat} {t t' y : Int32} : st (gm U p e t y) 0 14 t' = gm U p e t' y := gm_ext (fun a ha => by rw [st_id ha, gm_0 ha]) (st_ne2 (by omega)) (st_ne2 (by omega)) st_same (st_ne2 (by omega)) (fun k q1 q2 q3 q4 => by rw [st_ne2 q3, gm_k (by omega)])
theorem gs15 {U : Mem} {p e : Nat} {t y y' : Int32} : st (gm U p e t y) 0 15 y' = gm U p e t y' := gm_ext (fun a ha => by rw [st_id ha, gm_0 ha]) (st_ne2 (by omega)) (st_ne2 (by omega)) (st_ne2 (by omega)) st_same (fun k q1 q2 q3 q4 => by rw [st_ne2 q4, gm_k (by omega)])
theorem in_fig {c : Nat} {W : Mem} (hc : c < 256) : f_X7_in (nI c).toInt64 (48 : Int64) (57 : Int64) W = some (if 48 ≤ c ∧ c ≤ 57 then 1 else 0, W) := by
  rw [show (48 : Int64) = (48 : Int32).toInt64 from rfl, show (57 : Int64) = (57 : Int32).toInt64 from rfl, inw]
  have e : ((48 : Int32) ≤ nI c ∧ nI c ≤ 57) ↔ (48 ≤ c ∧ c ≤ 57) := by
    rw [show (48 : Int32) = nI 48 from rfl, show (57 : Int32) = nI 57 from rfl, nle (by omega) (by omega), nle (by omega) (by omega)]
  simp only [e]
theorem in_let {c : Nat} {W : Mem} (hc : c < 256) : f_X7_in (nI c).toInt64 (97 : Int64) (122 : Int64) W = some (if 97 ≤ c ∧ c ≤ 122 then 1 else 0, W) := by
  rw [show (97 : Int64) = (97 : Int32).toInt64 from rfl, show (122 : Int64) = (122 : Int32).toInt64 from rfl, inw]
  have e : ((97 : Int32) ≤ nI c ∧ nI c ≤ 122) ↔ (97 ≤ c ∧ c ≤ 122) := by
    rw [show (97 : Int32) = nI 97 from rfl, show (122 : Int32) = nI 122 from rfl, nle (by omega) (by omega), nle (by omega) (by omega)]
  simp only [e]
theorem tk_rest {b : Nat → Nat} {n p : Nat} {U : Mem} {y : Int32} (hE : EU b n U) : ∀ (d m q : Nat), q + d = n → d < m → p + 2 ≤ q → f_X7_nextToken_165 m (gm U p q 3 y) = f_X7_nextToken_255 (gm U p (rl b d q) 3 y) := by
  obtain ⟨h1, h2, h3⟩ := hE
  have l11 : ∀ q, gm U p q 3 y 0 11 = nI n := fun q => h2
  intro d
  induction d with
  | zero =>
    intro m q hq hm hp
    obtain ⟨m, rfl⟩ : ∃ n', m = n' + 1 := ⟨m - 1, by omega⟩
    rw [f_X7_nextToken_165, l11, gm_12, if_pos (by rw [nle (by omega) (by omega)]; omega)]
    rfl
  | succ d ih =>
    intro m q hq hm hp
    obtain ⟨m, rfl⟩ : ∃ n', m = n' + 1 := ⟨m - 1, by omega⟩
    obtain ⟨k1, k2⟩ := h3 q (by omega)
    have i130 : ib (nI q) 130 = true := ibt (by omega) (by omega)
    rw [f_X7_nextToken_165, l11, gm_12, if_neg (by rw [nle (by omega) (by omega)]; omega), if_pos i130, ncl (by omega), gm_0 (show (8 : Nat) ≠ 0 by omega), k1, in_fig k2, Option.bind_some, rl]
    by_cases c : dgt b q
    · rw [if_neg (fun z => ((b01z _).mp z) c)]
      simp only [if_pos c, gm_12, gm_13]
      rw [nsb (by omega), if_pos (by rw [li, nle (by omega) (by omega)]; omega), f_X7_nextToken_239_c0, gm_15, gs15, gm_12, nI_1, gs12]
      exact ih m (q + 1) (by omega) (by omega) (by omega)
    · rw [if_pos ((b01z _).mpr c)]
      simp only [if_neg c]
theorem tk_run {b : Nat → Nat} {n p : Nat} {U : Mem} (hE : EU b n U) (hp : p < n) (hd : dgt b p) : ∃ y, f_X7_nextToken_165 4096 (gm U p (p + 1) 3 (nI (b p - 48))) = f_X7_nextToken_255 (gm U p (rl b (n - p) p) 3 y) ∧ (rl b (n - p) p - p ≤ 2 → y = nI (rv b (n - p) p 0)) := by
  obtain ⟨h1, h2, h3⟩ := id hE
  have l11 : ∀ q y, gm U p q 3 y 0 11 = nI n := fun q y => h2
  have fuel : ∀ m, 200 < m → ∃ y, f_X7_nextToken_165 (m + 1) (gm U p (p + 1) 3 (nI (b p - 48))) = f_X7_nextToken_255 (gm U p (rl b (n - p) p) 3 y) ∧ (rl b (n - p) p - p ≤ 2 → y = nI (rv b (n - p) p 0)) := by
    intro m hm
    obtain ⟨d, e⟩ : ∃ d, n - p = d + 1 := ⟨n - p - 1, by omega⟩
    rw [f_X7_nextToken_165, l11, gm_12, e]
    cases d with
    | zero =>
      have r := run1 (d := 0) hd (Or.inl rfl)
      rw [if_pos (by rw [nle (by omega) (by omega)]; omega), r.1, r.2]
      exact ⟨_, rfl, fun _ => rfl⟩
    | succ d =>
      obtain ⟨k1, k2⟩ := h3 (p + 1) (by omega)
      have i130 : ib (nI (p + 1)) 130 = true := ibt (by omega) (by omega)
      rw [if_neg (by rw [nle (by omega) (by omega)]; omega), if_pos i130, ncl (by omega), gm_0 (show (8 : Nat) ≠ 0 by omega), k1, in_fig k2, Option.bind_some]
      by_cases c : dgt b (p + 1)
      · rw [if_neg (fun z => ((b01z _).mp z) c)]
        simp only [gm_12, gm_13]
        have e2 : (10 : Int32) * nI (b p - 48) + nI (b (p + 1)) - 48 = nI (10 * (b p - 48) + (b (p + 1) - 48)) := by
          rw [show (10 : Int32) = nI 10 from rfl, show (48 : Int32) = nI 48 from rfl, pk_mul, nad, nsb (by have := c.1; omega)]
          congr 1
          have := c.1
          omega
        rw [nsb (by omega), if_neg (by rw [li, nle (by omega) (by omega)]; omega), if_pos i130, f_X7_nextToken_239_c0, gm_15, ncl (by omega), gm_0 (show (8 : Nat) ≠ 0 by omega), k1, e2, gs15, gm_12, nI_1, gs12, tk_rest hE d m (p + 1 + 1) (by omega) (by omega) (by omega)]
        have e3 : rl b (d + 1 + 1) p = rl b d (p + 1 + 1) := by rw [rl, if_pos hd, rl, if_pos c]
        rw [e3]
        refine ⟨_, rfl, fun h => ?_⟩
        by_cases c2 : d = 0 ∨ ¬ dgt b (p + 2)
        · rw [(run2 hd c c2).2]
        · have c3 : dgt b (p + 2) := Classical.byContradiction (fun e => c2 (Or.inr e))
          obtain ⟨d, rfl⟩ : ∃ d', d = d' + 1 := ⟨d - 1, by have : ¬ d = 0 := fun e => c2 (Or.inl e); omega⟩
          have c3' : dgt b (p + 1 + 1) := c3
          rw [rl, if_pos c3'] at h
          have := rl_le (b := b) d (p + 1 + 1 + 1)
          omega
      · have r := run1 (d := d + 1) hd (Or.inr c)
        rw [if_pos ((b01z _).mpr c)]
        rw [r.1, r.2]
        exact ⟨_, rfl, fun _ => rfl⟩
  exact fuel 4095 (by omega)
theorem step_m {b : Nat → Nat} {n q : Nat} {U : Mem} (hE : EU b n U) (h12 : U 0 12 = nI q) (hq : q ≤ n) : ∃ U', f_X7_nextToken U = some U' ∧ (∀ a, a ≠ 0 → U' a = U a) ∧ (∀ k, k < 12 ∨ 15 < k → U' 0 k = U 0 k) ∧ U' 0 13 = nI q ∧ U' 0 12 = nI (lexN b n q) ∧ TKU (lexT b n q) U' := by
  obtain ⟨h130, hl, hb⟩ := id hE
  have g0 : st U 0 13 (nI q) = gm U q q (U 0 14) (U 0 15) := gm_ext (fun a ha => st_id ha) (by rw [st_ne2 (by omega)]; exact h12) st_same (st_ne2 (by omega)) (st_ne2 (by omega)) (fun k q1 q2 q3 q4 => st_ne2 q2)
  have l11 : ∀ e t y, gm U q e t y 0 11 = nI n := fun e t y => hl
  unfold f_X7_nextToken
  rw [h12, g0, l11, gm_12]
  generalize U 0 14 = t0
  generalize U 0 15 = y0
  have fin : ∀ (e : Nat) (t y : Int32), (∀ a, a ≠ 0 → gm U q e t y a = U a) ∧ (∀ k, k < 12 ∨ 15 < k → gm U q e t y 0 k = U 0 k) ∧ gm U q e t y 0 13 = nI q ∧ gm U q e t y 0 12 = nI e := fun e t y => ⟨fun a ha => gm_0 ha, fun k hk => gm_k hk, rfl, rfl⟩
  unfold lexN lexT
  by_cases c : q < n
  · obtain ⟨k1, k2⟩ := hb q c
    have e1 : nI q + 1 = nI (q + 1) := nI_1 q
    have a118 : ∀ t y : Int32, f_X7_nextToken_118_c0 t (gm U q q t0 y) = f_X7_nextToken_142_c0 (nI q) 1 (gm U q q t y) := by
      intro t y
      rw [f_X7_nextToken_118_c0, gs14, l11, gm_12, if_neg (by rw [nle (by omega) (by omega)]; omega)]
    have a142 : ∀ t y : Int32, ¬ t = 3 → f_X7_nextToken_142_c0 (nI q) 1 (gm U q q t y) = some (gm U q (q + 1) t y) := by
      intro t y ht
      rw [f_X7_nextToken_142_c0, e1, gs12, gm_14, if_neg ht]
    rw [if_neg (by rw [nle (by omega) (by omega)]; omega), if_pos (ibt (by omega) (by omega)), ncl (by omega), gm_0 (show (8 : Nat) ≠ 0 by omega), k1, f_X7_nextToken_34_c0, gs15, gm_12, l11, if_neg (by rw [neq (by omega) (by omega)]; omega), gm_15, in_let k2, Option.bind_some, if_pos c, if_pos c]
    by_cases cl : 97 ≤ b q ∧ b q ≤ 122
    · have nd : ¬ dgt b q := fun z => by have := z.2; omega
      rw [if_neg (fun z => ((b01z _).mp z) cl)]
      simp only [if_neg nd, if_pos cl]
      rw [a118, a142 _ _ (by decide)]
      obtain ⟨f1, f2, f3, f4⟩ := fin (q + 1) 2 (nI (b q))
      exact ⟨_, rfl, f1, f2, f3, f4, fun e => absurd e (by dsimp only; omega), fun e => absurd e (by dsimp only; omega), fun e => absurd e (by dsimp only; omega), fun _ => ⟨rfl, rfl⟩, fun e => absurd e (by dsimp only; omega)⟩
    · rw [if_pos ((b01z _).mpr cl)]
      simp only [gm_15, if_neg cl]
      rw [in_fig k2, Option.bind_some]
      by_cases cd : dgt b q
      · rw [if_neg (fun z => ((b01z _).mp z) cd)]
        simp only [if_pos cd]
        have e48 : nI (b q) - 48 = nI (b q - 48) := nsb (b := 48) cd.1
        obtain ⟨y, y1, y2⟩ := tk_run hE c cd
        have hrl := rl_le (b := b) (n - q) q
        rw [a118, f_X7_nextToken_142_c0, e1, gs12, gm_14, if_pos rfl, gm_15, e48, gs15, y1, f_X7_nextToken_255, gm_12, gm_13, nsb (by omega), f_X7_nextToken_274_c0, f_X7_nextToken_274_c0, gs14, gs14]
        by_cases c2 : rl b (n - q) q - q ≤ 2
        · rw [if_pos (by rw [li, nle (by omega) (by omega)]; omega), if_pos c2]
          obtain ⟨f1, f2, f3, f4⟩ := fin (rl b (n - q) q) 3 y
          exact ⟨_, rfl, f1, f2, f3, f4, fun e => absurd e (by dsimp only; omega), fun _ => ⟨rfl, y2 c2⟩, fun e => absurd e (by dsimp only; omega), fun e => absurd e (by dsimp only; omega), fun e => absurd e (by dsimp only; omega)⟩
        · rw [if_neg (by rw [li, nle (by omega) (by omega)]; omega), if_neg c2]
          obtain ⟨f1, f2, f3, f4⟩ := fin (rl b (n - q) q) 0 y
          exact ⟨_, rfl, f1, f2, f3, f4, fun e => absurd e (by dsimp only; omega), fun e => absurd e (by dsimp only; omega), fun _ => rfl, fun e => absurd e (by dsimp only; omega), fun e => absurd e (by dsimp only; omega)⟩
      · rw [if_pos ((b01z _).mpr cd)]
        simp only [if_neg cd, gm_15]
        by_cases c44 : b q = 44
        · rw [if_pos (show nI (b q) = 44 by rw [c44]; rfl), if_pos (show b q = 44 ∨ b q = 59 from Or.inl c44), a118, a142 _ _ (by decide)]
          obtain ⟨f1, f2, f3, f4⟩ := fin (q + 1) 4 (nI (b q))
          exact ⟨_, rfl, f1, f2, f3, f4, fun e => absurd e (by dsimp only; omega), fun e => absurd e (by dsimp only; omega), fun e => absurd e (by dsimp only; omega), fun e => absurd e (by dsimp only; omega), fun _ => ⟨rfl, rfl⟩⟩
        · rw [if_neg (show ¬ nI (b q) = 44 by rw [li, neq (by omega) (by omega)]; exact c44)]
          by_cases c59 : b q = 59
          · rw [if_pos (show nI (b q) = 59 by rw [c59]; rfl), if_pos (show b q = 44 ∨ b q = 59 from Or.inr c59), a118, a142 _ _ (by decide)]
            obtain ⟨f1, f2, f3, f4⟩ := fin (q + 1) 4 (nI (b q))
            exact ⟨_, rfl, f1, f2, f3, f4, fun e => absurd e (by dsimp only; omega), fun e => absurd e (by dsimp only; omega), fun e => absurd e (by dsimp only; omega), fun e => absurd e (by dsimp only; omega), fun _ => ⟨rfl, rfl⟩⟩
          · rw [if_neg (show ¬ nI (b q) = 59 by rw [li, neq (by omega) (by omega)]; exact c59), if_neg (show ¬ (b q = 44 ∨ b q = 59) from fun z => z.elim c44 c59), a118, a142 _ _ (by decide)]
            obtain ⟨f1, f2, f3, f4⟩ := fin (q + 1) 0 (nI (b q))
            exact ⟨_, rfl, f1, f2, f3, f4, fun e => absurd e (by dsimp only; omega), fun e => absurd e (by dsimp only; omega), fun _ => rfl, fun e => absurd e (by dsimp only; omega), fun e => absurd e (by dsimp only; omega)⟩
  · have e : q = n := by omega
    rw [if_pos (by rw [nle (by omega) (by omega)]; omega), f_X7_nextToken_34_c0, gs15, gm_12, l11, if_pos (by rw [e]), f_X7_nextToken_118_c0, gs14, l11, gm_12, if_pos (by rw [nle (by omega) (by omega)]; omega), f_X7_nextToken_142_c0, add0, gs12, gm_14, if_neg (by decide), if_neg c, if_neg c]
    obtain ⟨f1, f2, f3, f4⟩ := fin q 1 (-1000000)
    exact ⟨_, rfl, f1, f2, f3, f4, fun _ => rfl, fun e => absurd e (by dsimp only; omega), fun e => absurd e (by dsimp only; omega), fun e => absurd e (by dsimp only; omega), fun e => absurd e (by dsimp only; omega)⟩

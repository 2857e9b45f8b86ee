/-! Sheets of the class: what they hold, and the counters ahead of each paragraph. -/
abbrev Pg : Type := Nat × Nat × Nat
abbrev Sh : Type := List Nat × List Pg
def pg (P : List Pg) (k : Nat) : Pg := P.getD k (0, 0, 0)
def cnt (P : List Pg) (k : Nat) : Nat → Nat := (P.take k).foldl ov (fun _ => 0)
def okP (p : Pg) : Prop := 1 ≤ p.1 ∧ p.1 ≤ 5 ∧ p.2.1 ≤ 2 ∧ p.2.2 ≤ 20
def okS (S : Sh) : Prop := S.1.length = 3 ∧ (∀ s, s ∈ S.1 → s ≤ 3) ∧ S.2.length ≤ 24 ∧ ∀ p, p ∈ S.2 → okP p
def ShX (V : Mem) (z : Nat) (S : Sh) : Prop := V z 4 = nI S.2.length ∧ (∀ l, l < 3 → V (z + 1) l = nI (S.1.getD l 0)) ∧ ∀ k, k < S.2.length → V (z + 2) k = nI (pg S.2 k).1 ∧ V (z + 3) k = nI (pg S.2 k).2.1 ∧ V (z + 4) k = nI (pg S.2 k).2.2
/-- lines 0 to m of the cells hold -/
def CM (V : Mem) (z : Nat) (P : List Pg) (m : Nat) : Prop := m ≤ P.length ∧ V z 6 = nI m ∧ ∀ p, p ≤ m → ∀ x, x < 6 → V (z + 5 + 1 + p) x = nI (cnt P p x)
def CI (V : Mem) (z : Nat) (P : List Pg) : Prop := ∃ m, CM V z P m
/-- only the kept counters of sheet z, and how many they are, have changed -/
def FS (z : Nat) (V V' : Mem) : Prop := (∀ a, a ≠ z → (a < z + 6 ∨ z + 30 < a) → V' a = V a) ∧ ∀ k, k ≠ 6 → V' z k = V z k
theorem FS.rf {z : Nat} {V : Mem} : FS z V V := ⟨fun _ _ _ => rfl, fun _ _ => rfl⟩
theorem FS.tr {z : Nat} {V V' V'' : Mem} (h : FS z V V') (h2 : FS z V' V'') : FS z V V'' := ⟨fun a h1 h3 => (h2.1 a h1 h3).trans (h.1 a h1 h3), fun k hk => (h2.2 k hk).trans (h.2 k hk)⟩
theorem pg_ok {P : List Pg} (h : ∀ p, p ∈ P → okP p) {k : Nat} (hk : k < P.length) : okP (pg P k) := by
  unfold pg
  rw [List.getD_eq_getElem?_getD, List.getElem?_eq_getElem hk]
  exact h _ (List.getElem_mem hk)
theorem cnt_succ {P : List Pg} {k : Nat} (hk : k < P.length) : cnt P (k + 1) = ov (cnt P k) (pg P k) := by
  unfold cnt pg
  rw [List.take_succ_eq_append_getElem hk, List.foldl_append, List.getD_eq_getElem?_getD, List.getElem?_eq_getElem hk]
  rfl
theorem cnt_zero {P : List Pg} : cnt P 0 = fun _ => 0 := rfl
theorem ShX.fs {V V' : Mem} {z : Nat} {S : Sh} (h : ShX V z S) (hf : FS z V V') : ShX V' z S := by
  obtain ⟨h1, h2, h3⟩ := h
  refine ⟨by rw [hf.2 4 (by decide)]; exact h1, fun l hl => by rw [hf.1 (z + 1) (by omega) (by omega)]; exact h2 l hl, fun k hk => ?_⟩
  rw [hf.1 (z + 2) (by omega) (by omega), hf.1 (z + 3) (by omega) (by omega), hf.1 (z + 4) (by omega) (by omega)]
  exact h3 k hk
theorem cf_of {V : Mem} {r : Nat} {C : Nat → Nat} (h : ∀ x, x < 6 → V r x = nI (C x)) : V r = cf C (V r) := by
  funext x
  unfold cf
  by_cases hx : x < 6
  · rw [if_pos hx]; exact h x hx
  · rw [if_neg hx]
theorem ahead_loop {z : Nat} {S : Sh} (hok : okS S) {t : Nat} (ht : t ≤ S.2.length) : ∀ (d n m : Nat) (V : Mem), t ≤ m + d → d < n → ShX V z S → CM V z S.2 m →
    ∃ V', f_X3_ahead_13 z n (nI t) V = some (z + 5 + 1 + t, V') ∧ FS z V V' ∧ ∃ m', t ≤ m' ∧ m ≤ m' ∧ CM V' z S.2 m' := by
  have h24 := hok.2.2.1
  intro d
  induction d with
  | zero =>
    intro n m V hd hn hS hC
    obtain ⟨n, rfl⟩ : ∃ n', n = n' + 1 := ⟨n - 1, by omega⟩
    obtain ⟨c1, c2, c3⟩ := id hC
    refine ⟨V, ?_, FS.rf, m, by omega, Nat.le_refl _, hC⟩
    unfold f_X3_ahead_13
    rw [c2, if_pos (by rw [nle (by omega) (by omega)]; omega), if_pos (ibt (by omega) (by omega)), ncl (by omega)]
  | succ d ih =>
    intro n m V hd hn hS hC
    obtain ⟨n, rfl⟩ : ∃ n', n = n' + 1 := ⟨n - 1, by omega⟩
    obtain ⟨c1, c2, c3⟩ := id hC
    by_cases htm : t ≤ m
    · refine ⟨V, ?_, FS.rf, m, htm, Nat.le_refl _, hC⟩
      unfold f_X3_ahead_13
      rw [c2, if_pos (by rw [nle (by omega) (by omega)]; omega), if_pos (ibt (by omega) (by omega)), ncl (by omega)]
    · have hml : m < S.2.length := by omega
      obtain ⟨k1, k2, k3⟩ := hS.2.2 m hml
      have hp := pg_ok hok.2.2.2 hml
      unfold f_X3_ahead_13
      rw [c2, if_neg (by rw [nle (by omega) (by omega)]; omega), li, nad, if_pos (ibt (by omega) (by omega)), if_pos (ibt (by omega) (by omega)), if_pos (by decide), ncl (show m < _ by omega), ncl (show m + 1 < _ by omega)]
      generalize hW : cp V (z + 5 + 1 + m) (z + 5 + 1 + (m + 1)) (Int32.toNatClampNeg 0) (Int32.toNatClampNeg 0) (Int32.toNatClampNeg 6) = W
      have hW : cp V (z + 5 + 1 + m) (z + 5 + 1 + (m + 1)) 0 0 6 = W := hW
      have w6 : W z 6 = nI m := by rw [← hW, cp_id (by omega)]; exact c2
      have w2 : W (z + 2) = V (z + 2) := by rw [← hW, cp_id (by omega)]
      have w3 : W (z + 3) = V (z + 3) := by rw [← hW, cp_id (by omega)]
      have w4 : W (z + 4) = V (z + 4) := by rw [← hW, cp_id (by omega)]
      have wr : ∀ x, x < 6 → W (z + 5 + 1 + (m + 1)) x = nI (cnt S.2 m x) := by
        intro x hx
        rw [← hW, cp_at, if_pos ⟨rfl, by omega, by omega⟩, Nat.zero_add, Nat.sub_zero]
        exact c3 m (Nat.le_refl m) x hx
      rw [w6, if_pos (ibt (by omega) (by omega)), if_pos (ibt (by omega) (by omega)), if_pos (ibt (by omega) (by omega)), ncl (show m < _ by omega), w2, w3, w4, k1, k2, k3,
        over_eq ⟨hp.1, hp.2.1⟩ (by have := hp.2.2.1; omega) (by have := hp.2.2.2; omega) (cf_of wr), Option.bind_some, ms_id (show z ≠ z + 5 + 1 + (m + 1) by omega), w6, nad]
      generalize hV1 : st (ms W (z + 5 + 1 + (m + 1)) (cf (ov (cnt S.2 m) ((pg S.2 m).1, (pg S.2 m).2.1, (pg S.2 m).2.2)) (W (z + 5 + 1 + (m + 1))))) z 6 (nI (m + 1)) = V1
      have hF : FS z V V1 := by
        refine ⟨fun a h1 h2 => ?_, fun k hk => ?_⟩
        · rw [← hV1, st_id h1, ms_id (by omega), ← hW, cp_id (by omega)]
        · rw [← hV1, st_at, if_neg (by omega), ms_id (by omega), ← hW, cp_id (by omega)]
      have hC1 : CM V1 z S.2 (m + 1) := by
        refine ⟨by omega, by rw [← hV1, st_at, if_pos ⟨rfl, rfl⟩], fun p hp2 x hx => ?_⟩
        rw [← hV1, st_id (by omega)]
        by_cases hpm : p = m + 1
        · subst hpm
          rw [ms_eq, cnt_succ hml]
          exact if_pos hx
        · rw [ms_id (by omega), ← hW, cp_id (by omega)]
          exact c3 p (by omega) x hx
      obtain ⟨V', e1, e2, m', e3, e5, e4⟩ := ih n (m + 1) V1 (by omega) (by omega) (hS.fs hF) hC1
      exact ⟨V', e1, hF.tr e2, m', e3, by omega, e4⟩
theorem ahead_m {z : Nat} {S : Sh} {V : Mem} {m : Nat} (hok : okS S) (hS : ShX V z S) (hm : CM V z S.2 m) {t : Nat} (ht : t ≤ S.2.length) :
    ∃ V' m', f_X3_ahead z (nI t) V = some (z + 5 + 1 + t, V') ∧ FS z V V' ∧ t ≤ m' ∧ m ≤ m' ∧ CM V' z S.2 m' := by
  have h24 := hok.2.2.1
  obtain ⟨V', e1, e2, m', e3, e5, e4⟩ := ahead_loop hok ht t 4096 m V (by omega) (by omega) hS hm
  refine ⟨V', m', ?_, e2, e3, e5, e4⟩
  unfold f_X3_ahead
  rw [hS.1]
  have h1 : (if nI S.2.length < nI t then nI S.2.length else nI t) = nI t := if_neg (by rw [nlt (by omega) (by omega)]; omega)
  rw [h1]
  have h2 : (if (0 : Int32) < nI t then nI t else 0) = nI t := by
    by_cases h0 : t = 0
    · subst h0; rfl
    · rw [if_pos (by rw [li, nlt (by omega) (by omega)]; omega)]
  rw [h2]
  exact e1
theorem ahead_eq {z : Nat} {S : Sh} {V : Mem} (hok : okS S) (hS : ShX V z S) (hC : CI V z S.2) {t : Nat} (ht : t ≤ S.2.length) :
    ∃ V', f_X3_ahead z (nI t) V = some (z + 5 + 1 + t, V') ∧ FS z V V' ∧ CI V' z S.2 ∧ ∀ x, x < 6 → V' (z + 5 + 1 + t) x = nI (cnt S.2 t x) := by
  obtain ⟨m, hm⟩ := hC
  obtain ⟨V', m', e1, e2, e3, e5, e4⟩ := ahead_m hok hS hm ht
  exact ⟨V', e1, e2, ⟨m', e4⟩, fun x hx => e4.2.2 t e3 x hx⟩

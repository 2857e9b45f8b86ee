/-! Calls that only ask: what of the memories stays. -/
def QX (V V' : Mem) : Prop := (∀ a, (1 ≤ a ∧ a < 10 ∧ a ≠ 4) ∨ (66 ≤ a ∧ a ≤ 93) ∨ (98 ≤ a ∧ a < 177) → V' a = V a) ∧ (∀ k, k ≠ 6 → V' 4 k = V 4 k)
def QM (U U' : Mem) : Prop := (∀ a, a ≠ 0 → a ≠ 5 → a ≠ 6 → (a < 9 ∨ 13 < a) → U' a = U a) ∧ U' 0 9 = U 0 9 ∧ U' 0 11 = U 0 11 ∧ U' 0 29 = U 0 29
theorem QX.rf {V : Mem} : QX V V := ⟨fun _ _ => rfl, fun _ _ => rfl⟩
theorem QX.tr {V V' V'' : Mem} (h : QX V V') (h2 : QX V' V'') : QX V V'' := ⟨fun a q => (h2.1 a q).trans (h.1 a q), fun k q => (h2.2 k q).trans (h.2 k q)⟩
theorem QM.rf {U : Mem} : QM U U := ⟨fun _ _ _ _ _ => rfl, rfl, rfl, rfl⟩
theorem QM.tr {U U' U'' : Mem} (h : QM U U') (h2 : QM U' U'') : QM U U'' := ⟨fun a q1 q2 q3 q4 => (h2.1 a q1 q2 q3 q4).trans (h.1 a q1 q2 q3 q4), h2.2.1.trans h.2.1, h2.2.2.1.trans h.2.2.1, h2.2.2.2.trans h.2.2.2⟩
theorem FS.qx {V V' : Mem} (h : FS 4 V V') : QX V V' := ⟨fun a q => h.1 a (by omega) (by omega), h.2⟩
theorem FS.z0 {V V' : Mem} (h : FS 4 V V') (hz : Z0 V) : Z0 V' := fun x hx => by rw [h.1 41 (by omega) (by omega)]; exact hz x hx
theorem FS.o {V V' : Mem} (h : FS 4 V V') : V' 0 = V 0 := h.1 0 (by omega) (by omega)
theorem inv_q {V U V' U' : Mem} {S : Sh} {A : List Act} (h : Inv V U) (hSS : SS V U S A) (hq : QX V V') (h11 : V' 0 11 = V 0 11) (hs : SN V' U') (hc : CI V' 4 S.2) (hz : Z0 V') (hm : QM U U') : Inv V' U' := by
  obtain ⟨g1, g2, g3, g4, -, g6, g7⟩ := h
  obtain ⟨s1, s2, s3, s4, s5, s6, s7⟩ := hSS
  refine ⟨g1.cg (fun a q1 q2 => hq.1 a (by omega)) (hm.1 1 (by omega) (by omega) (by omega) (by omega)) (hm.1 2 (by omega) (by omega) (by omega) (by omega)) (hm.1 3 (by omega) (by omega) (by omega) (by omega)), hs, g3.cg (by rw [hq.1 2 (by omega)]) (hq.1 3 (by omega)) hm.2.2.1 (hm.1 8 (by omega) (by omega) (by omega) (by omega)), g4.cg h11 (hq.1 98 (by omega)) hm.2.2.2 (hm.1 16 (by omega) (by omega) (by omega) (by omega)), ⟨S, A, s1, s2.cg (hq.2 4 (by omega)) (fun k q1 q2 => hq.1 (4 + k) (by omega)), hc, by rw [hm.1 4 (by omega) (by omega) (by omega) (by omega)]; exact s4, s5.cg (hq.1 67 (by omega)) (fun i hi => hq.1 (69 + i) (by omega)), by rw [hm.2.1]; exact s6, s7.cg (hm.1 7 (by omega) (by omega) (by omega) (by omega))⟩, g6.cg (fun i q1 q2 => hq.1 i (by omega)) (hm.1 14 (by omega) (by omega) (by omega) (by omega)) (hm.1 15 (by omega) (by omega) (by omega) (by omega)), hz⟩
/-- nothing but kept counters and the reference's scratch has changed -/
theorem inv_fs {V U V' U' : Mem} {S : Sh} {A : List Act} (h : Inv V U) (hSS : SS V U S A) (hf : FS 4 V V') (hc : CI V' 4 S.2) (hm : QM U U') (u1 : U' 0 1 = U 0 1) (u18 : U' 0 18 = U 0 18) : Inv V' U' := by
  refine inv_q h hSS hf.qx (by rw [hf.o]) (h.2.1.cg (by rw [hf.o]) (by rw [hf.o]) u1 u18) hc (hf.z0 h.2.2.2.2.2.2) hm
theorem qm_t {U : Mem} {x : Int32} : QM U (st U 0 0 x) := ⟨fun a q1 _ _ _ => st_id q1, st_ne2 (by omega), st_ne2 (by omega), st_ne2 (by omega)⟩
theorem mk_id {U : Mem} {P : List Pg} {k a : Nat} (h : a < 9 ∨ 11 < a) : mk U P k a = U a := by
  unfold mk
  rw [ms_id (by omega), mc_id (by omega) (by omega)]
theorem qm_mk {U : Mem} {P : List Pg} {k : Nat} : QM U (mk U P k) := ⟨fun a q1 q2 q3 q4 => mk_id (by omega), by rw [mk_id (by omega)], by rw [mk_id (by omega)], by rw [mk_id (by omega)]⟩
theorem mk_11 {U : Mem} {P : List Pg} {n k l : Nat} (hk : k < n) (hl : l < 3) : mk U P n 11 (3 * k + l) = nI (cnt P (k + 1) l) := by
  unfold mk
  rw [ms_same]
  unfold ctf
  rw [if_pos (by omega), show (3 * k + l) / 3 = k by omega, show (3 * k + l) % 3 = l by omega]
/-! which paragraph -/
theorem dich (x : Int32) (n : Nat) : (∃ k, k < n ∧ x = nI k) ∨ ∀ k, k < n → x ≠ nI k := by
  by_cases h : ∃ k, k < n ∧ x = nI k
  · exact Or.inl h
  · exact Or.inr (fun k hk e => h ⟨k, hk, e⟩)
theorem has_yes {V : Mem} {z n k : Nat} (hV : V z 4 = nI n) (hn : n < 2147483648) (hk : k < n) : f_X3_has z (nI k) V = some (1, V) := by
  unfold f_X3_has
  rw [if_neg (nI_pos (by omega)), hV, if_neg (by rw [nle (by omega) (by omega)]; omega)]
theorem has_no {V : Mem} {z n : Nat} {x : Int32} (hV : V z 4 = nI n) (hn : n < 2147483648) (hk : ∀ k, k < n → x ≠ nI k) : f_X3_has z x V = some (0, V) := by
  unfold f_X3_has
  rcases rng x n hn with ⟨j, j1, j2⟩ | q | q
  · exact absurd j2 (hk j j1)
  · rw [if_pos q]
  · by_cases h : x < 0
    · rw [if_pos h]
    · rw [if_neg h, hV, if_pos q]
theorem par_yes {U : Mem} {n k : Nat} (hU : U 4 0 = nI n) (hn : n < 2147483648) (hk : k < n) : f_X7_isParagraph (nI k) U = some (1, U) := by
  unfold f_X7_isParagraph
  have e : U 4 ((0 : Int32)).toNatClampNeg = nI n := hU
  have e1 : nI n - 1 = nI (n - 1) := nsb (b := 1) (by omega)
  rw [if_pos (by decide), e, e1, show (0 : Int64) = (0 : Int32).toInt64 from rfl, inw, Option.bind_some, if_pos (b01 _), if_pos ⟨nI_pos' (by omega), by rw [nle (by omega) (by omega)]; omega⟩]
theorem par_no {U : Mem} {n : Nat} {x : Int32} (hU : U 4 0 = nI n) (hn : n < 2147483648) (hk : ∀ k, k < n → x ≠ nI k) : f_X7_isParagraph x U = some (0, U) := by
  unfold f_X7_isParagraph
  have e : U 4 ((0 : Int32)).toNatClampNeg = nI n := hU
  rw [if_pos (by decide), e, show (0 : Int64) = (0 : Int32).toInt64 from rfl, inw, Option.bind_some, if_pos (b01 _), if_neg ?_]
  rintro ⟨q1, q2⟩
  rcases Nat.eq_zero_or_pos n with h0 | h0
  · subst h0
    exact absurd (Int32.le_trans q1 q2) (by decide)
  · have e1 : nI n - 1 = nI (n - 1) := nsb (b := 1) (by omega)
    rw [e1] at q2
    obtain ⟨j, j1, j2⟩ := btw (by omega) ⟨q1, q2⟩
    exact hk j (by omega) j2
theorem i10 {W : Mem} : ¬ (((1 : Int32), W) : Int32 × Mem).1 = 0 := fun q => absurd q (show ¬ (1 : Int32) = 0 by decide)
theorem s_kind : S_kind Inv := by
  intro a V U h
  obtain ⟨S, A, hSS⟩ := h.2.2.2.2.1
  obtain ⟨hok, hX, hC, hM, -⟩ := id hSS
  have h24 := hok.2.2.1
  have hM' : ShM (st U 0 0 0 4) S := by rw [st_id (by omega)]; exact hM
  unfold f_X6_kind f_X7_kind
  rcases dich a S.2.length with ⟨k, hk, rfl⟩ | hk
  · rw [has_yes hX.1 (by omega) hk, par_yes hM'.1 (by omega) hk, Option.bind_some, Option.bind_some, if_neg i10, if_neg i10, if_pos (ibt (by omega) (by omega)), ncl (by omega)]
    have e0 : f_X7_of 4 (nI k) 0 (st U 0 0 0) = _ := of_eq (w := 0) hM' hk h24 (by omega)
    dsimp only
    rw [e0]
    refine ⟨_, _, rfl, rfl, ?_, inv_t h⟩
    dsimp only
    exact (hX.2.2 k hk).1.trans (hM'.2.2 k hk).1.symm
  · rw [has_no hX.1 (by omega) hk, par_no hM'.1 (by omega) hk, Option.bind_some, Option.bind_some, if_pos rfl, if_pos rfl]
    exact ⟨_, _, rfl, rfl, rfl, inv_t h⟩
/-! own counts -/
def own (S : Sh) (k : Nat) : Nat := cnt S.2 (k + 1) (pg S.2 k).2.1
def lbl (S : Sh) (k : Nat) : Prop := (pg S.2 k).1 ≤ 3
theorem kb4 {t : Nat} (h : t ≤ 24) : kb LX (4 + 5 + 1 + t) 22 = true := List.all_eq_true.mp (show (List.range 25).all (fun t => kb LX (4 + 5 + 1 + t) 22) = true by decide) t (List.mem_range.mpr (by omega))
theorem kb35 {t : Nat} (h : t ≤ 24) : kb LX (35 + 5 + 1 + t) 22 = true := List.all_eq_true.mp (show (List.range 25).all (fun t => kb LX (35 + 5 + 1 + t) 22) = true by decide) t (List.mem_range.mpr (by omega))
def shid (z : Nat) : Prop := z = 4 ∨ z = 35
theorem kbz {z t : Nat} (hz : shid z) (h : t ≤ 24) : kb LX (z + 5 + 1 + t) 22 = true := by
  rcases hz with rfl | rfl
  · exact kb4 h
  · exact kb35 h
theorem own_x {z : Nat} {S : Sh} {V : Mem} (hz : shid z) (hok : okS S) (hS : ShX V z S) (hC : CI V z S.2) {k : Nat} (hk : k < S.2.length) : ∃ V', f_X3_ownCount z (nI k) V = some (nI (own S k), V') ∧ FS z V V' ∧ CI V' z S.2 := by
  have h24 := hok.2.2.1
  obtain ⟨V', e1, e2, e3, e4⟩ := ahead_eq hok hS hC (t := k + 1) (by omega)
  have hp := pg_ok hok.2.2.2 hk
  have hl := hp.2.2.1
  refine ⟨V', ?_, e2, e3⟩
  unfold f_X3_ownCount
  have e0 : nI k + 1 = nI (k + 1) := nI_1 k
  have k2 := ((hS.fs e2).2.2 k hk).2.1
  rw [e0, e1, Option.bind_some]
  dsimp only
  have c1 : (nI k).toNatClampNeg = k := ncl (by omega)
  have c2 : (nI (pg S.2 k).2.1).toNatClampNeg = (pg S.2 k).2.1 := ncl (by omega)
  have i1 : ib (nI k) 24 = true := ibt (by omega) (by omega)
  have i2 : ib (nI (pg S.2 k).2.1) 6 = true := ibt (by omega) (by omega)
  have i3 := kbz hz (show k + 1 ≤ 24 by omega)
  simp only [if_pos i3, if_pos i1, c1, k2, if_pos i2, c2]
  rw [e4 _ (by omega)]
  rfl
theorem lbl_x {z : Nat} {S : Sh} {V : Mem} (hok : okS S) (hS : ShX V z S) {k : Nat} (hk : k < S.2.length) : f_X3_isLabelled z (nI k) V = some (if (pg S.2 k).1 ≤ 3 then 1 else 0, V) := by
  have h24 := hok.2.2.1
  have hp := pg_ok hok.2.2.2 hk
  have h5 := hp.2.1
  have e24 : ib (nI k) 24 = true := ibt (by omega) (by omega)
  unfold f_X3_isLabelled
  rw [if_pos e24, if_pos e24, ncl (by omega), (hS.2.2 k hk).1]
  by_cases h4 : (pg S.2 k).1 = 4
  · rw [if_pos (by rw [h4]; rfl), if_neg (by omega)]
  · rw [if_neg (by rw [li, neq (by omega) (by omega)]; exact h4)]
    by_cases h6 : (pg S.2 k).1 = 5
    · rw [if_pos (by rw [h6]; rfl), if_neg (by omega)]
    · rw [if_neg (by rw [li, neq (by omega) (by omega)]; exact h6), if_pos (by omega)]
theorem lbl_m {r : Nat} {S : Sh} {U : Mem} (hok : okS S) (hS : ShM (U r) S) {k : Nat} (hk : k < S.2.length) : f_X7_isLabelled r (nI k) U = some (if (pg S.2 k).1 ≤ 3 then 1 else 0, U) := by
  have h24 := hok.2.2.1
  have hp := pg_ok hok.2.2.2 hk
  have h5 := hp.2.1
  have e0 : f_X7_of r (nI k) 0 U = _ := of_eq (w := 0) hS hk h24 (by omega)
  have e1 : U r (4 + 3 * k + 0) = nI (pg S.2 k).1 := (hS.2.2 k hk).1
  unfold f_X7_isLabelled
  rw [e0, Option.bind_some, e1]
  by_cases h4 : (pg S.2 k).1 ≤ 3
  · rw [if_neg (by rw [li, nle (by omega) (by omega)]; omega), if_pos h4]
  · rw [if_pos (by rw [li, nle (by omega) (by omega)]; omega), if_neg h4]
theorem own_m {r : Nat} {S : Sh} {U : Mem} (hr : r < 9) (hok : okS S) (hS : ShM (U r) S) {k : Nat} (hk : k < S.2.length) : f_X7_ownOf r (nI k) (mk U S.2 S.2.length) = some (nI (own S k), mk U S.2 S.2.length) := by
  have h24 := hok.2.2.1
  have hp := pg_ok hok.2.2.2 hk
  have hl := hp.2.2.1
  have hS' : ShM (mk U S.2 S.2.length r) S := by rw [mk_id (by omega)]; exact hS
  have e0 : f_X7_of r (nI k) 1 (mk U S.2 S.2.length) = _ := of_eq (w := 1) hS' hk h24 (by omega)
  have e1 : mk U S.2 S.2.length r (4 + 3 * k + 1) = nI (pg S.2 k).2.1 := (hS'.2.2 k hk).2.1
  unfold f_X7_ownOf
  rw [e0, Option.bind_some, e1]
  have e2 : (3 : Int32) * nI k + nI (pg S.2 k).2.1 = nI (3 * k + (pg S.2 k).2.1) := by rw [li, pk_mul, nad]
  dsimp only
  rw [e2, if_pos (ibt (by omega) (by omega)), ncl (by omega), mk_11 hk (by omega)]
  rfl

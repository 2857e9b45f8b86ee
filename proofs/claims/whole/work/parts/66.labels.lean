/-! Labels of paragraphs. -/
def sty (S : Sh) (l : Nat) : Nat := S.1.getD l 0
def lb (S : Sh) (k : Nat) : Nat → Nat → List Nat → List Nat
  | 0, _, L => L
  | d + 1, l, L => lb S k d (l + 1) ((if L = [] then L else L ++ [46]) ++ num (cnt S.2 (k + 1) l) (sty S l))
def lowL (S : Sh) (k f : Nat) : Nat := if (pg S.2 k).2.1 ≤ f then (pg S.2 k).2.1 else f
def lab (S : Sh) (k f : Nat) : List Nat := if (pg S.2 k).1 ≤ 3 then lb S k ((pg S.2 k).2.1 + 1 - lowL S k f) (lowL S k f) [] else []
theorem sty_le {S : Sh} (hok : okS S) {l : Nat} (hl : l < 3) : sty S l ≤ 3 := by
  unfold sty
  rw [List.getD_eq_getElem?_getD, List.getElem?_eq_getElem (by rw [hok.1]; exact hl)]
  exact hok.2.1 _ (List.getElem_mem _)
theorem cnt44 {S : Sh} (hok : okS S) {k : Nat} (hk : k < S.2.length) (l : Nat) : cnt S.2 (k + 1) l ≤ 44 := by
  have := cnt_le hok.2.2.2 (k + 1) (by omega) l
  have := hok.2.2.1
  omega
/-- length of what is written: at most eight signs a level, the first without a point -/
def okL (L : List Nat) (j : Nat) : Prop := (L = [] ∧ j = 0) ∨ (1 ≤ L.length ∧ L.length + 1 ≤ 8 * j)
theorem okL_step {L : List Nat} {j v s : Nat} (h : okL L j) (hv : v ≤ 44) (hs : s ≤ 3) : okL ((if L = [] then L else L ++ [46]) ++ num v s) (j + 1) := by
  have hn := num_len v hv s hs
  right
  rw [List.length_append]
  rcases h with ⟨h1, h2⟩ | ⟨h1, h2⟩
  · rw [if_pos h1, h1]
    simp only [List.length_nil]
    omega
  · have hne : ¬ L = [] := fun e => by rw [e] at h1; simp at h1
    rw [if_neg hne, List.length_append, List.length_singleton]
    omega
theorem lb_x {z r r5 k own : Nat} {S : Sh} {V : Mem} (hok : okS S) (hk : k < S.2.length) (ho : own ≤ 2) (hr : r5 ≠ r ∧ r5 ≠ r + 1 ∧ z + 1 ≠ r ∧ z + 1 ≠ r + 1) (h5 : ∀ x, x < 6 → V r5 x = nI (cnt S.2 (k + 1) x)) (hs : ∀ l, l < 3 → V (z + 1) l = nI (sty S l)) : ∀ (d n l j : Nat) (L : List Nat), l + d = own + 1 → d < n → okL L j → j ≤ l → f_X3_writeLabel_37 z n r (nI own) r5 (nI l) (wx V r L) = some (wx V r (lb S k d l L)) := by
  intro d
  induction d with
  | zero =>
    intro n l j L hl hn hL hj
    obtain ⟨n, rfl⟩ : ∃ n', n = n' + 1 := ⟨n - 1, by omega⟩
    rw [f_X3_writeLabel_37, if_pos (by rw [nlt (by omega) (by omega)]; omega)]
    rfl
  | succ d ih =>
    intro n l j L hl hn hL hj
    obtain ⟨n, rfl⟩ : ∃ n', n = n' + 1 := ⟨n - 1, by omega⟩
    have hc := cnt44 hok hk l
    have hst := sty_le hok (show l < 3 by omega)
    have hnl := num_len _ hc _ hst
    have e1 : nI l + 1 = nI (l + 1) := nI_1 l
    have el : ∀ M : List Nat, wx V r M r 1 = nI M.length := fun M => by unfold wx; rw [st_same]
    have r1 : ∀ M : List Nat, wx V r M r5 l = nI (cnt S.2 (k + 1) l) := fun M => by unfold wx; rw [st_ne1 hr.1, ms_ne hr.2.1]; exact h5 l (by omega)
    have r2 : ∀ M : List Nat, wx V r M (z + 1) l = nI (sty S l) := fun M => by unfold wx; rw [st_ne1 hr.2.2.1, ms_ne hr.2.2.2]; exact hs l (by omega)
    have hstep := okL_step (v := cnt S.2 (k + 1) l) (s := sty S l) hL hc hst
    have body : ∀ M : List Nat, M.length + (num (cnt S.2 (k + 1) l) (sty S l)).length ≤ 23 → f_X3_writeLabel_57 z (f_X3_writeLabel_37 z n) r (nI own) r5 (nI l) (wx V r M) = f_X3_writeLabel_37 z n r (nI own) r5 (nI (l + 1)) (wx V r (M ++ num (cnt S.2 (k + 1) l) (sty S l))) := by
      intro M hM
      rw [f_X3_writeLabel_57, if_pos (ibt (by omega) (by omega)), if_pos (ibt (by omega) (by omega)), ncl (by omega), r1, r2, num_x hc hst hM, Option.bind_some, e1]
    rw [f_X3_writeLabel_37, if_neg (by rw [nlt (by omega) (by omega)]; omega), el, lb]
    rcases hL with ⟨h1, h2⟩ | ⟨h1, h2⟩
    · subst h1
      rw [if_pos (by decide), body [] (by simp only [List.length_nil]; omega)]
      rw [if_pos rfl] at hstep ⊢
      exact ih n (l + 1) (j + 1) _ (by omega) (by omega) hstep (by omega)
    · have hne : ¬ L = [] := fun e => by rw [e] at h1; simp at h1
      have hlen : L.length < 2147483648 := by omega
      rw [if_neg (by rw [li, nle hlen (by omega)]; omega), show (46 : Int32) = nI 46 from rfl, add_x (by omega) (by omega), Option.bind_some, body _ (by rw [List.length_append, List.length_singleton]; omega)]
      rw [if_neg hne] at hstep ⊢
      exact ih n (l + 1) (j + 1) _ (by omega) (by omega) hstep (by omega)
theorem lb_m {r k own low : Nat} {S : Sh} {U : Mem} (hok : okS S) (hk : k < S.2.length) (ho : own ≤ 2) (hr : r ≠ 0 ∧ r ≠ 12) (h11 : ∀ l, l < 3 → U 11 (3 * k + l) = nI (cnt S.2 (k + 1) l)) (hs : ∀ l, l < 3 → U r (1 + l) = nI (sty S l)) : ∀ (d n l j : Nat) (L : List Nat), l + d = own + 1 → d < n → okL L j → l = low + j → f_X7_writeLabel_39 n r (nI k) (nI own) (nI low) (nI l) (wm U L) = some (wm U (lb S k d l L)) := by
  have h24 := hok.2.2.1
  intro d
  induction d with
  | zero =>
    intro n l j L hl hn hL hj
    obtain ⟨n, rfl⟩ : ∃ n', n = n' + 1 := ⟨n - 1, by omega⟩
    rw [f_X7_writeLabel_39, if_pos (by rw [nlt (by omega) (by omega)]; omega)]
    rfl
  | succ d ih =>
    intro n l j L hl hn hL hj
    obtain ⟨n, rfl⟩ : ∃ n', n = n' + 1 := ⟨n - 1, by omega⟩
    have hc := cnt44 hok hk l
    have hst := sty_le hok (show l < 3 by omega)
    have hnl := num_len _ hc _ hst
    have e1 : nI l + 1 = nI (l + 1) := nI_1 l
    have e2 : (3 : Int32) * nI k + nI l = nI (3 * k + l) := by rw [li, pk_mul, nad]
    have e3 : (1 : Int32) + nI l = nI (1 + l) := by rw [li, nad]
    have r1 : ∀ M : List Nat, wm U M 11 (3 * k + l) = nI (cnt S.2 (k + 1) l) := fun M => by unfold wm; rw [st_ne1 (by omega), ms_ne (by omega)]; exact h11 l (by omega)
    have r2 : ∀ M : List Nat, wm U M r (1 + l) = nI (sty S l) := fun M => by unfold wm; rw [st_ne1 hr.1, ms_ne hr.2]; exact hs l (by omega)
    have hstep := okL_step (v := cnt S.2 (k + 1) l) (s := sty S l) hL hc hst
    have body : ∀ M : List Nat, M.length + (num (cnt S.2 (k + 1) l) (sty S l)).length ≤ 40 → f_X7_writeLabel_59 (f_X7_writeLabel_39 n) r (nI k) (nI own) (nI low) (nI l) (wm U M) = f_X7_writeLabel_39 n r (nI k) (nI own) (nI low) (nI (l + 1)) (wm U (M ++ num (cnt S.2 (k + 1) l) (sty S l))) := by
      intro M hM
      rw [f_X7_writeLabel_59, e2, e3, if_pos (ibt (by omega) (by omega)), if_pos (ibt (by omega) (by omega)), ncl (by omega), ncl (by omega), r1, r2, num_m hc hst hM, Option.bind_some, e1]
    rw [f_X7_writeLabel_39, if_neg (by rw [nlt (by omega) (by omega)]; omega), lb]
    rcases hL with ⟨h1, h2⟩ | ⟨h1, h2⟩
    · subst h1
      rw [if_pos (by rw [nle (by omega) (by omega)]; omega), body [] (by simp only [List.length_nil]; omega)]
      rw [if_pos rfl] at hstep ⊢
      exact ih n (l + 1) (j + 1) _ (by omega) (by omega) hstep (by omega)
    · have hne : ¬ L = [] := fun e => by rw [e] at h1; simp at h1
      rw [if_neg (by rw [nle (by omega) (by omega)]; omega), show (46 : Int32) = nI 46 from rfl, add_m (by omega), Option.bind_some, body _ (by rw [List.length_append, List.length_singleton]; omega)]
      rw [if_neg hne] at hstep ⊢
      exact ih n (l + 1) (j + 1) _ (by omega) (by omega) hstep (by omega)
theorem lb_len {S : Sh} (hok : okS S) {k : Nat} (hk : k < S.2.length) : ∀ (d l j : Nat) (L : List Nat), l + d ≤ 3 → okL L j → okL (lb S k d l L) (j + d) := by
  intro d
  induction d with
  | zero => intro l j L _ h; exact h
  | succ d ih =>
    intro l j L hl h
    rw [lb]
    have := ih (l + 1) (j + 1) _ (by omega) (okL_step (v := cnt S.2 (k + 1) l) (s := sty S l) h (cnt44 hok hk l) (sty_le hok (by omega)))
    rw [show j + (d + 1) = j + 1 + d by omega]
    exact this
theorem lab_len {S : Sh} (hok : okS S) {k f : Nat} (hk : k < S.2.length) : (lab S k f).length ≤ 23 ∧ ((pg S.2 k).1 ≤ 3 → 1 ≤ (lab S k f).length) := by
  have hp := pg_ok hok.2.2.2 hk
  have hl := hp.2.2.1
  unfold lab
  by_cases h : (pg S.2 k).1 ≤ 3
  · rw [if_pos h]
    have hlow : lowL S k f ≤ (pg S.2 k).2.1 := by
      unfold lowL
      split <;> omega
    have := lb_len hok hk ((pg S.2 k).2.1 + 1 - lowL S k f) (lowL S k f) 0 [] (by omega) (Or.inl ⟨rfl, rfl⟩)
    rcases this with ⟨h1, h2⟩ | ⟨h1, h2⟩
    · omega
    · exact ⟨by omega, fun _ => h1⟩
  · rw [if_neg h]
    exact ⟨by simp, fun q => absurd q h⟩
/-- behind a label's writing on sheet z into signs r -/
def FL (z r : Nat) (V F : Mem) : Prop := (∀ a, a ≠ z → (a < z + 6 ∨ z + 30 < a) → a ≠ r → a ≠ r + 1 → F a = V a) ∧ (∀ k, k ≠ 6 → F z k = V z k)
def WL (r : Nat) (F : Mem) (L : List Nat) : Prop := F r 1 = nI L.length ∧ ∀ j, j < L.length → F (r + 1) j = nI (L.getD j 0)
theorem wx_WL {V : Mem} {r : Nat} {L : List Nat} : WL r (wx V r L) L := by
  refine ⟨by unfold wx; rw [st_same], fun j hj => ?_⟩
  unfold wx
  rw [st_ne1 (by omega), ms_same]
  unfold lay
  rw [if_pos hj]
theorem lab_x {z r k f : Nat} {S : Sh} {V : Mem} (hz : shid z) (hr : 94 ≤ r) (hok : okS S) (hS : ShX V z S) (hC : CI V z S.2) (hk : k < S.2.length) (hf : f < 2147483648) : ∃ F, f_X3_writeLabel z (nI k) (nI f) r V = some F ∧ FL z r V F ∧ CI F z S.2 ∧ WL r F (lab S k f) := by
  have h24 := hok.2.2.1
  have hz2 : z ≤ 35 := by rcases hz with rfl | rfl <;> omega
  have hp := pg_ok hok.2.2.2 hk
  have hl2 := hp.2.2.1
  have hS0 : ShX (st V r 1 0) z S := hS.cg (by rw [st_ne1 (by omega)]) (fun j q1 q2 => st_id (by omega))
  have hC0 : CI (st V r 1 0) z S.2 := hC.cg h24 (by rw [st_ne1 (by omega)]) (fun j q => st_id (by omega))
  unfold f_X3_writeLabel f_X3_behind
  rw [lbl_x hok hS0 hk, Option.bind_some]
  by_cases hlb : (pg S.2 k).1 ≤ 3
  · rw [if_neg (fun q => ((b01z _).mp q) hlb)]
    obtain ⟨W, a1, a2, a3, a4⟩ := ahead_eq hok hS0 hC0 (t := k + 1) (by omega)
    have e0 : nI k + 1 = nI (k + 1) := nI_1 k
    have k2 : st V r 1 0 (z + 3) k = nI (pg S.2 k).2.1 := (hS0.2.2 k hk).2.1
    have i24 : ib (nI k) 24 = true := ibt (by omega) (by omega)
    have c1 : (nI k).toNatClampNeg = k := ncl (by omega)
    have ikb := kbz hz (show k + 1 ≤ 24 by omega)
    dsimp only
    rw [if_pos i24, e0, a1, Option.bind_some]
    dsimp only
    rw [if_pos ikb, Option.bind_some]
    dsimp only
    rw [if_pos ikb, c1]
    simp only [k2]
    have hlow : (if nI (pg S.2 k).2.1 < nI f then nI (pg S.2 k).2.1 else nI f) = nI (lowL S k f) := by
      unfold lowL
      by_cases q : (pg S.2 k).2.1 ≤ f
      · rw [if_pos q]
        by_cases q2 : (pg S.2 k).2.1 < f
        · rw [if_pos (by rw [nlt (by omega) (by omega)]; exact q2)]
        · rw [if_neg (by rw [nlt (by omega) (by omega)]; exact q2)]
          congr 1
          omega
      · rw [if_neg q, if_neg (by rw [nlt (by omega) (by omega)]; omega)]
    have hlow2 : lowL S k f ≤ (pg S.2 k).2.1 := by
      unfold lowL
      split <;> omega
    rw [hlow]
    have hW : wx W r [] = W := by
      rw [wx_nil]
      have h0 : W r 1 = 0 := by rw [a2.1 r (by omega) (by omega), st_same]
      apply mem_ext
      intro a b
      rw [st_at]
      by_cases q : a = r ∧ b = 1
      · rw [if_pos q, q.1, q.2, h0]
      · rw [if_neg q]
    have hsW : ∀ l, l < 3 → W (z + 1) l = nI (sty S l) := fun l hl => (hS0.fs a2).2.1 l hl
    have e := lb_x (r := r) (V := W) hok hk hl2 ⟨by omega, by omega, by omega, by omega⟩ a4 hsW ((pg S.2 k).2.1 + 1 - lowL S k f) 4096 (lowL S k f) 0 [] (by omega) (by omega) (Or.inl ⟨rfl, rfl⟩) (by omega)
    rw [hW] at e
    refine ⟨_, e, ?_, ?_, ?_⟩
    · refine ⟨fun a q1 q2 q3 q4 => ?_, fun j hj => ?_⟩
      · unfold wx
        rw [st_id q3, ms_id q4, a2.1 a q1 q2, st_id q3]
      · unfold wx
        rw [st_ne1 (by omega), ms_ne (by omega), a2.2 j hj, st_ne1 (by omega)]
    · refine a3.cg h24 ?_ (fun j q => ?_)
      · unfold wx
        rw [st_ne1 (by omega), ms_ne (by omega)]
      · unfold wx
        rw [st_id (by omega), ms_id (by omega)]
    · rw [show lab S k f = lb S k ((pg S.2 k).2.1 + 1 - lowL S k f) (lowL S k f) [] from by unfold lab; exact if_pos hlb]
      exact wx_WL
  · rw [if_pos ((b01z _).mpr hlb)]
    refine ⟨_, rfl, ⟨fun a q1 q2 q3 q4 => ?_, fun j hj => ?_⟩, hC0, ?_⟩
    · dsimp only
      rw [st_id q3]
    · dsimp only
      rw [st_ne1 (by omega)]
    · rw [show lab S k f = [] from by unfold lab; exact if_neg hlb]
      exact ⟨by dsimp only; rw [st_same]; rfl, fun j hj => absurd hj (by simp)⟩
theorem lab_m {r k f : Nat} {S : Sh} {U : Mem} (hr : r ≠ 0 ∧ r < 9) (hok : okS S) (hS : ShM (U r) S) (hk : k < S.2.length) (hf : f < 2147483648) (h11 : ∀ l, l < 3 → U 11 (3 * k + l) = nI (cnt S.2 (k + 1) l)) : f_X7_writeLabel r (nI k) (nI f) U = some (wm U (lab S k f)) := by
  have h24 := hok.2.2.1
  have hp := pg_ok hok.2.2.2 hk
  have hl2 := hp.2.2.1
  have hS0 : ShM (st U 0 23 0 r) S := by rw [st_id hr.1]; exact hS
  have e0 : f_X7_of r (nI k) 1 (st U 0 23 0) = _ := of_eq (w := 1) hS0 hk h24 (by omega)
  have k2 : st U 0 23 0 r (4 + 3 * k + 1) = nI (pg S.2 k).2.1 := (hS0.2.2 k hk).2.1
  unfold f_X7_writeLabel f_X7_writeLabel_33
  rw [lbl_m hok hS0 hk, Option.bind_some]
  by_cases hlb : (pg S.2 k).1 ≤ 3
  · have elb : lab S k f = lb S k ((pg S.2 k).2.1 + 1 - lowL S k f) (lowL S k f) [] := by unfold lab; exact if_pos hlb
    rw [if_neg (fun q => ((b01z _).mp q) hlb), elb]
    dsimp only
    rw [e0, Option.bind_some, k2, ← wm_nil]
    have hlow2 : lowL S k f ≤ (pg S.2 k).2.1 := by
      unfold lowL
      split <;> omega
    have e := lb_m (r := r) (U := U) (low := lowL S k f) hok hk hl2 ⟨hr.1, by omega⟩ h11 hS.2.1 ((pg S.2 k).2.1 + 1 - lowL S k f) 4096 (lowL S k f) 0 [] (by omega) (by omega) (Or.inl ⟨rfl, rfl⟩) (by omega)
    dsimp only
    by_cases q : (pg S.2 k).2.1 ≤ f
    · have el : lowL S k f = (pg S.2 k).2.1 := by unfold lowL; exact if_pos q
      rw [el] at e ⊢
      rw [if_pos (by rw [nle (by omega) (by omega)]; exact q)]
      exact e
    · have el : lowL S k f = f := by unfold lowL; exact if_neg q
      rw [el] at e ⊢
      rw [if_neg (by rw [nle (by omega) (by omega)]; exact q)]
      exact e
  · have elb : lab S k f = [] := by unfold lab; exact if_neg hlb
    rw [if_pos ((b01z _).mpr hlb), elb, wm_nil]

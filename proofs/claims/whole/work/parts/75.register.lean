/-! register. -/
def cmpA (L M : List Nat) : Nat → Nat → Int32
  | 0, _ => nI L.length - nI M.length
  | d + 1, j => if nI (L.getD j 0) = nI (M.getD j 0) then cmpA L M d (j + 1) else nI (L.getD j 0) - nI (M.getD j 0)
def mn (a b : Nat) : Nat := if b < a then b else a
def cmpL (L M : List Nat) : Int32 := cmpA L M (mn L.length M.length) 0
theorem WL.cg {r : Nat} {V V' : Mem} {L : List Nat} (h : WL r V L) (h1 : V' r = V r) (h2 : V' (r + 1) = V (r + 1)) : WL r V' L := by
  unfold WL at h ⊢
  rw [h1, h2]
  exact h
theorem order_loop {z r : Nat} {V : Mem} {L M : List Nat} (hz : WL z V L) (hr : WL r V M) (hL : L.length ≤ 23) (hM : M.length ≤ 23) : ∀ (d n k : Nat), k + d = mn L.length M.length → d < n → f_X4_order_14 z n r (nI (mn L.length M.length)) (nI k) V = some (cmpA L M d k, V) := by
  have hm : mn L.length M.length ≤ L.length ∧ mn L.length M.length ≤ M.length := by unfold mn; split <;> omega
  intro d
  induction d with
  | zero =>
    intro n k hk hn
    obtain ⟨n, rfl⟩ : ∃ n', n = n' + 1 := ⟨n - 1, by omega⟩
    rw [f_X4_order_14, if_pos (by rw [nle (by omega) (by omega)]; omega), hz.1, hr.1]
    rfl
  | succ d ih =>
    intro n k hk hn
    obtain ⟨n, rfl⟩ : ∃ n', n = n' + 1 := ⟨n - 1, by omega⟩
    have e1 : nI k + 1 = nI (k + 1) := nI_1 k
    have i23 : ib (nI k) 23 = true := ibt (by omega) (by omega)
    have ck : (nI k).toNatClampNeg = k := ncl (by omega)
    rw [f_X4_order_14, if_neg (by rw [nle (by omega) (by omega)]; omega), if_pos i23, if_pos i23, if_pos i23, if_pos i23, ck, hz.2 k (by omega), hr.2 k (by omega), e1, ih n (k + 1) (by omega) (by omega), cmpA]
    by_cases c : nI (L.getD k 0) = nI (M.getD k 0)
    · rw [if_pos c, if_pos c]
    · rw [if_neg c, if_neg c]
theorem order_x {z r : Nat} {V : Mem} {L M : List Nat} (hz : WL z V L) (hr : WL r V M) (hL : L.length ≤ 23) (hM : M.length ≤ 23) : f_X4_order z r V = some (cmpL L M, V) := by
  have hm : mn L.length M.length ≤ L.length := by unfold mn; split <;> omega
  unfold f_X4_order
  have e : (if V r 1 < V z 1 then V r 1 else V z 1) = nI (mn L.length M.length) := by
    rw [hz.1, hr.1]
    unfold mn
    exact minI (by omega) (by omega)
  rw [e]
  exact order_loop hz hr hL hM (mn L.length M.length) 4096 0 (by omega) (by omega)
/-- the label that is written, the one that is held -/
def WS (U : Mem) (L : List Nat) : Prop := U 0 23 = nI L.length ∧ ∀ j, j < L.length → U 12 j = nI (L.getD j 0)
def WH (U : Mem) (L : List Nat) : Prop := U 0 25 = nI L.length ∧ ∀ j, j < L.length → U 13 j = nI (L.getD j 0)
theorem comp_loop {U : Mem} {L M : List Nat} (hz : WS U L) (hr : WH U M) (hL : L.length ≤ 23) (hM : M.length ≤ 23) : ∀ (d n k : Nat), k + d = mn L.length M.length → d < n → f_X7_compared_2 n (nI k) U = some (cmpA L M d k, U) := by
  have hm : (mn L.length M.length = L.length ∨ mn L.length M.length = M.length) ∧ mn L.length M.length ≤ L.length ∧ mn L.length M.length ≤ M.length := by unfold mn; split <;> omega
  intro d
  induction d with
  | zero =>
    intro n k hk hn
    obtain ⟨n, rfl⟩ : ∃ n', n = n' + 1 := ⟨n - 1, by omega⟩
    rw [f_X7_compared_2, f_X7_compared_53, hz.1, hr.1]
    by_cases c : L.length ≤ k
    · rw [if_pos (by rw [nle (by omega) (by omega)]; omega)]
      rfl
    · rw [if_neg (by rw [nle (by omega) (by omega)]; omega), if_pos (by rw [nle (by omega) (by omega)]; omega)]
      rfl
  | succ d ih =>
    intro n k hk hn
    obtain ⟨n, rfl⟩ : ∃ n', n = n' + 1 := ⟨n - 1, by omega⟩
    have e1 : nI k + 1 = nI (k + 1) := nI_1 k
    have i40 : ib (nI k) 40 = true := ibt (by omega) (by omega)
    have ck : (nI k).toNatClampNeg = k := ncl (by omega)
    rw [f_X7_compared_2, hz.1, hr.1, if_neg (by rw [nle (by omega) (by omega)]; omega), if_neg (by rw [nle (by omega) (by omega)]; omega), if_pos i40, if_pos i40, if_pos i40, if_pos i40, ck, hz.2 k (by omega), hr.2 k (by omega), e1, ih n (k + 1) (by omega) (by omega), cmpA]
    by_cases c : nI (L.getD k 0) = nI (M.getD k 0)
    · rw [if_pos c, if_pos c]
    · rw [if_neg c, if_neg c]
theorem comp_m {U : Mem} {L M : List Nat} (hz : WS U L) (hr : WH U M) (hL : L.length ≤ 23) (hM : M.length ≤ 23) : f_X7_compared U = some (cmpL L M, U) := by
  have hm : mn L.length M.length ≤ L.length := by unfold mn; split <;> omega
  unfold f_X7_compared
  exact comp_loop hz hr hL hM (mn L.length M.length) 4096 0 (by omega) (by omega)
theorem hold_loop {U : Mem} {m : Nat} (hm : m ≤ 40) (h : U 0 23 = nI m) : ∀ (d n k : Nat), k + d = m → d < n → f_X7_holdLabel_10 n (nI k) (cp U 12 13 0 0 k) = some (cp U 12 13 0 0 m) := by
  have z : ∀ k, cp U 12 13 0 0 k 0 23 = nI m := fun k => by rw [cp_ne (by omega)]; exact h
  intro d
  induction d with
  | zero =>
    intro n k hk hn
    obtain ⟨n, rfl⟩ : ∃ n', n = n' + 1 := ⟨n - 1, by omega⟩
    have e : k = m := by omega
    subst e
    rw [f_X7_holdLabel_10, z, if_pos (by rw [nle (by omega) (by omega)]; omega)]
  | succ d ih =>
    intro n k hk hn
    obtain ⟨n, rfl⟩ : ∃ n', n = n' + 1 := ⟨n - 1, by omega⟩
    have e1 : nI k + 1 = nI (k + 1) := nI_1 k
    have hs := cp_step (V := U) (s := 12) (d := 13) (sp := 0) (dp := 0) (k := k) (Or.inl (by omega))
    rw [Nat.zero_add] at hs
    rw [f_X7_holdLabel_10, z, if_neg (by rw [nle (by omega) (by omega)]; omega), if_pos (ibt (by omega) (by omega)), if_pos (ibt (by omega) (by omega)), ncl (by omega), e1, hs]
    exact ih n (k + 1) (by omega) (by omega)
theorem hold_m {U : Mem} {L : List Nat} (hL : L.length ≤ 23) (h : WS U L) : ∃ U', f_X7_holdLabel U = some U' ∧ WH U' L ∧ (∀ a, a ≠ 0 → a ≠ 13 → U' a = U a) ∧ ∀ k, k ≠ 25 → U' 0 k = U 0 k := by
  unfold f_X7_holdLabel
  rw [h.1]
  have hl := hold_loop (U := st U 0 25 (nI L.length)) (m := L.length) (by omega) (by rw [st_ne2 (by omega)]; exact h.1) L.length 4096 0 (by omega) (by omega)
  rw [cp_zero] at hl
  refine ⟨_, hl, ⟨?_, fun j hj => ?_⟩, fun a q1 q2 => ?_, fun k q => ?_⟩
  · rw [cp_ne (by omega), st_same]
  · rw [cp_in (by omega), Nat.zero_add, Nat.sub_zero, st_ne1 (by omega)]
    exact h.2 j hj
  · rw [cp_id q2, st_id q1]
  · rw [cp_ne (by omega), st_ne2 q]
theorem wm_WS {M : Mem} {L : List Nat} : WS (wm M L) L := ⟨wm_23, fun _ hj => wm_12 hj⟩
theorem mw_fr {U M M' : Mem} {S : Sh} (h : MW U M S) (h1 : ∀ a, a ≠ 0 → a ≠ 12 → a ≠ 13 → M' a = M a) (h2 : ∀ k, k ≠ 23 → k ≠ 25 → M' 0 k = M 0 k) : MW U M' S := by
  obtain ⟨⟨g1, g2, g3, g4⟩, g5, g6, g7, g8⟩ := h
  exact ⟨⟨fun a q1 q2 q3 q4 => by rw [h1 a q1 (by omega) (by omega)]; exact g1 a q1 q2 q3 q4, by rw [h2 9 (by omega) (by omega)]; exact g2, by rw [h2 11 (by omega) (by omega)]; exact g3, by rw [h2 29 (by omega) (by omega)]; exact g4⟩, by rw [h2 1 (by omega) (by omega)]; exact g5, by rw [h2 18 (by omega) (by omega)]; exact g6, by rw [h1 4 (by omega) (by omega) (by omega)]; exact g7, fun k l hk hl => by rw [h1 11 (by omega) (by omega) (by omega)]; exact g8 k l hk hl⟩
def raF (S : Sh) (p : Nat) : Nat → Nat → Int32 → Int32
  | 0, _, acc => acc
  | d + 1, k, acc => raF S p d (k + 1) (if (pg S.2 k).1 ≤ 3 ∧ (cmpL (lab S k 0) (lab S p 0) < 0 ∨ (cmpL (lab S k 0) (lab S p 0) = 0 ∧ ¬ nI p ≤ nI k)) then acc + 1 else acc)
def rgF (S : Sh) (x : Int32) : Nat → Nat → Int32
  | 0, _ => -1000000
  | d + 1, k => if (pg S.2 k).1 ≤ 3 ∧ raF S k S.2.length 0 0 = x then nI k else rgF S x d (k + 1)
theorem ra_x {S : Sh} {V : Mem} {p : Nat} (hok : okS S) (hX : ShX V 4 S) (hp : p < S.2.length) (hW : ∀ k, k < S.2.length → WL (177 + 2 * k) V (lab S k 0)) : ∀ (d n k : Nat) (acc : Int32), k + d = S.2.length → d < n → f_X6_registeredAhead_4 n (nI p) acc (nI k) V = some (raF S p d k acc, V) := by
  have h24 := hok.2.2.1
  intro d
  induction d with
  | zero =>
    intro n k acc hk hn
    obtain ⟨n, rfl⟩ : ∃ n', n = n' + 1 := ⟨n - 1, by omega⟩
    rw [f_X6_registeredAhead_4, hX.1, if_pos (by rw [nle (by omega) (by omega)]; omega)]
    rfl
  | succ d ih =>
    intro n k acc hk hn
    obtain ⟨n, rfl⟩ : ∃ n', n = n' + 1 := ⟨n - 1, by omega⟩
    have e1 : nI k + 1 = nI (k + 1) := nI_1 k
    have hk2 : k < S.2.length := by omega
    rw [f_X6_registeredAhead_4, hX.1, if_neg (by rw [nle (by omega) (by omega)]; omega), if_pos (ibt (by omega) (by omega)), if_pos (ibt (by omega) (by omega)), ncl (by omega), ncl (by omega), order_x (hW k hk2) (hW p hp) (lab_len hok hk2).1 (lab_len hok hp).1, Option.bind_some]
    dsimp only
    rw [lbl_x hok hX hk2, Option.bind_some]
    unfold f_X6_registeredAhead_58 f_X6_registeredAhead_61
    dsimp only
    rw [e1, ih n (k + 1) acc (by omega) (by omega), ih n (k + 1) (acc + 1) (by omega) (by omega), raF]
    by_cases a : (pg S.2 k).1 ≤ 3
    · rw [if_neg (fun q => ((b01z _).mp q) a)]
      by_cases b : cmpL (lab S k 0) (lab S p 0) < 0
      · rw [if_pos b, if_pos ⟨a, Or.inl b⟩]
      · rw [if_neg b]
        by_cases c : cmpL (lab S k 0) (lab S p 0) = 0
        · rw [if_pos c]
          by_cases f : nI p ≤ nI k
          · rw [if_pos f, if_neg (fun q => q.2.elim b (fun q => q.2 f))]
          · rw [if_neg f, if_pos ⟨a, Or.inr ⟨c, f⟩⟩]
        · rw [if_neg c, if_neg (fun q => q.2.elim b (fun q => c q.1))]
    · rw [if_pos ((b01z _).mpr a), if_neg (fun q => a q.1)]
theorem rg_x {S : Sh} {V : Mem} {x : Int32} (hok : okS S) (hX : ShX V 4 S) (hW : ∀ k, k < S.2.length → WL (177 + 2 * k) V (lab S k 0)) : ∀ (d n k : Nat), k + d = S.2.length → d < n → f_X6_register_56 n x (nI k) V = some (rgF S x d k, V) := by
  have h24 := hok.2.2.1
  intro d
  induction d with
  | zero =>
    intro n k hk hn
    obtain ⟨n, rfl⟩ : ∃ n', n = n' + 1 := ⟨n - 1, by omega⟩
    rw [f_X6_register_56, hX.1, if_pos (by rw [nle (by omega) (by omega)]; omega)]
    rfl
  | succ d ih =>
    intro n k hk hn
    obtain ⟨n, rfl⟩ : ∃ n', n = n' + 1 := ⟨n - 1, by omega⟩
    have e1 : nI k + 1 = nI (k + 1) := nI_1 k
    have hk2 : k < S.2.length := by omega
    rw [f_X6_register_56, hX.1, if_neg (by rw [nle (by omega) (by omega)]; omega), lbl_x hok hX hk2, Option.bind_some]
    unfold f_X6_register_89 f_X6_registeredAhead
    dsimp only
    rw [e1, ih n (k + 1) (by omega) (by omega), rgF]
    by_cases a : (pg S.2 k).1 ≤ 3
    · rw [if_neg (fun q => ((b01z _).mp q) a)]
      have hr : f_X6_registeredAhead_4 4096 (nI k) 0 0 V = _ := ra_x hok hX hk2 hW S.2.length 4096 0 0 (by omega) (by omega)
      rw [hr, Option.bind_some]
      dsimp only
      by_cases b : raF S k S.2.length 0 0 = x
      · rw [if_pos b, if_pos ⟨a, b⟩]
      · rw [if_neg b, if_neg (fun q => b q.2), ih n (k + 1) (by omega) (by omega)]
    · rw [if_pos ((b01z _).mpr a), if_neg (fun q => a q.1)]
theorem rw_x {V0 : Mem} {S : Sh} {x : Int32} (hok : okS S) : ∀ (d n k : Nat) (V : Mem), k + d = S.2.length → d < n → XQ V0 V S → (∀ j, j < k → WL (177 + 2 * j) V (lab S j 0)) → ∃ V', f_X6_register_22 n x (nI k) V = some (rgF S x S.2.length 0, V') ∧ XQ V0 V' S := by
  have h24 := hok.2.2.1
  intro d
  induction d with
  | zero =>
    intro n k V hk hn hx hW
    obtain ⟨n, rfl⟩ : ∃ n', n = n' + 1 := ⟨n - 1, by omega⟩
    have hr : f_X6_register_56 4096 x 0 V = _ := rg_x hok hx.2.2.1 (fun j hj => hW j (by omega)) S.2.length 4096 0 (by omega) (by omega)
    rw [f_X6_register_22, hx.2.2.1.1, if_pos (by rw [nle (by omega) (by omega)]; omega), hr]
    exact ⟨V, rfl, hx⟩
  | succ d ih =>
    intro n k V hk hn hx hW
    obtain ⟨n, rfl⟩ : ∃ n', n = n' + 1 := ⟨n - 1, by omega⟩
    have e1 : nI k + 1 = nI (k + 1) := nI_1 k
    have hk2 : k < S.2.length := by omega
    obtain ⟨F, f1, f2, f3, f4⟩ := lab_x (z := 4) (r := 177 + 2 * k) (f := 0) (Or.inl rfl) (by omega) hok hx.2.2.1 hx.2.2.2.1 hk2 (by omega)
    have f1' : f_X3_writeLabel 4 (nI k) 0 (177 + 2 * k) V = some F := f1
    rw [f_X6_register_22, hx.2.2.1.1, if_neg (by rw [nle (by omega) (by omega)]; omega), if_pos (ibt (by omega) (by omega)), ncl (by omega), f1', Option.bind_some, e1]
    refine ih n (k + 1) F (by omega) (by omega) (xq_lab hx (Or.inr (by omega)) f2 f3) (fun j hj => ?_)
    by_cases c : j = k
    · subst c; exact f4
    · exact (hW j (by omega)).cg (f2.1 _ (by omega) (by omega) (by omega) (by omega)) (f2.1 _ (by omega) (by omega) (by omega) (by omega))
theorem ra_m {U : Mem} {S : Sh} {x : Int32} {p : Nat} {K : Int32 → Int32 → Mem → Option (Int32 × Mem)} (hok : okS S) (hp : p < S.2.length) : ∀ (d n k : Nat) (acc : Int32) (M : Mem), k + d = S.2.length → d < n → MW U M S → WH M (lab S p 0) → ∃ M', f_X7_register_72 K n x (nI p) acc (nI k) M = (if raF S p d k acc = x then some (nI p, M') else f_X7_register_149 K x (nI p) M') ∧ MW U M' S := by
  have h24 := hok.2.2.1
  intro d
  induction d with
  | zero =>
    intro n k acc M hk hn hm hW
    obtain ⟨n, rfl⟩ : ∃ n', n = n' + 1 := ⟨n - 1, by omega⟩
    have e0 : M 4 ((0 : Int32)).toNatClampNeg = nI S.2.length := hm.2.2.2.1.1
    refine ⟨M, ?_, hm⟩
    rw [f_X7_register_72, if_pos ib076, e0, if_pos (by rw [nle (by omega) (by omega)]; omega)]
    rfl
  | succ d ih =>
    intro n k acc M hk hn hm hW
    obtain ⟨n, rfl⟩ : ∃ n', n = n' + 1 := ⟨n - 1, by omega⟩
    have e0 : M 4 ((0 : Int32)).toNatClampNeg = nI S.2.length := hm.2.2.2.1.1
    have e1 : nI k + 1 = nI (k + 1) := nI_1 k
    have hk2 : k < S.2.length := by omega
    rw [f_X7_register_72, if_pos ib076, e0, if_neg (by rw [nle (by omega) (by omega)]; omega), lbl_m hok hm.2.2.2.1 hk2, Option.bind_some]
    unfold f_X7_register_134 f_X7_register_136
    dsimp only
    rw [e1, raF]
    by_cases a : (pg S.2 k).1 ≤ 3
    · rw [if_neg (fun q => ((b01z _).mp q) a)]
      have w : f_X7_writeLabel 4 (nI k) 0 M = some (wm M (lab S k 0)) := lab_m (f := 0) (by omega) hok hm.2.2.2.1 hk2 (by omega) (fun l hl => hm.2.2.2.2 k l hk2 hl)
      have hW' : WH (wm M (lab S k 0)) (lab S p 0) := by
        unfold WH
        rw [wm_0 (by omega), wm_id (by omega) (by omega)]
        exact hW
      rw [w, Option.bind_some, comp_m wm_WS hW' (lab_len hok hk2).1 (lab_len hok hp).1, Option.bind_some, add0]
      dsimp only
      by_cases b : cmpL (lab S k 0) (lab S p 0) < 0
      · rw [if_pos b, if_pos ⟨a, Or.inl b⟩]
        exact ih n (k + 1) (acc + 1) _ (by omega) (by omega) (mw_wm hm) hW'
      · rw [if_neg b]
        by_cases c : cmpL (lab S k 0) (lab S p 0) = 0
        · rw [if_pos c]
          by_cases f : nI p ≤ nI k
          · rw [if_pos f, if_neg (fun q => q.2.elim b (fun q => q.2 f))]
            exact ih n (k + 1) acc _ (by omega) (by omega) (mw_wm hm) hW'
          · rw [if_neg f, if_pos ⟨a, Or.inr ⟨c, f⟩⟩]
            exact ih n (k + 1) (acc + 1) _ (by omega) (by omega) (mw_wm hm) hW'
        · rw [if_neg c, if_neg (fun q => q.2.elim b (fun q => c q.1))]
          exact ih n (k + 1) acc _ (by omega) (by omega) (mw_wm hm) hW'
    · rw [if_pos ((b01z _).mpr a), if_neg (fun q => a q.1)]
      exact ih n (k + 1) acc M (by omega) (by omega) hm hW
theorem rg_m {U : Mem} {S : Sh} {x : Int32} (hok : okS S) : ∀ (d n k : Nat) (M : Mem), k + d = S.2.length → d < n → MW U M S → ∃ M', f_X7_register_32 n x (nI k) M = some (rgF S x d k, M') ∧ MW U M' S := by
  have h24 := hok.2.2.1
  intro d
  induction d with
  | zero =>
    intro n k M hk hn hm
    obtain ⟨n, rfl⟩ : ∃ n', n = n' + 1 := ⟨n - 1, by omega⟩
    have e0 : M 4 ((0 : Int32)).toNatClampNeg = nI S.2.length := hm.2.2.2.1.1
    refine ⟨M, ?_, hm⟩
    rw [f_X7_register_32, if_pos ib076, e0, if_pos (by rw [nle (by omega) (by omega)]; omega)]
    rfl
  | succ d ih =>
    intro n k M hk hn hm
    obtain ⟨n, rfl⟩ : ∃ n', n = n' + 1 := ⟨n - 1, by omega⟩
    have e0 : M 4 ((0 : Int32)).toNatClampNeg = nI S.2.length := hm.2.2.2.1.1
    have e1 : nI k + 1 = nI (k + 1) := nI_1 k
    have hk2 : k < S.2.length := by omega
    rw [f_X7_register_32, if_pos ib076, e0, if_neg (by rw [nle (by omega) (by omega)]; omega), lbl_m hok hm.2.2.2.1 hk2, Option.bind_some, rgF]
    by_cases a : (pg S.2 k).1 ≤ 3
    · rw [if_neg (fun q => ((b01z _).mp q) a)]
      have w : f_X7_writeLabel 4 (nI k) 0 M = some (wm M (lab S k 0)) := lab_m (f := 0) (by omega) hok hm.2.2.2.1 hk2 (by omega) (fun l hl => hm.2.2.2.2 k l hk2 hl)
      obtain ⟨M1, h1, h2, h3, h4⟩ := hold_m (lab_len hok hk2).1 (wm_WS (M := M) (L := lab S k 0))
      have hm1 : MW U M1 S := mw_fr (mw_wm hm) (fun a q1 q2 q3 => h3 a q1 q3) (fun j q1 q2 => h4 j q2)
      dsimp only
      rw [w, Option.bind_some, h1, Option.bind_some]
      obtain ⟨M2, g1, g2⟩ := ra_m (x := x) (K := f_X7_register_32 n) hok hk2 S.2.length 4096 0 0 M1 (by omega) (by omega) hm1 h2
      have g1' : f_X7_register_72 (f_X7_register_32 n) 4096 x (nI k) 0 0 M1 = _ := g1
      rw [g1']
      by_cases b : raF S k S.2.length 0 0 = x
      · rw [if_pos b, if_pos ⟨a, b⟩]
        exact ⟨M2, rfl, g2⟩
      · rw [if_neg b, if_neg (fun q => b q.2), f_X7_register_149, e1]
        exact ih n (k + 1) M2 (by omega) (by omega) g2
    · rw [if_pos ((b01z _).mpr a), if_neg (show ¬ ((pg S.2 k).1 ≤ 3 ∧ raF S k S.2.length 0 0 = x) from fun q => a q.1), f_X7_register_149, e1]
      exact ih n (k + 1) M (by omega) (by omega) hm
theorem s_register : S_register Inv := by
  intro a V U h
  obtain ⟨S, A, hSS⟩ := h.2.2.2.2.1
  obtain ⟨hok, hX, hC, hM, -⟩ := id hSS
  have h24 := hok.2.2.1
  have hM' : ShM (st U 0 0 0 4) S := by rw [st_id (by omega)]; exact hM
  unfold f_X6_register f_X7_register
  rw [none_x hX.1 (by omega), there_m hM'.1 (by omega), Option.bind_some, Option.bind_some]
  by_cases hn : S.2.length = 0
  · rw [if_neg (fun q => ((b01z _).mp q) hn), if_pos ((b01z _).mpr (by omega))]
    exact ⟨_, _, rfl, rfl, rfl, inv_t h⟩
  · rw [if_pos ((b01z _).mpr hn), if_neg (fun q => ((b01z _).mp q) (by omega))]
    by_cases h1 : 0 ≤ a
    · rw [if_pos h1, if_pos h1]
      dsimp only
      obtain ⟨V', x1, x2⟩ := rw_x (x := a) hok S.2.length 4096 0 V (by omega) (by omega) (xq_rf h hSS) (fun j hj => absurd hj (by omega))
      have x1' : f_X6_register_22 4096 a 0 V = _ := x1
      obtain ⟨M', y1, y2⟩ := rg_m (x := a) hok S.2.length 4096 0 _ (by omega) (by omega) (mw_mk hM)
      have y1' : f_X7_register_32 4096 a 0 (mk (st U 0 0 0) S.2 S.2.length) = _ := y1
      rw [x1', countAll_eq (by omega) hM' hok, Option.bind_some, y1']
      exact ⟨_, _, rfl, rfl, rfl, inv_xm h hSS x2 y2⟩
    · rw [if_neg h1, if_neg h1]
      exact ⟨_, _, rfl, rfl, rfl, inv_t h⟩

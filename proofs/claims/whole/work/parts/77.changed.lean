/-! What is foretold: the class's trial, the reference's 'then'; changed. -/
def XT (V0 V : Mem) (S T : Sh) : Prop := XQ V0 V S ∧ ShX V 35 T ∧ CI V 35 T.2
def MV (U M : Mem) (S : Sh) : Prop := QM U M ∧ M 0 1 = U 0 1 ∧ M 0 18 = U 0 18 ∧ ShM (M 4) S
def MT (U M : Mem) (S T : Sh) : Prop := MV U M S ∧ ShM (M 6) T
theorem z0_ci {V : Mem} {P : List Pg} (h : CI V 35 P) : Z0 V := by
  obtain ⟨m, h1, h2, h3⟩ := h
  intro x hx
  exact h3 0 (by omega) x hx
theorem xt_fx {V0 V V' : Mem} {S T T' : Sh} (hok : okS S) (h : XT V0 V S T) (hf : FX 35 V V') (hS : ShX V' 35 T') (hC : CI V' 35 T'.2) : XT V0 V' S T' := by
  obtain ⟨⟨⟨a1, a2⟩, a3, a4, a5, a6⟩, b1, b2⟩ := h
  have fr : ∀ a, a < 35 ∨ 39 < a → V' a = V a := fun a q => hf.1 a (by omega) (by omega) (by omega) (by omega)
  refine ⟨⟨⟨fun a q => by rw [fr a (by omega)]; exact a1 a q, fun k q => by rw [fr 4 (by omega)]; exact a2 k q⟩, by rw [fr 0 (by omega)]; exact a3, a4.cg (by rw [fr 4 (by omega)]) (fun k q1 q2 => fr _ (by omega)), a5.cg hok.2.2.1 (by rw [fr 4 (by omega)]) (fun k q => fr _ (by omega)), z0_ci hC⟩, hS, hC⟩
theorem xt_fs {V0 V V' : Mem} {S T : Sh} (hok : okS S) (h : XT V0 V S T) (hf : FS 35 V V') (hC : CI V' 35 T.2) : XT V0 V' S T := by
  obtain ⟨⟨⟨a1, a2⟩, a3, a4, a5, a6⟩, b1, b2⟩ := h
  have fr : ∀ a, a < 35 ∨ 65 < a → V' a = V a := fun a q => hf.1 a (by omega) (by omega)
  refine ⟨⟨⟨fun a q => by rw [fr a (by omega)]; exact a1 a q, fun k q => by rw [fr 4 (by omega)]; exact a2 k q⟩, by rw [fr 0 (by omega)]; exact a3, a4.cg (by rw [fr 4 (by omega)]) (fun k q1 q2 => fr _ (by omega)), a5.cg hok.2.2.1 (by rw [fr 4 (by omega)]) (fun k q => fr _ (by omega)), z0_ci hC⟩, b1.fs hf, hC⟩
theorem xt_fl {V0 V F : Mem} {S T : Sh} (hok : okS S) (h : XT V0 V S T) (hf : FL 35 94 V F) (hC : CI F 35 T.2) : XT V0 F S T := by
  obtain ⟨⟨⟨a1, a2⟩, a3, a4, a5, a6⟩, b1, b2⟩ := h
  have fr : ∀ a, a < 35 ∨ 65 < a → a ≠ 94 → a ≠ 95 → F a = V a := fun a q q1 q2 => hf.1 a (by omega) (by omega) (by omega) (by omega)
  refine ⟨⟨⟨fun a q => by rw [fr a (by omega) (by omega) (by omega)]; exact a1 a q, fun k q => by rw [fr 4 (by omega) (by omega) (by omega)]; exact a2 k q⟩, by rw [fr 0 (by omega) (by omega) (by omega)]; exact a3, a4.cg (by rw [fr 4 (by omega) (by omega) (by omega)]) (fun k q1 q2 => fr _ (by omega) (by omega) (by omega)), a5.cg hok.2.2.1 (by rw [fr 4 (by omega) (by omega) (by omega)]) (fun k q => fr _ (by omega) (by omega) (by omega)), z0_ci hC⟩, b1.cg (hf.2 4 (by omega)) (fun k q1 q2 => hf.1 _ (by omega) (by omega) (by omega) (by omega)), hC⟩
theorem xt_fl4 {V0 V F : Mem} {S T : Sh} {r : Nat} (hokT : okS T) (h : XT V0 V S T) (hr : r = 94 ∨ 177 ≤ r) (hf : FL 4 r V F) (hC : CI F 4 S.2) : XT V0 F S T := by
  refine ⟨xq_lab h.1 hr hf hC, h.2.1.cg (by rw [hf.1 35 (by omega) (by omega) (by omega) (by omega)]) (fun k q1 q2 => hf.1 _ (by omega) (by omega) (by omega) (by omega)), h.2.2.cg hokT.2.2.1 (by rw [hf.1 35 (by omega) (by omega) (by omega) (by omega)]) (fun k q => hf.1 _ (by omega) (by omega) (by omega) (by omega))⟩
theorem xt_new {V0 V : Mem} {S : Sh} (hok : okS S) (h : XQ V0 V S) : ∃ V', f_X3_become 35 4 V = some V' ∧ XT V0 V' S S := by
  obtain ⟨V', x1, x2, x3, x4, x5⟩ := sbecome_x (V := V) (z := 35) (r := 4) (by omega) hok.2.2.1 h.2.2.1
  refine ⟨V', x1, ?_, x2, ?_⟩
  · obtain ⟨⟨a1, a2⟩, a3, a4, a5, a6⟩ := h
    refine ⟨⟨fun a q => by rw [x4 a (by omega)]; exact a1 a q, fun k q => by rw [x4 4 (by omega)]; exact a2 k q⟩, by rw [x4 0 (by omega)]; exact a3, a4.cg (by rw [x4 4 (by omega)]) (fun k q1 q2 => x4 _ (by omega)), a5.cg hok.2.2.1 (by rw [x4 4 (by omega)]) (fun k q => x4 _ (by omega)), fun x hx => ?_⟩
    rw [x4 41 (by omega)]
    exact a6 x hx
  · refine ⟨0, by omega, x3, fun p hp x hx => ?_⟩
    have e : p = 0 := by omega
    subst e
    show V' 41 x = _
    rw [x4 41 (by omega)]
    exact h.2.2.2.2 x hx
theorem mv_fr {U M M' : Mem} {S : Sh} (h : MV U M S) (h1 : ∀ a, a ≠ 0 → a ≠ 5 → a ≠ 6 → a < 9 ∨ 13 < a → M' a = M a) (h2 : ∀ k, k ≠ 23 → k ≠ 25 → M' 0 k = M 0 k) : MV U M' S := by
  obtain ⟨⟨g1, g2, g3, g4⟩, g5, g6, g7⟩ := h
  exact ⟨⟨fun a q1 q2 q3 q4 => by rw [h1 a q1 q2 q3 q4]; exact g1 a q1 q2 q3 q4, by rw [h2 9 (by omega) (by omega)]; exact g2, by rw [h2 11 (by omega) (by omega)]; exact g3, by rw [h2 29 (by omega) (by omega)]; exact g4⟩, by rw [h2 1 (by omega) (by omega)]; exact g5, by rw [h2 18 (by omega) (by omega)]; exact g6, by rw [h1 4 (by omega) (by omega) (by omega) (by omega)]; exact g7⟩
theorem mt_fr {U M M' : Mem} {S T : Sh} (h : MT U M S T) (h1 : ∀ a, a ≠ 0 → a < 9 ∨ 13 < a → M' a = M a) (h2 : ∀ k, k ≠ 23 → k ≠ 25 → M' 0 k = M 0 k) : MT U M' S T := ⟨mv_fr h.1 (fun a q1 _ _ q4 => h1 a q1 q4) h2, by rw [h1 6 (by omega) (by omega)]; exact h.2⟩
theorem mt_mk {U M : Mem} {S T : Sh} {P : List Pg} {n : Nat} (h : MT U M S T) : MT U (mk M P n) S T := mt_fr h (fun a q1 q2 => mk_id (by omega)) (fun k _ _ => by rw [mk_id (by omega)])
theorem mt_wm {U M : Mem} {S T : Sh} {L : List Nat} (h : MT U M S T) : MT U (wm M L) S T := mt_fr h (fun a q1 q2 => wm_id q1 (by omega)) (fun k q1 _ => wm_0 q1)
theorem mt_ms {U M : Mem} {S T T' : Sh} {g : Nat → Int32} (h : MT U M S T) (hg : ShM g T') : MT U (ms M 6 g) S T' := ⟨mv_fr h.1 (fun a q1 q2 q3 q4 => ms_id q3) (fun k _ _ => ms_ne (by omega)), by rw [ms_eq]; exact hg⟩
theorem mt_lay {U M : Mem} {S : Sh} (h24 : S.2.length ≤ 24) (h : MV U M S) : MT U (cp M 4 6 0 0 76) S S := by
  refine ⟨mv_fr h (fun a q1 q2 q3 q4 => cp_id q3) (fun k _ _ => cp_ne (by omega)), ShM_cg h24 (fun j hj => ?_) h.2.2.2⟩
  rw [cp_in (by omega)]
  exact congrArg (M 4) (by omega)
theorem mv_t {U : Mem} {S : Sh} (h : ShM (U 4) S) : MV U (st U 0 0 0) S := ⟨qm_t, st_ne2 (by omega), st_ne2 (by omega), by rw [st_id (by omega)]; exact h⟩
theorem inv_xt {V U V' U' : Mem} {S T T' : Sh} {A : List Act} (h : Inv V U) (hSS : SS V U S A) (hx : XT V V' S T) (hm : MT U U' S T') : Inv V' U' := inv_xv h hSS hx.1 hm.1.1 hm.1.2.1 hm.1.2.2.1
theorem sub0 {x y : Int32} : x - y = 0 ↔ x = y := by
  constructor
  · intro h
    have e : x - y + y = 0 + y := by rw [h]
    rw [Int32.sub_add_cancel, Int32.zero_add] at e
    exact e
  · intro h
    rw [h]
    exact Int32.sub_self y
theorem cmpA_z {L M : List Nat} : ∀ (d j : Nat), (cmpA L M d j = 0) ↔ (cmpA M L d j = 0) := by
  intro d
  induction d with
  | zero =>
    intro j
    unfold cmpA
    rw [sub0, sub0]
    exact eq_comm
  | succ d ih =>
    intro j
    unfold cmpA
    by_cases c : nI (L.getD j 0) = nI (M.getD j 0)
    · rw [if_pos c, if_pos c.symm]
      exact ih (j + 1)
    · rw [if_neg c, if_neg (fun q => c q.symm), sub0, sub0]
      exact eq_comm
theorem cmpL_z {L M : List Nat} : (cmpL L M = 0) ↔ (cmpL M L = 0) := by
  have e : mn L.length M.length = mn M.length L.length := by
    unfold mn
    by_cases c : M.length < L.length
    · rw [if_pos c, if_neg (by omega)]
    · rw [if_neg c]
      by_cases c2 : L.length < M.length
      · rw [if_pos c2]
      · rw [if_neg c2]; omega
  unfold cmpL
  rw [e]
  exact cmpA_z _ _
def qn (p q : Nat) : Nat := if q < p then q else q + 1
def chF (S T : Sh) (p : Nat) : Nat → Nat → Int32 → Int32
  | 0, _, acc => acc
  | d + 1, q, acc => chF S T p d (q + 1) (if cmpL (lab S (qn p q) 0) (lab T q 0) = 0 then acc else acc + 1)
theorem ch_x {V0 : Mem} {S T : Sh} {p : Nat} (hok : okS S) (hokT : okS T) (hT : T.2.length + 1 = S.2.length) (hp : p < S.2.length) : ∀ (d n q : Nat) (acc : Int32) (V : Mem), q + d = T.2.length → d < n → XT V0 V S T → ∃ V', f_X6_changed_51 n (nI p) acc (nI q) V = some (chF S T p d q acc, V') ∧ XT V0 V' S T := by
  have h24 := hok.2.2.1
  intro d
  induction d with
  | zero =>
    intro n q acc V hq hn hx
    obtain ⟨n, rfl⟩ : ∃ n', n = n' + 1 := ⟨n - 1, by omega⟩
    rw [f_X6_changed_51, hx.2.1.1, if_pos (by rw [nle (by omega) (by omega)]; omega)]
    exact ⟨V, rfl, hx⟩
  | succ d ih =>
    intro n q acc V hq hn hx
    obtain ⟨n, rfl⟩ : ∃ n', n = n' + 1 := ⟨n - 1, by omega⟩
    have e1 : nI q + 1 = nI (q + 1) := nI_1 q
    have hq2 : q < T.2.length := by omega
    have hqn : qn p q < S.2.length := by unfold qn; split <;> omega
    have es : (if nI p ≤ nI q then f_X6_changed_78_c4 (f_X6_changed_51 n) (nI p) acc (nI q) (nI q + 1) V else f_X6_changed_78_c4 (f_X6_changed_51 n) (nI p) acc (nI q) (nI q) V) = f_X6_changed_78_c4 (f_X6_changed_51 n) (nI p) acc (nI q) (nI (qn p q)) V := by
      unfold qn
      by_cases c : q < p
      · rw [if_neg (by rw [nle (by omega) (by omega)]; omega), if_pos c]
      · rw [if_pos (by rw [nle (by omega) (by omega)]; omega), if_neg c, e1]
    obtain ⟨F, f1, f2, f3, f4⟩ := lab_x (z := 4) (r := 177 + 2 * q) (f := 0) (Or.inl rfl) (by omega) hok hx.1.2.2.1 hx.1.2.2.2.1 hqn (by omega)
    have f1' : f_X3_writeLabel 4 (nI (qn p q)) 0 (177 + 2 * q) V = some F := f1
    have hxF := xt_fl4 hokT hx (Or.inr (by omega)) f2 f3
    obtain ⟨G, g1, g2, g3, g4⟩ := lab_x (z := 35) (r := 94) (f := 0) (Or.inr rfl) (by omega) hokT hxF.2.1 hxF.2.2 hq2 (by omega)
    have g1' : f_X3_writeLabel 35 (nI q) 0 94 F = some G := g1
    have hxG := xt_fl hok hxF g2 g3
    have f4' : WL (177 + 2 * q) G (lab S (qn p q) 0) := f4.cg (g2.1 _ (by omega) (by omega) (by omega) (by omega)) (g2.1 _ (by omega) (by omega) (by omega) (by omega))
    have i24 : ib (nI q) 24 = true := ibt (by omega) (by omega)
    have cq : (nI q).toNatClampNeg = q := ncl (by omega)
    rw [f_X6_changed_51, hx.2.1.1, if_neg (by rw [nle (by omega) (by omega)]; omega), es, f_X6_changed_78_c4, if_pos i24, cq, f1', Option.bind_some, g1', Option.bind_some, if_pos i24, order_x f4' g4 (lab_len hok hqn).1 (lab_len hokT hq2).1, Option.bind_some, f_X6_changed_120, f_X6_changed_120, e1, chF]
    by_cases c : cmpL (lab S (qn p q) 0) (lab T q 0) = 0
    · rw [if_pos c, if_pos c]
      exact ih n (q + 1) acc G (by omega) (by omega) hxG
    · rw [if_neg c, if_neg c]
      exact ih n (q + 1) (acc + 1) G (by omega) (by omega) hxG
theorem other_m {U M : Mem} {S T : Sh} {p q : Nat} (hok : okS S) (hokT : okS T) (hT : T.2.length + 1 = S.2.length) (hp : p < S.2.length) (hq : q < T.2.length) (hm : MT U M S T) : ∃ M', f_X7_isOther (nI (qn p q)) (nI p) M = some (if cmpL (lab S (qn p q) 0) (lab T q 0) = 0 then 0 else 1, M') ∧ MT U M' S T := by
  have h24 := hok.2.2.1
  have hqn : qn p q < S.2.length := by unfold qn; split <;> omega
  have h4 : ShM (M 4) S := hm.1.2.2.2
  have hA : MT U (mk M S.2 S.2.length) S T := mt_mk hm
  have w1 : f_X7_writeLabel 4 (nI (qn p q)) 0 (mk M S.2 S.2.length) = some (wm (mk M S.2 S.2.length) (lab S (qn p q) 0)) := lab_m (f := 0) (by omega) hok hA.1.2.2.2 hqn (by omega) (fun l hl => mk_11 hqn hl)
  have hB : MT U (wm (mk M S.2 S.2.length) (lab S (qn p q) 0)) S T := mt_wm hA
  obtain ⟨M1, h1, h2, h3, h5⟩ := hold_m (lab_len hok hqn).1 (wm_WS (M := mk M S.2 S.2.length) (L := lab S (qn p q) 0))
  have hC : MT U M1 S T := mt_fr hB (fun a q1 q2 => h3 a q1 (by omega)) (fun k q1 q2 => h5 k q2)
  have hD : MT U (mk M1 T.2 T.2.length) S T := mt_mk hC
  have w2 : f_X7_writeLabel 6 (nI q) 0 (mk M1 T.2 T.2.length) = some (wm (mk M1 T.2 T.2.length) (lab T q 0)) := lab_m (f := 0) (by omega) hokT hD.2 hq (by omega) (fun l hl => mk_11 hq hl)
  have hE : MT U (wm (mk M1 T.2 T.2.length) (lab T q 0)) S T := mt_wm hD
  have hW : WH (wm (mk M1 T.2 T.2.length) (lab T q 0)) (lab S (qn p q) 0) := by
    unfold WH
    rw [wm_0 (by omega), wm_id (by omega) (by omega), mk_id (by omega), mk_id (by omega)]
    exact h2
  have es : (if nI p ≤ nI (qn p q) then f_X7_isOther_47_c0_c6 (nI (qn p q) - 1) (mk M1 T.2 T.2.length) else f_X7_isOther_47_c0_c6 (nI (qn p q)) (mk M1 T.2 T.2.length)) = f_X7_isOther_47_c0_c6 (nI q) (mk M1 T.2 T.2.length) := by
    unfold qn
    by_cases c : q < p
    · rw [if_pos c, if_neg (by rw [nle (by omega) (by omega)]; omega)]
    · rw [if_neg c, if_pos (by rw [nle (by omega) (by omega)]; omega), show nI (q + 1) - 1 = nI q from nsb (a := q + 1) (b := 1) (by omega)]
  unfold f_X7_isOther
  rw [countAll_eq (by omega) h4 hok, Option.bind_some, w1, Option.bind_some, h1, Option.bind_some, countAll_eq (by omega) hC.2 hokT, Option.bind_some, es, f_X7_isOther_47_c0_c6, w2, Option.bind_some, comp_m wm_WS hW (lab_len hokT hq).1 (lab_len hok hqn).1, Option.bind_some]
  refine ⟨_, ?_, hE⟩
  dsimp only
  by_cases c : cmpL (lab S (qn p q) 0) (lab T q 0) = 0
  · rw [if_pos (cmpL_z.mp c), if_pos c]
  · rw [if_neg (fun e => c (cmpL_z.mp e)), if_neg c]
def qq (p k : Nat) : Nat := if k ≤ p then k else k - 1
theorem ch_m {U : Mem} {S T : Sh} {p : Nat} (hok : okS S) (hokT : okS T) (hT : T.2.length + 1 = S.2.length) (hp : p < S.2.length) : ∀ (d n k : Nat) (acc : Int32) (M : Mem), k + d = S.2.length → d < n → MT U M S T → ∃ M', f_X7_changed_45 n (nI p) acc (nI k) M = some (chF S T p (T.2.length - qq p k) (qq p k) acc, M') ∧ MT U M' S T := by
  have h24 := hok.2.2.1
  intro d
  induction d with
  | zero =>
    intro n k acc M hk hn hm
    obtain ⟨n, rfl⟩ : ∃ n', n = n' + 1 := ⟨n - 1, by omega⟩
    have e0 : M 4 ((0 : Int32)).toNatClampNeg = nI S.2.length := hm.1.2.2.2.1
    have e2 : T.2.length - qq p k = 0 := by unfold qq; rw [if_neg (by omega)]; omega
    rw [f_X7_changed_45, if_pos ib076, e0, if_pos (by rw [nle (by omega) (by omega)]; omega), e2]
    exact ⟨M, rfl, hm⟩
  | succ d ih =>
    intro n k acc M hk hn hm
    obtain ⟨n, rfl⟩ : ∃ n', n = n' + 1 := ⟨n - 1, by omega⟩
    have e0 : M 4 ((0 : Int32)).toNatClampNeg = nI S.2.length := hm.1.2.2.2.1
    have e1 : nI k + 1 = nI (k + 1) := nI_1 k
    rw [f_X7_changed_45, if_pos ib076, e0, if_neg (by rw [nle (by omega) (by omega)]; omega)]
    unfold f_X7_changed_75
    rw [e1, add0]
    by_cases c : k = p
    · subst c
      have e3 : qq k (k + 1) = qq k k := by unfold qq; rw [if_neg (by omega), if_pos (by omega)]; omega
      rw [if_pos rfl, ← e3]
      exact ih n (k + 1) acc M (by omega) (by omega) hm
    · rw [if_neg (by rw [neq (by omega) (by omega)]; exact c)]
      have e3 : qn p (qq p k) = k := by
        unfold qn qq
        by_cases c2 : k ≤ p
        · rw [if_pos c2, if_pos (by omega)]
        · rw [if_neg c2, if_neg (by omega)]; omega
      have e4 : qq p (k + 1) = qq p k + 1 := by
        unfold qq
        by_cases c2 : k ≤ p
        · rw [if_pos c2, if_pos (by omega)]
        · rw [if_neg c2, if_neg (by omega)]; omega
      have e5 : qq p k < T.2.length := by unfold qq; split <;> omega
      obtain ⟨M1, o1, o2⟩ := other_m hok hokT hT hp e5 hm
      rw [e3] at o1
      by_cases c3 : cmpL (lab S k 0) (lab T (qq p k) 0) = 0
      · rw [if_pos c3] at o1
        rw [o1, Option.bind_some, if_pos rfl, show T.2.length - qq p k = (T.2.length - qq p (k + 1)) + 1 by omega, chF, e3, ← e4, if_pos c3]
        exact ih n (k + 1) acc M1 (by omega) (by omega) o2
      · rw [if_neg c3] at o1
        rw [o1, Option.bind_some, if_neg i10, show T.2.length - qq p k = (T.2.length - qq p (k + 1)) + 1 by omega, chF, e3, ← e4, if_neg c3]
        exact ih n (k + 1) (acc + 1) M1 (by omega) (by omega) o2
theorem s_changed : S_changed Inv := by
  intro a V U h
  obtain ⟨S, A, hSS⟩ := h.2.2.2.2.1
  obtain ⟨hok, hX, hC, hM, -⟩ := id hSS
  have h24 := hok.2.2.1
  have hM' : ShM (st U 0 0 0 4) S := by rw [st_id (by omega)]; exact hM
  have e0 : st U 0 0 0 4 ((0 : Int32)).toNatClampNeg = nI S.2.length := hM'.1
  unfold f_X6_changed f_X7_changed
  rcases dich a S.2.length with ⟨p, hp, rfl⟩ | hk
  · rw [has_yes hX.1 (by omega) hp, par_yes hM'.1 (by omega) hp, Option.bind_some, Option.bind_some, if_neg i10, if_neg i10, if_pos ib076]
    simp only [hX.1, e0]
    by_cases hf : S.2.length = 1
    · rw [if_pos (by rw [hf]; rfl), if_pos (by rw [hf]; rfl)]
      exact ⟨_, _, rfl, rfl, rfl, inv_t h⟩
    · rw [if_neg (by rw [li, neq (by omega) (by omega)]; exact hf), if_neg (by rw [li, neq (by omega) (by omega)]; exact hf)]
      have hlen : (rmvS S p).2.length = S.2.length - 1 := len_rmv hp
      obtain ⟨V1, x1, x2⟩ := xt_new hok (xq_rf h hSS)
      obtain ⟨m, hm⟩ := x2.2.2
      obtain ⟨V2, y1, y2, y3, y4⟩ := rmv_x hok x2.2.1 hm hp
      have hokT := ok_rmv hok hp
      obtain ⟨V3, z1, z2⟩ := ch_x (V0 := V) hok hokT (by omega) hp (rmvS S p).2.length 4096 0 0 V2 (by omega) (by omega) (xt_fx hok x2 y4 y2 y3)
      have z1' : f_X6_changed_51 4096 (nI p) 0 0 V2 = _ := z1
      have hl := mt_lay h24 (mv_t hM)
      obtain ⟨g, t1, t2⟩ := takeOut_m (U := cp (st U 0 0 0) 4 6 0 0 76) (r := 6) hl.2 h24 hp
      obtain ⟨M3, u1, u2⟩ := ch_m (U := U) hok hokT (by omega) hp S.2.length 4096 0 0 _ (by omega) (by omega) (mt_ms hl t2)
      have u1' : f_X7_changed_45 4096 (nI p) 0 0 (ms (cp (st U 0 0 0) 4 6 0 0 76) 6 g) = _ := u1
      rw [x1, Option.bind_some, y1, Option.bind_some, z1', layThen_m, Option.bind_some, t1, Option.bind_some, u1']
      refine ⟨_, _, rfl, rfl, ?_, inv_xt h hSS z2 u2⟩
      have e6 : qq p 0 = 0 := by unfold qq; rw [if_pos (by omega)]
      dsimp only
      rw [e6, Nat.sub_zero]
  · rw [has_no hX.1 (by omega) hk, par_no hM'.1 (by omega) hk, Option.bind_some, Option.bind_some, if_pos rfl, if_pos rfl]
    exact ⟨_, _, rfl, rfl, rfl, inv_t h⟩

/-! who. -/
def qv (S : Sh) (p w v : Nat) : Pg := if w = 0 then (v, (pg S.2 p).2.1, (pg S.2 p).2.2) else if w = 1 then ((pg S.2 p).1, v, (pg S.2 p).2.2) else ((pg S.2 p).1, (pg S.2 p).2.1, v)
def tb (T : Sh) (g : Nat → Int32) : Nat → Nat → Bool
  | 0, _ => true
  | d + 1, k => if g k = (if (pg T.2 k).1 ≤ 3 then nI (own T k) else 0) then tb T g d (k + 1) else false
theorem set_set2 {S : Sh} {p : Nat} {q q' : Pg} : setS (setS S p q') p q = setS S p q := by
  unfold setS
  refine Prod.ext rfl ?_
  dsimp only
  rw [List.set_set]
theorem tb_x {V0 : Mem} {S T : Sh} {r i n : Nat} {g : Nat → Int32} (hok : okS S) (hokT : okS T) (hr : 99 ≤ r ∧ r < 114) (hi : i + n ≤ 40) (hn : n ≤ T.2.length) (hg : ∀ j, j < n → V0 (r + 1) (i + j) = g j) : ∀ (d m k : Nat) (V : Mem), k + d = n → d < m → XT V0 V S T → ∃ V', f_X3_isToldBy_3 35 m r (nI i) (nI n) (nI k) V = some (if tb T g d k = true then 1 else 0, V') ∧ XT V0 V' S T := by
  have h24 := hokT.2.2.1
  intro d
  induction d with
  | zero =>
    intro m k V hk hm hx
    obtain ⟨m, rfl⟩ : ∃ n', m = n' + 1 := ⟨m - 1, by omega⟩
    rw [f_X3_isToldBy_3, if_pos (by rw [nle (by omega) (by omega)]; omega)]
    exact ⟨V, rfl, hx⟩
  | succ d ih =>
    intro m k V hk hm hx
    obtain ⟨m, rfl⟩ : ∃ n', m = n' + 1 := ⟨m - 1, by omega⟩
    have e1 : nI k + 1 = nI (k + 1) := nI_1 k
    have hk2 : k < T.2.length := by omega
    rw [f_X3_isToldBy_3, if_neg (by rw [nle (by omega) (by omega)]; omega), lbl_x hokT hx.2.1 hk2, Option.bind_some]
    unfold f_X3_isToldBy_28
    rw [nad, if_pos (ibt (show i + k < 40 by omega) (by omega)), ncl (show i + k < _ by omega), e1, tb]
    by_cases c : (pg T.2 k).1 ≤ 3
    · obtain ⟨V1, o1, o2, o3⟩ := own_x (Or.inr rfl) hokT hx.2.1 hx.2.2 hk2
      have hx1 := xt_fs hok hx o2 o3
      have hgV : V1 (r + 1) (i + k) = g k := by rw [hx1.1.1.1 (r + 1) (by omega)]; exact hg k (by omega)
      rw [if_neg (fun q => ((b01z _).mp q) c)]
      dsimp only
      rw [o1, Option.bind_some, if_pos c, if_pos (ibt (show i + k < 40 by omega) (by omega))]
      dsimp only
      simp only [hgV]
      by_cases f : g k = nI (own T k)
      · rw [if_pos f, if_pos f]
        exact ih m (k + 1) V1 (by omega) (by omega) hx1
      · rw [if_neg f, if_neg f]
        exact ⟨V1, rfl, hx1⟩
    · have hgV : V (r + 1) (i + k) = g k := by rw [hx.1.1.1 (r + 1) (by omega)]; exact hg k (by omega)
      rw [if_pos ((b01z _).mpr c)]
      dsimp only
      simp only [if_neg c, hgV]
      by_cases f : g k = 0
      · rw [if_pos f, if_pos f]
        exact ih m (k + 1) V (by omega) (by omega) hx
      · rw [if_neg f, if_neg f]
        exact ⟨V, rfl, hx⟩
theorem tb_no {T : Sh} {a n : Nat} : ∀ (d m k : Nat) (M : Mem), k + d = n → d < m → n < 2147483648 → f_X7_isCountedSo_13 m (nI a) (nI n) 0 (nI k) M = some (0, M) := by
  intro d
  induction d with
  | zero =>
    intro m k M hk hm hn
    obtain ⟨m, rfl⟩ : ∃ n', m = n' + 1 := ⟨m - 1, by omega⟩
    rw [f_X7_isCountedSo_13, if_pos (by rw [nle (by omega) (by omega)]; omega), if_pos (by decide)]
  | succ d ih =>
    intro m k M hk hm hn
    obtain ⟨m, rfl⟩ : ∃ n', m = n' + 1 := ⟨m - 1, by omega⟩
    have e1 : nI k + 1 = nI (k + 1) := nI_1 k
    rw [f_X7_isCountedSo_13, if_neg (by rw [nle (by omega) (by omega)]; omega), if_pos rfl, f_X7_isCountedSo_66, e1]
    exact ih m (k + 1) M (by omega) (by omega) hn
theorem tb_m {M : Mem} {T : Sh} {a n : Nat} {g : Nat → Int32} (hokT : okS T) (hT : ShM (M 6) T) (ha : a + n ≤ 320) (hn : n ≤ T.2.length) (hg : ∀ j, j < n → M 3 (a + j) = g j) : ∀ (d m k : Nat), k + d = n → d < m → f_X7_isCountedSo_13 m (nI a) (nI n) 1 (nI k) (mk M T.2 T.2.length) = some (if tb T g d k = true then 1 else 0, mk M T.2 T.2.length) := by
  have h24 := hokT.2.2.1
  have hT' : ShM (mk M T.2 T.2.length 6) T := by rw [mk_id (by omega)]; exact hT
  intro d
  induction d with
  | zero =>
    intro m k hk hm
    obtain ⟨m, rfl⟩ : ∃ n', m = n' + 1 := ⟨m - 1, by omega⟩
    rw [f_X7_isCountedSo_13, if_pos (by rw [nle (by omega) (by omega)]; omega), if_pos (by decide)]
    rfl
  | succ d ih =>
    intro m k hk hm
    obtain ⟨m, rfl⟩ : ∃ n', m = n' + 1 := ⟨m - 1, by omega⟩
    have e1 : nI k + 1 = nI (k + 1) := nI_1 k
    have hk2 : k < T.2.length := by omega
    have hgM : mk M T.2 T.2.length 3 (a + k) = g k := by rw [mk_id (by omega)]; exact hg k (by omega)
    rw [f_X7_isCountedSo_13, if_neg (by rw [nle (by omega) (by omega)]; omega), if_neg (by decide), lbl_m hokT hT' hk2, Option.bind_some]
    unfold f_X7_isCountedSo_49 f_X7_isCountedSo_66
    rw [nad, e1, tb]
    by_cases c : (pg T.2 k).1 ≤ 3
    · rw [if_neg (fun q => ((b01z _).mp q) c)]
      dsimp only
      rw [own_m (r := 6) (by omega) hokT hT hk2, Option.bind_some, if_pos c, if_pos (ibt (show a + k < 320 by omega) (by omega)), ncl (show a + k < _ by omega)]
      dsimp only
      simp only [hgM]
      by_cases f : g k = nI (own T k)
      · rw [if_pos f.symm, if_pos f]
        exact ih m (k + 1) (by omega) (by omega)
      · rw [if_neg (fun q => f q.symm), if_neg f]
        exact tb_no (T := T) d m (k + 1) _ (by omega) (by omega) (by omega)
    · rw [if_pos ((b01z _).mpr c)]
      dsimp only
      rw [if_pos (ibt (show a + k < 320 by omega) (by omega)), ncl (show a + k < _ by omega)]
      simp only [if_neg c, hgM]
      by_cases f : g k = 0
      · rw [if_pos f.symm, if_pos f]
        exact ih m (k + 1) (by omega) (by omega)
      · rw [if_neg (fun q => f q.symm), if_neg f]
        exact tb_no (T := T) d m (k + 1) _ (by omega) (by omega) (by omega)
def whF (S : Sh) (p w n : Nat) (g : Nat → Int32) : Nat → Nat → Int32 → Int32
  | 0, _, acc => acc
  | d + 1, v, acc => whF S p w n g d (v + 1) (if tb (setS S p (qv S p w v)) g n 0 = true then acc ||| ((1 : Int32) <<< (nI v &&& 31)) else acc)
def lo (w : Nat) : Nat := if w = 0 then 1 else 0
def hi (w : Nat) : Nat := if w = 0 then 5 else if w = 1 then 2 else 20
theorem qv_ok {S : Sh} {p w v : Nat} (hok : okS S) (hp : p < S.2.length) (h1 : lo w ≤ v) (h2 : v ≤ hi w) : okP (qv S p w v) := by
  have hq := pg_ok hok.2.2.2 hp
  unfold lo at h1
  unfold hi at h2
  unfold qv
  by_cases c0 : w = 0
  · rw [if_pos c0] at h1 h2 ⊢
    exact ⟨h1, h2, hq.2.2.1, hq.2.2.2⟩
  · rw [if_neg c0] at h1 h2 ⊢
    by_cases c1 : w = 1
    · rw [if_pos c1] at h2 ⊢
      exact ⟨hq.1, hq.2.1, h2, hq.2.2.2⟩
    · rw [if_neg c1] at h2 ⊢
      exact ⟨hq.1, hq.2.1, hq.2.2.1, h2⟩
theorem wh_x {V0 : Mem} {S : Sh} {p w r i n : Nat} {g : Nat → Int32} (hok : okS S) (hp : p < S.2.length) (hw : w ≤ 2) (hr : 99 ≤ r ∧ r < 114) (hi' : i + n ≤ 40) (hn : n ≤ S.2.length) (hg : ∀ j, j < n → V0 (r + 1) (i + j) = g j) : ∀ (d m v : Nat) (acc : Int32) (V : Mem) (q : Pg), v + d = hi w + 1 → d < m → lo w ≤ v → okP q → XT V0 V S (setS S p q) → ∃ V' q', f_X6_who_160 m (nI p) (nI w) (nI i) (nI n) r (nI (pg S.2 p).1) (nI (pg S.2 p).2.1) (nI (pg S.2 p).2.2) (nI (hi w)) acc (nI v) V = some (whF S p w n g d v acc, st V' 0 12 0) ∧ XT V0 V' S (setS S p q') := by
  have h24 := hok.2.2.1
  have h20 : hi w ≤ 20 := by unfold hi; split <;> (try split) <;> omega
  intro d
  induction d with
  | zero =>
    intro m v acc V q hv hm hl hq hx
    obtain ⟨m, rfl⟩ : ∃ n', m = n' + 1 := ⟨m - 1, by omega⟩
    rw [f_X6_who_160, if_pos (by rw [nlt (by omega) (by omega)]; omega)]
    exact ⟨V, q, rfl, hx⟩
  | succ d ih =>
    intro m v acc V q hv hm hl hq hx
    obtain ⟨m, rfl⟩ : ∃ n', m = n' + 1 := ⟨m - 1, by omega⟩
    have e1 : nI v + 1 = nI (v + 1) := nI_1 v
    have hqv := qv_ok hok hp hl (show v ≤ hi w by omega)
    have hokq := ok_set (k := p) hok hq
    have hlq : (setS S p q).2.length = S.2.length := List.length_set
    obtain ⟨mm, hmm⟩ := hx.2.2
    obtain ⟨V1, x1, x2, x3, x4⟩ := alt_x (p := p) (q := qv S p w v) hokq hx.2.1 hmm (by omega)
    have hx1 := xt_fx hok hx x4 x2 x3
    rw [set_set2] at hx1
    have hokv := ok_set (k := p) hok hqv
    have hlv : (setS S p (qv S p w v)).2.length = S.2.length := List.length_set
    obtain ⟨V2, y1, y2⟩ := tb_x hok hokv hr hi' (by omega) hg n 4096 0 V1 (by omega) (by omega) hx1
    have y1' : f_X3_isToldBy_3 35 4096 r (nI i) (nI n) 0 V1 = _ := y1
    have ea : f_X6_who_160 (m + 1) (nI p) (nI w) (nI i) (nI n) r (nI (pg S.2 p).1) (nI (pg S.2 p).2.1) (nI (pg S.2 p).2.2) (nI (hi w)) acc (nI v) V = f_X6_who_207_c35 (f_X6_who_160 m) (nI p) (nI w) (nI i) (nI n) r (nI (pg S.2 p).1) (nI (pg S.2 p).2.1) (nI (pg S.2 p).2.2) (nI (hi w)) acc (nI v) (nI p) (nI (qv S p w v).1) (nI (qv S p w v).2.1) (nI (qv S p w v).2.2) V := by
      rw [f_X6_who_160, if_neg (by rw [nlt (by omega) (by omega)]; omega)]
      unfold f_X6_who_183_c35 f_X6_who_195_c35
      rcases (show w = 0 ∨ w = 1 ∨ w = 2 by omega) with rfl | rfl | rfl
      · rw [if_pos (show nI 0 = (0 : Int32) from rfl), if_neg (show ¬ nI 0 = (1 : Int32) by decide), if_neg (show ¬ nI 0 = (2 : Int32) by decide)]
        rfl
      · rw [if_neg (show ¬ nI 1 = (0 : Int32) by decide), if_pos (show nI 1 = (1 : Int32) from rfl), if_neg (show ¬ nI 1 = (2 : Int32) by decide)]
        rfl
      · rw [if_neg (show ¬ nI 2 = (0 : Int32) by decide), if_neg (show ¬ nI 2 = (1 : Int32) by decide), if_pos (show nI 2 = (2 : Int32) from rfl)]
        rfl
    rw [ea]
    unfold f_X6_who_207_c35 f_X6_who_235 f_X3_isToldBy
    rw [x1, Option.bind_some, y1', Option.bind_some, e1, whF]
    by_cases c : tb (setS S p (qv S p w v)) g n 0 = true
    · rw [if_neg (fun q => ((b01z _).mp q) c)]
      dsimp only
      rw [if_pos c]
      exact ih m (v + 1) _ V2 (qv S p w v) (by omega) (by omega) (by omega) hqv y2
    · rw [if_pos ((b01z _).mpr c)]
      dsimp only
      rw [if_neg c]
      exact ih m (v + 1) _ V2 (qv S p w v) (by omega) (by omega) (by omega) hqv y2
theorem lay_qv {f : Nat → Int32} {S : Sh} {p w v : Nat} (hS : ShM f S) (hp : p < S.2.length) (hw : w ≤ 2) : ShM (upd f (4 + 3 * p + w) (nI v)) (setS S p (qv S p w v)) := by
  have hl : (setS S p (qv S p w v)).2.length = S.2.length := List.length_set
  have hu : ∀ y, upd f (4 + 3 * p + w) (nI v) y = if y = 4 + 3 * p + w then nI v else f y := fun _ => rfl
  refine ⟨?_, fun l hl2 => ?_, fun k hk => ?_⟩
  · rw [hl, hu, if_neg (by omega)]
    exact hS.1
  · rw [hu, if_neg (by omega)]
    exact hS.2.1 l hl2
  · rw [hl] at hk
    have e : pg (setS S p (qv S p w v)).2 k = if k = p then qv S p w v else pg S.2 k := pg_set hp k
    obtain ⟨s1, s2, s3⟩ := hS.2.2 k hk
    rw [e, hu, hu, hu]
    by_cases c : k = p
    · subst c
      rw [if_pos rfl]
      unfold qv
      rcases (show w = 0 ∨ w = 1 ∨ w = 2 by omega) with rfl | rfl | rfl
      · simp (disch := omega) only [if_pos, if_neg, if_true]
        exact ⟨trivial, s2, s3⟩
      · simp (disch := omega) only [if_pos, if_neg, if_true]
        exact ⟨s1, trivial, s3⟩
      · simp (disch := omega) only [if_pos, if_neg, if_true]
        exact ⟨s1, s2, trivial⟩
    · rw [if_neg c, if_neg (by omega), if_neg (by omega), if_neg (by omega)]
      exact ⟨s1, s2, s3⟩
theorem wh_m {U : Mem} {S : Sh} {p w r i n : Nat} {g : Nat → Int32} (hok : okS S) (hp : p < S.2.length) (hw : w ≤ 2) (hr : r < 8) (hi' : i + n ≤ 40) (hn : n ≤ S.2.length) (hg : ∀ j, j < n → U 3 (40 * r + i + j) = g j) : ∀ (d m v : Nat) (acc : Int32) (M : Mem), v + d = hi w + 1 → d < m → lo w ≤ v → MV U M S → ∃ M', f_X7_who_106 m (nI p) (nI w) (nI r) (nI i) (nI n) acc (nI (hi w)) (nI v) M = some (whF S p w n g d v acc, M') ∧ MV U M' S := by
  have h24 := hok.2.2.1
  have h20 : hi w ≤ 20 := by unfold hi; split <;> (try split) <;> omega
  intro d
  induction d with
  | zero =>
    intro m v acc M hv hm hl hx
    obtain ⟨m, rfl⟩ : ∃ n', m = n' + 1 := ⟨m - 1, by omega⟩
    rw [f_X7_who_106, if_pos (by rw [nlt (by omega) (by omega)]; omega)]
    exact ⟨M, rfl, hx⟩
  | succ d ih =>
    intro m v acc M hv hm hl hx
    obtain ⟨m, rfl⟩ : ∃ n', m = n' + 1 := ⟨m - 1, by omega⟩
    have e1 : nI v + 1 = nI (v + 1) := nI_1 v
    have hqv := qv_ok hok hp hl (show v ≤ hi w by omega)
    have hokv := ok_set (k := p) hok hqv
    have hlv : (setS S p (qv S p w v)).2.length = S.2.length := List.length_set
    have hl := mt_lay h24 hx
    have hm1 : MT U (st (cp M 4 6 0 0 76) 6 (4 + 3 * p + w) (nI v)) S (setS S p (qv S p w v)) := mt_ms hl (lay_qv hl.2 hp hw)
    have hm2 : MT U (mk (st (cp M 4 6 0 0 76) 6 (4 + 3 * p + w) (nI v)) (setS S p (qv S p w v)).2 (setS S p (qv S p w v)).2.length) S (setS S p (qv S p w v)) := mt_mk hm1
    have e2 : (4 : Int32) + (3 : Int32) * nI p + nI w = nI (4 + 3 * p + w) := by rw [li, li, pk_mul, nad, nad]
    have e3 : (40 : Int32) * nI r + nI i = nI (40 * r + i) := by rw [li, pk_mul, nad]
    have y1 := tb_m (M := st (cp M 4 6 0 0 76) 6 (4 + 3 * p + w) (nI v)) (a := 40 * r + i) (n := n) (g := g) hokv hm1.2 (by omega) (by omega) (fun j hj => by rw [hm1.1.1.1 3 (by omega) (by omega) (by omega) (by omega)]; exact hg j hj) n 4096 0 (by omega) (by omega)
    have y1' : f_X7_isCountedSo_13 4096 (nI (40 * r + i)) (nI n) 1 0 (mk (st (cp M 4 6 0 0 76) 6 (4 + 3 * p + w) (nI v)) (setS S p (qv S p w v)).2 (setS S p (qv S p w v)).2.length) = _ := y1
    rw [f_X7_who_106, if_neg (by rw [nlt (by omega) (by omega)]; omega), layThen_m, Option.bind_some, e2, if_pos (ibt (by omega) (by omega)), ncl (by omega), e3]
    unfold f_X7_isCountedSo f_X7_who_157
    rw [countAll_eq (by omega) hm1.2 hokv, Option.bind_some, y1', Option.bind_some, e1, or0, whF]
    by_cases c : tb (setS S p (qv S p w v)) g n 0 = true
    · rw [if_neg (fun q => ((b01z _).mp q) c)]
      dsimp only
      rw [if_pos c]
      exact ih m (v + 1) _ _ (by omega) (by omega) (by omega) hm2.1
    · rw [if_pos ((b01z _).mpr c)]
      dsimp only
      rw [if_neg c]
      exact ih m (v + 1) _ _ (by omega) (by omega) (by omega) hm2.1
theorem set_self {S : Sh} {p : Nat} (hp : p < S.2.length) : setS S p (pg S.2 p) = S := by
  have := set_set (S := S) (p := p) (q := pg S.2 p) hp
  rw [set_set2] at this
  exact this
theorem s_who : S_who Inv := by
  intro a b c d e V U h
  obtain ⟨S, A, hSS⟩ := h.2.2.2.2.1
  obtain ⟨hok, hX, hC, hM, -⟩ := id hSS
  have h24 := hok.2.2.1
  have hM' : ShM (st U 0 0 0 4) S := by rw [st_id (by omega)]; exact hM
  have e0 : st U 0 0 0 4 ((0 : Int32)).toNatClampNeg = nI S.2.length := hM'.1
  unfold f_X6_who f_X7_who
  rcases dich a S.2.length with ⟨p, hp, rfl⟩ | hk
  · rw [has_yes hX.1 (by omega) hp, par_yes hM'.1 (by omega) hp, Option.bind_some, Option.bind_some, if_neg i10, if_neg i10]
    dsimp only
    rw [isBetween_eq, show (0 : Int64) = (0 : Int32).toInt64 from rfl, show (2 : Int64) = (2 : Int32).toInt64 from rfl, inw, Option.bind_some, Option.bind_some]
    by_cases h1 : 0 ≤ b ∧ b ≤ 2
    · rw [if_neg (fun q => ((b01z _).mp q) h1), if_neg (fun q => ((b01z _).mp q) h1)]
      dsimp only
      rw [isRow_eq, mRow_eq, Option.bind_some, Option.bind_some]
      by_cases h2 : 0 ≤ c ∧ c ≤ 7
      · rw [if_neg (fun q => ((b01z _).mp q) h2), if_neg (fun q => ((b01z _).mp q) h2)]
        dsimp only
        rw [isBetween_eq, if_pos ib076, e0, show (1 : Int64) = (1 : Int32).toInt64 from rfl, inw, hX.1, Option.bind_some, Option.bind_some]
        by_cases h3 : 1 ≤ e ∧ e ≤ nI S.2.length
        · rw [if_neg (fun q => ((b01z _).mp q) h3), if_neg (fun q => ((b01z _).mp q) h3)]
          obtain ⟨w, w1, rfl⟩ := btw (n := 2) (by omega) h1
          obtain ⟨r, r1, rfl⟩ := btw (n := 7) (by omega) h2
          obtain ⟨n, n1, rfl⟩ := btw (by omega) ⟨Int32.le_trans (by decide) h3.1, h3.2⟩
          dsimp only
          rw [if_pos (ibt (show r < 8 by omega) (by omega)), ncl (show r < 2147483648 by omega)]
          rcases row_both (M := st U 0 0 0) (x := d) (n := n) h.1 (show r < 8 by omega) (by omega) (st_id (by omega)) (st_id (by omega)) with ⟨e, e0, e1, e2, e3⟩ | ⟨i, rfl, i1, i2, e1, e2⟩
          · rw [e1, e2, Option.bind_some, Option.bind_some, if_neg e0, if_neg e3, f_X6_found, Option.bind_some]
            refine ⟨_, _, rfl, rfl, rfl, ?_⟩
            dsimp only
            exact inv_f h (fun a q => by rw [st_id q, st_id q]) (fun k q1 q2 => by rw [st_ne2 q2, st_ne2 q1]) st_same
          · rw [e1, e2, Option.bind_some, Option.bind_some, if_pos rfl, if_pos rfl]
            have i24 : ib (nI p) 24 = true := ibt (by omega) (by omega)
            have cp' : (nI p).toNatClampNeg = p := ncl (by omega)
            obtain ⟨s1, s2, s3⟩ := hX.2.2 p hp
            have s1' : V 6 p = nI (pg S.2 p).1 := s1
            have s2' : V 7 p = nI (pg S.2 p).2.1 := s2
            have s3' : V 8 p = nI (pg S.2 p).2.2 := s3
            dsimp only
            rw [if_pos i24, if_pos i24, if_pos i24, cp', s1', s2', s3']
            obtain ⟨V1, x1, x2⟩ := xt_new hok (xq_rf h hSS)
            have x2' : XT V V1 S (setS S p (pg S.2 p)) := by rw [set_self hp]; exact x2
            have hlo : lo w ≤ hi w := by unfold lo hi; split <;> (try split) <;> omega
            obtain ⟨V2, q', y1, y2⟩ := wh_x (w := w) (r := 99 + 2 * r) hok hp w1 (by omega) i1 n1 i2 (hi w + 1 - lo w) 4096 (lo w) 0 V1 (pg S.2 p) (by omega) (by unfold hi; split <;> (try split) <;> omega) (Nat.le_refl _) (pg_ok hok.2.2.2 hp) x2'
            have hM1 : MV (st (st U 0 0 0) 0 1 0) (st (st U 0 0 0) 0 1 0) S := ⟨QM.rf, rfl, rfl, by rw [st_id (by omega)]; exact hM'⟩
            obtain ⟨M2, z1, z2⟩ := wh_m (U := st (st U 0 0 0) 0 1 0) (w := w) (r := r) (g := fun j => U 3 (40 * r + i + j)) hok hp w1 (by omega) i1 n1 (fun j hj => by rw [st_ne1 (by omega), st_ne1 (by omega)]) (hi w + 1 - lo w) 4096 (lo w) 0 _ (by omega) (by unfold hi; split <;> (try split) <;> omega) (Nat.le_refl _) hM1
            have cls : (if nI w = 0 then f_X6_who_119 (nI p) (nI w) (nI i) (nI n) (99 + 2 * r) (nI (pg S.2 p).1) (nI (pg S.2 p).2.1) (nI (pg S.2 p).2.2) 1 V else f_X6_who_119 (nI p) (nI w) (nI i) (nI n) (99 + 2 * r) (nI (pg S.2 p).1) (nI (pg S.2 p).2.1) (nI (pg S.2 p).2.2) 0 V) = (f_X3_become 35 4 V).bind fun q153 => f_X6_who_160 4096 (nI p) (nI w) (nI i) (nI n) (99 + 2 * r) (nI (pg S.2 p).1) (nI (pg S.2 p).2.1) (nI (pg S.2 p).2.2) (nI (hi w)) 0 (nI (lo w)) q153 := by
              unfold f_X6_who_119 f_X6_who_140
              rcases (show w = 0 ∨ w = 1 ∨ w = 2 by omega) with rfl | rfl | rfl
              · rw [if_pos (show nI 0 = (0 : Int32) from rfl), if_pos (show nI 0 = (0 : Int32) from rfl)]
                rfl
              · rw [if_neg (show ¬ nI 1 = (0 : Int32) by decide), if_neg (show ¬ nI 1 = (0 : Int32) by decide), if_pos (show nI 1 = (1 : Int32) from rfl)]
                rfl
              · rw [if_neg (show ¬ nI 2 = (0 : Int32) by decide), if_neg (show ¬ nI 2 = (0 : Int32) by decide), if_neg (show ¬ nI 2 = (1 : Int32) by decide)]
                rfl
            have mdl : (if nI w = 0 then f_X7_who_93 (nI p) (nI w) (nI r) (nI i) (nI n) 0 5 (st (st U 0 0 0) 0 1 0) else if nI w = 1 then f_X7_who_93 (nI p) (nI w) (nI r) (nI i) (nI n) 0 2 (st (st U 0 0 0) 0 1 0) else f_X7_who_93 (nI p) (nI w) (nI r) (nI i) (nI n) 0 20 (st (st U 0 0 0) 0 1 0)) = f_X7_who_106 4096 (nI p) (nI w) (nI r) (nI i) (nI n) 0 (nI (hi w)) (nI (lo w)) (st (st U 0 0 0) 0 1 0) := by
              unfold f_X7_who_93 f_X7_who_104
              rcases (show w = 0 ∨ w = 1 ∨ w = 2 by omega) with rfl | rfl | rfl
              · rw [if_pos (show nI 0 = (0 : Int32) from rfl), if_pos (show nI 0 = (0 : Int32) from rfl)]
                rfl
              · rw [if_neg (show ¬ nI 1 = (0 : Int32) by decide), if_neg (show ¬ nI 1 = (0 : Int32) by decide), if_pos (show nI 1 = (1 : Int32) from rfl)]
                rfl
              · rw [if_neg (show ¬ nI 2 = (0 : Int32) by decide), if_neg (show ¬ nI 2 = (0 : Int32) by decide), if_neg (show ¬ nI 2 = (1 : Int32) by decide), if_neg (show ¬ nI 2 = (0 : Int32) by decide)]
                rfl
            rw [cls, mdl, x1, Option.bind_some, y1, z1]
            refine ⟨_, _, rfl, rfl, rfl, ?_⟩
            dsimp only
            exact inv_xs h hSS y2.1 (qm_t.tr (qm_1.tr z2.1)) (by rw [z2.2.1, st_same]) (by rw [z2.2.2.1, st_ne2 (by omega), st_ne2 (by omega)])
        · rw [if_pos ((b01z _).mpr h3), if_pos ((b01z _).mpr h3)]
          exact ⟨_, _, rfl, rfl, rfl, inv_t h⟩
      · rw [if_pos ((b01z _).mpr h2), if_pos ((b01z _).mpr h2)]
        exact ⟨_, _, rfl, rfl, rfl, inv_t h⟩
    · rw [if_pos ((b01z _).mpr h1), if_pos ((b01z _).mpr h1)]
      exact ⟨_, _, rfl, rfl, rfl, inv_t h⟩
  · rw [has_no hX.1 (by omega) hk, par_no hM'.1 (by omega) hk, Option.bind_some, Option.bind_some, if_pos rfl, if_pos rfl]
    exact ⟨_, _, rfl, rfl, rfl, inv_t h⟩

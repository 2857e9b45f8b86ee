/-! drawn. -/
def ed (T : Sh) (y : Nat) : Sh := if y % 2 = 0 ∧ T.2.length < 24 then insS T (y / 8 % T.2.length) (1 + y / 64 % 5, y / 512 % 3, y / 4096 % 21) else if 1 < T.2.length then rmvS T (y / 8 % T.2.length) else T
def nx (x : Nat) : Nat := x * 16807 % 2147483647
def drF : Nat → Sh → Nat → Sh
  | 0, T, _ => T
  | d + 1, T, x => drF d (ed T (nx x)) (nx x)
def res (T : Sh) (w : Int32) : Int32 := if w = 0 then nI T.2.length else nI (cnt T.2 T.2.length 0 + cnt T.2 T.2.length 1 + cnt T.2 T.2.length 2)
theorem ed_ok {T : Sh} {y : Nat} (hok : okS T) (h0 : 0 < T.2.length) : okS (ed T y) ∧ 0 < (ed T y).2.length := by
  have hm : y / 8 % T.2.length < T.2.length := Nat.mod_lt _ h0
  have h24 := hok.2.2.1
  unfold ed
  by_cases c : y % 2 = 0 ∧ T.2.length < 24
  · rw [if_pos c]
    refine ⟨ok_ins hok c.2 (by omega) ⟨by dsimp only; omega, by dsimp only; omega, by dsimp only; omega, by dsimp only; omega⟩, ?_⟩
    unfold insS
    rw [len_ins (by omega)]
    omega
  · rw [if_neg c]
    by_cases c1 : 1 < T.2.length
    · rw [if_pos c1]
      refine ⟨ok_rmv hok hm, ?_⟩
      unfold rmvS
      rw [len_rmv hm]
      omega
    · rw [if_neg c1]
      exact ⟨hok, h0⟩
theorem lmod {y d n : Nat} (hy : y < 2147483647) (hd : 0 < d) (hd2 : d < 2147483648) (hn : 0 < n) (hn2 : n < 2147483648) : (lN y / lN d - lN y / lN d / lN n * lN n).toInt32 = nI (y / d % n) := by
  have hq : y / d ≤ y := Nat.div_le_self y d
  rw [pk_lDiv (by omega) hd (by omega), pk_lRem (by omega) hn (by omega), lN_i]
theorem lnx {x : Nat} (hx : x < 2147483647) : lN x * (16807 : Int64) - lN x * (16807 : Int64) / (2147483647 : Int64) * (2147483647 : Int64) = lN (nx x) := by
  rw [show (16807 : Int64) = lN 16807 from rfl, show (2147483647 : Int64) = lN 2147483647 from rfl, lN_mul, pk_lRem (by omega) (by omega) (by omega)]
  rfl
theorem nx_lt {x : Nat} : nx x < 2147483647 := Nat.mod_lt _ (by omega)
theorem cmp0 {y : Nat} : (lg_cmp (lN (y % 2)) (0 : Int64) = 0) ↔ y % 2 = 0 := by
  rcases (show y % 2 = 0 ∨ y % 2 = 1 by omega) with h | h
  · rw [h]
    exact ⟨fun _ => rfl, fun _ => by decide⟩
  · rw [h]
    exact ⟨fun q => absurd q (by decide), fun q => absurd q (by decide)⟩
theorem edit_x {V0 V : Mem} {S T : Sh} {y : Nat} (hok : okS S) (hokT : okS T) (h0 : 0 < T.2.length) (hy : y < 2147483647) (hx : XT V0 V S T) : ∃ V', f_X3_editBy 35 (lN y) V = some V' ∧ XT V0 V' S (ed T y) := by
  have h24 := hokT.2.2.1
  have hm : y / 8 % T.2.length < T.2.length := Nat.mod_lt _ h0
  have e2 : lN y - lN y / (2 : Int64) * (2 : Int64) = lN (y % 2) := pk_lRem (b := 2) (by omega) (by omega) (by omega)
  have e8 : (lN y / (8 : Int64) - lN y / (8 : Int64) / lN T.2.length * lN T.2.length).toInt32 = nI (y / 8 % T.2.length) := lmod hy (d := 8) (by omega) (by omega) h0 (by omega)
  have e64 : (1 : Int32) + (lN y / (64 : Int64) - lN y / (64 : Int64) / (5 : Int64) * (5 : Int64)).toInt32 = nI (1 + y / 64 % 5) := by
    have := lmod hy (d := 64) (n := 5) (by omega) (by omega) (by omega) (by omega)
    have t : (lN y / (64 : Int64) - lN y / (64 : Int64) / (5 : Int64) * (5 : Int64)).toInt32 = nI (y / 64 % 5) := this
    rw [t, li, nad]
  have e512 : (lN y / (512 : Int64) - lN y / (512 : Int64) / (3 : Int64) * (3 : Int64)).toInt32 = nI (y / 512 % 3) := lmod hy (d := 512) (n := 3) (by omega) (by omega) (by omega) (by omega)
  have e4096 : (lN y / (4096 : Int64) - lN y / (4096 : Int64) / (21 : Int64) * (21 : Int64)).toInt32 = nI (y / 4096 % 21) := lmod hy (d := 4096) (n := 21) (by omega) (by omega) (by omega) (by omega)
  have el : (nI T.2.length).toInt64 = lN T.2.length := nI_l (by omega)
  obtain ⟨m, hmm⟩ := hx.2.2
  have e93 : ∃ V', f_X3_editBy_93 35 (nI (y / 8 % T.2.length)) V = some V' ∧ XT V0 V' S (if 1 < T.2.length then rmvS T (y / 8 % T.2.length) else T) := by
    unfold f_X3_editBy_93
    rw [hx.2.1.1]
    by_cases c : 1 < T.2.length
    · obtain ⟨V1, x1, x2, x3, x4⟩ := rmv_x hokT hx.2.1 hmm hm
      rw [if_neg (by rw [li, nle (by omega) (by omega)]; omega), if_pos c, x1, Option.bind_some]
      exact ⟨V1, rfl, xt_fx hok hx x4 x2 x3⟩
    · rw [if_pos (by rw [li, nle (by omega) (by omega)]; omega), if_neg c]
      exact ⟨V, rfl, hx⟩
  unfold f_X3_editBy
  rw [hx.2.1.1, if_pos (by rw [li, nle (by omega) (by omega)]; omega), el, if_neg (by rw [show (0 : Int64) = lN 0 from rfl, pk_lEQ (by omega) (by omega)]; omega), e2, e8, e64, e512, e4096]
  unfold ed
  by_cases c : y % 2 = 0
  · rw [if_pos (cmp0.mpr c)]
    by_cases c2 : T.2.length < 24
    · obtain ⟨V1, x1, x2, x3, x4⟩ := ins_x (q := (1 + y / 64 % 5, y / 512 % 3, y / 4096 % 21)) hokT hx.2.1 hmm (p := y / 8 % T.2.length) (by omega) c2 ⟨by dsimp only; omega, by dsimp only; omega, by dsimp only; omega, by dsimp only; omega⟩
      have x1' : f_X3_insert 35 (nI (y / 8 % T.2.length)) (nI (1 + y / 64 % 5)) (nI (y / 512 % 3)) (nI (y / 4096 % 21)) V = some V1 := x1
      rw [if_neg (by rw [li, nle (by omega) (by omega)]; omega), x1', Option.bind_some, if_pos ⟨c, c2⟩]
      exact ⟨V1, rfl, xt_fx hok hx x4 x2 x3⟩
    · rw [if_pos (by rw [li, nle (by omega) (by omega)]; omega), if_neg (fun q => c2 q.2)]
      exact e93
  · rw [if_neg (fun q => c (cmp0.mp q)), if_neg (fun q => c q.1)]
    exact e93
theorem dr_x {V0 : Mem} {S : Sh} {c : Nat} {w : Int32} (hok : okS S) (hc : c ≤ 60) : ∀ (d m k x : Nat) (T : Sh) (V : Mem), k + d = c → d < m → x < 2147483647 → okS T → 0 < T.2.length → XT V0 V S T → ∃ V' T', f_X6_drawn_64 m (nI c) w (lN x) (nI k) V = some (res (drF d T x) w, V') ∧ XT V0 V' S T' := by
  intro d
  induction d with
  | zero =>
    intro m k x T V hk hm hx hokT h0 hX
    obtain ⟨m, rfl⟩ : ∃ n', m = n' + 1 := ⟨m - 1, by omega⟩
    rw [f_X6_drawn_64, if_pos (by rw [nle (by omega) (by omega)]; omega), hX.2.1.1, drF, res]
    by_cases c0 : w = 0
    · rw [if_pos c0, if_pos c0]
      exact ⟨V, T, rfl, hX⟩
    · obtain ⟨V1, i1, i2, i3⟩ := last_x (Or.inr rfl) hokT hX.2.1 hX.2.2
      rw [if_neg c0, if_neg c0, i1, Option.bind_some]
      exact ⟨V1, T, rfl, xt_fs hok hX i2 i3⟩
  | succ d ih =>
    intro m k x T V hk hm hx hokT h0 hX
    obtain ⟨m, rfl⟩ : ∃ n', m = n' + 1 := ⟨m - 1, by omega⟩
    have e1 : nI k + 1 = nI (k + 1) := nI_1 k
    obtain ⟨V1, x1, x2⟩ := edit_x (y := nx x) hok hokT h0 nx_lt hX
    have ho := ed_ok (y := nx x) hokT h0
    rw [f_X6_drawn_64, if_neg (by rw [nle (by omega) (by omega)]; omega), lnx hx, x1, Option.bind_some, e1, drF]
    exact ih m (k + 1) (nx x) (ed T (nx x)) V1 (by omega) (by omega) nx_lt ho.1 ho.2 x2
theorem dr_m {U : Mem} {S : Sh} {c : Nat} {w : Int32} (hc : c ≤ 60) : ∀ (d m k x : Nat) (T : Sh) (M : Mem), k + d = c → d < m → x < 2147483647 → okS T → 0 < T.2.length → MT U M S T → ∃ M' T', f_X7_drawn_63 m (nI c) w (lN x) (nI k) M = some (res (drF d T x) w, M') ∧ MT U M' S T' := by
  intro d
  induction d with
  | zero =>
    intro m k x T M hk hm hx hokT h0 hX
    obtain ⟨m, rfl⟩ : ∃ n', m = n' + 1 := ⟨m - 1, by omega⟩
    have hX2 : MT U (mk M T.2 T.2.length) S T := mt_mk hX
    have e0 : mk M T.2 T.2.length 6 ((0 : Int32)).toNatClampNeg = nI T.2.length := hX2.2.1
    rw [f_X7_drawn_63, if_pos (by rw [nle (by omega) (by omega)]; omega), countAll_eq (by omega) hX.2 hokT, Option.bind_some, if_pos ib076, e0, drF, res, last_m (by omega) hokT hX.2, Option.bind_some]
    by_cases c0 : w = 0
    · rw [if_pos c0, if_pos c0]
      exact ⟨_, T, rfl, hX2⟩
    · rw [if_neg c0, if_neg c0]
      exact ⟨_, T, rfl, hX2⟩
  | succ d ih =>
    intro m k x T M hk hm hx hokT h0 hX
    obtain ⟨m, rfl⟩ : ∃ n', m = n' + 1 := ⟨m - 1, by omega⟩
    have e1 : nI k + 1 = nI (k + 1) := nI_1 k
    have ho := ed_ok (y := nx x) hokT h0
    have h24 := hokT.2.2.1
    have hy := nx_lt (x := x)
    have e0 : M 6 ((0 : Int32)).toNatClampNeg = nI T.2.length := hX.2.1
    have el : (nI T.2.length).toInt64 = lN T.2.length := nI_l (by omega)
    rw [f_X7_drawn_63, if_neg (by rw [nle (by omega) (by omega)]; omega), if_pos ib076, if_pos ib076, e0, el, if_neg (by rw [show (0 : Int64) = lN 0 from rfl, pk_lEQ (by omega) (by omega)]; omega), lnx hx, drF]
    unfold f_X7_drawn_167 f_X7_drawn_186
    rw [e0, if_pos ib076, e1]
    generalize nx x = y at *
    have hm' : y / 8 % T.2.length < T.2.length := Nat.mod_lt _ h0
    have e2 : lN y - lN y / (2 : Int64) * (2 : Int64) = lN (y % 2) := pk_lRem (b := 2) (by omega) (by omega) (by omega)
    have e8 : (lN y / (8 : Int64) - lN y / (8 : Int64) / lN T.2.length * lN T.2.length).toInt32 = nI (y / 8 % T.2.length) := lmod hy (d := 8) (by omega) (by omega) h0 (by omega)
    have e64 : (1 : Int32) + (lN y / (64 : Int64) - lN y / (64 : Int64) / (5 : Int64) * (5 : Int64)).toInt32 = nI (1 + y / 64 % 5) := by
      have := lmod hy (d := 64) (n := 5) (by omega) (by omega) (by omega) (by omega)
      have t : (lN y / (64 : Int64) - lN y / (64 : Int64) / (5 : Int64) * (5 : Int64)).toInt32 = nI (y / 64 % 5) := this
      rw [t, li, nad]
    have e512 : (lN y / (512 : Int64) - lN y / (512 : Int64) / (3 : Int64) * (3 : Int64)).toInt32 = nI (y / 512 % 3) := lmod hy (d := 512) (n := 3) (by omega) (by omega) (by omega) (by omega)
    have e4096 : (lN y / (4096 : Int64) - lN y / (4096 : Int64) / (21 : Int64) * (21 : Int64)).toInt32 = nI (y / 4096 % 21) := lmod hy (d := 4096) (n := 21) (by omega) (by omega) (by omega) (by omega)
    rw [e2, e8, e64, e512, e4096]
    have e93 : ∃ M1, (if nI T.2.length ≤ 1 then f_X7_drawn_63 m (nI c) w (lN y) (nI (k + 1)) M else (f_X7_takeOut 6 (nI (y / 8 % T.2.length)) M).bind fun q183 => f_X7_drawn_63 m (nI c) w (lN y) (nI (k + 1)) q183) = f_X7_drawn_63 m (nI c) w (lN y) (nI (k + 1)) M1 ∧ MT U M1 S (if 1 < T.2.length then rmvS T (y / 8 % T.2.length) else T) := by
      by_cases c : 1 < T.2.length
      · obtain ⟨g, t1, t2⟩ := takeOut_m (U := M) (r := 6) hX.2 h24 hm'
        rw [if_neg (by rw [li, nle (by omega) (by omega)]; omega), if_pos c, t1, Option.bind_some]
        exact ⟨_, rfl, mt_ms hX t2⟩
      · rw [if_pos (by rw [li, nle (by omega) (by omega)]; omega), if_neg c]
        exact ⟨M, rfl, hX⟩
    by_cases c : y % 2 = 0
    · rw [if_pos (cmp0.mpr c)]
      by_cases c2 : T.2.length < 24
      · obtain ⟨g, t1, t2⟩ := putAt_m (U := M) (r := 6) (q := (1 + y / 64 % 5, y / 512 % 3, y / 4096 % 21)) hX.2 c2 (show y / 8 % T.2.length ≤ T.2.length by omega)
        have t1' : f_X7_putAt 6 (nI (y / 8 % T.2.length)) (nI (1 + y / 64 % 5)) (nI (y / 512 % 3)) (nI (y / 4096 % 21)) M = some (ms M 6 g) := t1
        have ed' : ed T y = insS T (y / 8 % T.2.length) (1 + y / 64 % 5, y / 512 % 3, y / 4096 % 21) := by
          unfold ed
          rw [if_pos ⟨c, c2⟩]
        rw [if_neg (by rw [li, nle (by omega) (by omega)]; omega), t1', Option.bind_some]
        exact ih m (k + 1) y (ed T y) _ (by omega) (by omega) hy ho.1 ho.2 (by rw [ed']; exact mt_ms hX t2)
      · obtain ⟨M1, f1, f2⟩ := e93
        have ed' : ed T y = if 1 < T.2.length then rmvS T (y / 8 % T.2.length) else T := by
          unfold ed
          rw [if_neg (fun q => c2 q.2)]
        rw [if_pos (by rw [li, nle (by omega) (by omega)]; omega), f1]
        exact ih m (k + 1) y (ed T y) _ (by omega) (by omega) hy ho.1 ho.2 (by rw [ed']; exact f2)
    · obtain ⟨M1, f1, f2⟩ := e93
      have ed' : ed T y = if 1 < T.2.length then rmvS T (y / 8 % T.2.length) else T := by
        unfold ed
        rw [if_neg (fun q => c q.1)]
      rw [if_neg (fun q => c (cmp0.mp q)), f1]
      exact ih m (k + 1) y (ed T y) _ (by omega) (by omega) hy ho.1 ho.2 (by rw [ed']; exact f2)
theorem s_drawn : S_drawn Inv := by
  intro a b c V U h
  obtain ⟨S, A, hSS⟩ := h.2.2.2.2.1
  obtain ⟨hok, hX, hC, hM, -⟩ := id hSS
  have h24 := hok.2.2.1
  have hM' : ShM (st U 0 0 0 4) S := by rw [st_id (by omega)]; exact hM
  unfold f_X6_drawn f_X7_drawn
  rw [none_x hX.1 (by omega), there_m hM'.1 (by omega), Option.bind_some, Option.bind_some]
  by_cases hn : S.2.length = 0
  · rw [if_neg (fun q => ((b01z _).mp q) hn), if_pos ((b01z _).mpr (by omega))]
    exact ⟨_, _, rfl, rfl, rfl, inv_t h⟩
  · rw [if_pos ((b01z _).mpr hn), if_neg (fun q => ((b01z _).mp q) (by omega))]
    dsimp only
    rw [isBetween_eq, show (0 : Int64) = (0 : Int32).toInt64 from rfl, show (60 : Int64) = (60 : Int32).toInt64 from rfl, inw, Option.bind_some, Option.bind_some]
    by_cases h1 : 0 ≤ a ∧ a ≤ 60
    · rw [if_neg (fun q => ((b01z _).mp q) h1), if_neg (fun q => ((b01z _).mp q) h1)]
      dsimp only
      rw [isBetween_eq, show (1 : Int64) = (1 : Int32).toInt64 from rfl, show (999999 : Int64) = (999999 : Int32).toInt64 from rfl, inw, Option.bind_some, Option.bind_some]
      by_cases h2 : 1 ≤ b ∧ b ≤ 999999
      · rw [if_neg (fun q => ((b01z _).mp q) h2), if_neg (fun q => ((b01z _).mp q) h2)]
        dsimp only
        rw [isBetween_eq, inw, Option.bind_some, Option.bind_some]
        by_cases h3 : 0 ≤ c ∧ c ≤ 1
        · rw [if_neg (fun q => ((b01z _).mp q) h3), if_neg (fun q => ((b01z _).mp q) h3)]
          dsimp only
          obtain ⟨n, n1, rfl⟩ := btw (n := 60) (by omega) h1
          obtain ⟨x, q1, rfl⟩ := btw (n := 999999) (by omega) ⟨Int32.le_trans (by decide) h2.1, h2.2⟩
          have ex : (nI x).toInt64 = lN x := nI_l (by omega)
          obtain ⟨V1, x1, x2⟩ := xt_new hok (xq_rf h hSS)
          obtain ⟨V2, T2, y1, y2⟩ := dr_x (V0 := V) (w := c) hok n1 n 4096 0 x S V1 (by omega) (by omega) (by omega) hok (by omega) x2
          have y1' : f_X6_drawn_64 4096 (nI n) c (lN x) 0 V1 = _ := y1
          obtain ⟨M2, T3, z1, z2⟩ := dr_m (U := U) (w := c) n1 n 4096 0 x S _ (by omega) (by omega) (by omega) hok (by omega) (mt_lay h24 (mv_t hM))
          have z1' : f_X7_drawn_63 4096 (nI n) c (lN x) 0 (cp (st U 0 0 0) 4 6 0 0 76) = _ := z1
          rw [x1, Option.bind_some, ex, y1', layThen_m, Option.bind_some, z1']
          exact ⟨_, _, rfl, rfl, rfl, inv_xt h hSS y2 z2⟩
        · rw [if_pos ((b01z _).mpr h3), if_pos ((b01z _).mpr h3)]
          exact ⟨_, _, rfl, rfl, rfl, inv_t h⟩
      · rw [if_pos ((b01z _).mpr h2), if_pos ((b01z _).mpr h2)]
        exact ⟨_, _, rfl, rfl, rfl, inv_t h⟩
    · rw [if_pos ((b01z _).mpr h1), if_pos ((b01z _).mpr h1)]
      exact ⟨_, _, rfl, rfl, rfl, inv_t h⟩

/-! span. -/
def spC (P : List Pg) : Nat → Nat → (Nat → Nat) → (Nat → Nat)
  | 0, _, C => C
  | d + 1, k, C => spC P d (k + 1) (ov C (pg P k))
def C0 : Nat → Nat := fun x => if x < 6 then 1000 * (x + 1) else 0
def bd (C : Nat → Nat) (m : Nat) : Prop := ∀ x, C x % 1000 ≤ m ∧ C x ≤ 6000 + m
theorem bd0 : bd C0 20 := by
  intro x
  unfold C0
  by_cases h : x < 6
  · rw [if_pos h]; omega
  · rw [if_neg h]; omega
theorem bd_ov {C : Nat → Nat} {m : Nat} {p : Pg} (h : bd C m) (hm : 20 ≤ m) (hm2 : m < 900) (hp : okP p) : bd (ov C p) (m + 1) := by
  intro x
  have hs := hp.2.2.2
  have hA : ∀ (D : Nat → Nat) (l v : Nat), bd D m → (v % 1000 ≤ m + 1 ∧ v ≤ 6000 + (m + 1)) → (sA D l v x % 1000 ≤ m + 1 ∧ sA D l v x ≤ 6000 + (m + 1)) := by
    intro D l v hD hv
    unfold sA
    have := hD x
    split
    · exact hv
    · split <;> omega
  have hR : bd (rsm C) m := by
    intro y
    unfold rsm
    split <;> exact h _
  unfold ov
  split
  · have := h p.2.1
    exact hA C _ _ h (by omega)
  · split
    · exact hA C _ _ h (by omega)
    · split
      · have := hR p.2.1
        exact hA _ _ _ hR (by omega)
      · split
        · unfold hdc
          have h7 := h (x - 3)
          have h8 := h x
          split
          · omega
          · split <;> omega
        · have := h x
          omega
theorem toT_x {V : Mem} : ∀ (d n k : Nat) (W : Mem), k + d = 6 → d < n → f_X1_toThemselves_2 n 96 (nI k) W = some (ms W 96 (fun x => if k ≤ x ∧ x < 6 then nI (1000 * (x + 1)) else W 96 x)) := by
  intro d
  induction d with
  | zero =>
    intro n k W hk hn
    obtain ⟨n, rfl⟩ : ∃ n', n = n' + 1 := ⟨n - 1, by omega⟩
    unfold f_X1_toThemselves_2
    rw [if_pos (by rw [li, nle (by omega) (by omega)]; omega)]
    congr 1
    apply mem_ext
    intro a b
    rw [ms_at]
    by_cases h : a = 96
    · rw [if_pos h, if_neg (by omega), h]
    · rw [if_neg h]
  | succ d ih =>
    intro n k W hk hn
    obtain ⟨n, rfl⟩ : ∃ n', n = n' + 1 := ⟨n - 1, by omega⟩
    have e1 : nI k + 1 = nI (k + 1) := nI_1 k
    have e2 : nI (k + 1) * 1000 = nI (1000 * (k + 1)) := by rw [li, pk_mul, Nat.mul_comm]
    unfold f_X1_toThemselves_2
    rw [if_neg (by rw [li, nle (by omega) (by omega)]; omega), if_pos (ibt (by omega) (by omega)), e1, e2, ncl (by omega), ih n (k + 1) _ (by omega) (by omega)]
    congr 1
    apply mem_ext
    intro a b
    by_cases h : a = 96
    · subst h
      rw [ms_same, ms_same, st_at]
      by_cases hb : b = k
      · rw [if_neg (by omega), if_pos ⟨rfl, hb⟩, if_pos (by omega), hb]
      · rw [if_neg (show ¬ (96 = 96 ∧ b = k) by omega)]
        by_cases h2 : k ≤ b ∧ b < 6
        · rw [if_pos h2, if_pos (by omega)]
        · rw [if_neg h2, if_neg (by omega)]
    · rw [ms_ne h, ms_ne h, st_ne1 h]
theorem span_x {S : Sh} {V : Mem} (hok : okS S) (hS : ShX V 4 S) {b x : Nat} {w : Int32} (hb : b < S.2.length) (hx : x < 6) : ∀ (d n k m : Nat) (C : Nat → Nat) (f : Nat → Int32), k + d = b + 1 → d < n → bd C m → 20 ≤ m → m + d < 100 →
    f_X6_span_59 n (nI b) (nI x) w (nI k) (ms V 96 (cf C f)) = some (if w = 0 then nI (spC S.2 d k C x / 1000) - 1 else nI (spC S.2 d k C x % 1000), ms V 96 (cf (spC S.2 d k C) f)) := by
  have h24 := hok.2.2.1
  intro d
  induction d with
  | zero =>
    intro n k m C f hk hn hC hm hm2
    obtain ⟨n, rfl⟩ : ∃ n', n = n' + 1 := ⟨n - 1, by omega⟩
    have e6 : ib (nI x) 6 = true := ibt (by omega) (by omega)
    have ec : cf C f x = nI (C x) := if_pos hx
    have hc2 := hC x
    unfold f_X6_span_59 f_X1_sourceOf f_X1_amountOf
    rw [if_pos (by rw [nlt (by omega) (by omega)]; omega), if_pos e6, if_pos e6, ncl (by omega), ms_same, ec, show (1000 : Int32) = nI 1000 from rfl, pk_div (by omega) (by omega) (by omega), Option.bind_some, Option.bind_some]
    rw [show spC S.2 0 k C = C from rfl]
    by_cases hw : w = 0
    · rw [if_pos hw, if_pos hw]
    · have er : nI (C x) - nI (C x / 1000) * nI 1000 = nI (C x % 1000) := by
        rw [pk_mul, nsb (by omega)]
        congr 1
        omega
      rw [if_neg hw, if_neg hw, er]
  | succ d ih =>
    intro n k m C f hk hn hC hm hm2
    obtain ⟨n, rfl⟩ : ∃ n', n = n' + 1 := ⟨n - 1, by omega⟩
    have e1 : nI k + 1 = nI (k + 1) := nI_1 k
    have e24 : ib (nI k) 24 = true := ibt (by omega) (by omega)
    have hp := pg_ok hok.2.2.2 (k := k) (by omega)
    have h22 := hp.2.2.2
    have h21 := hp.2.2.1
    obtain ⟨k1, k2, k3⟩ := hS.2.2 k (by omega)
    unfold f_X6_span_59 f_X3_countOver
    have i6 : ms V 96 (cf C f) (4 + 2) k = nI (pg S.2 k).1 := by rw [ms_ne (by omega)]; exact k1
    have i7 : ms V 96 (cf C f) (4 + 3) k = nI (pg S.2 k).2.1 := by rw [ms_ne (by omega)]; exact k2
    have i8 : ms V 96 (cf C f) (4 + 4) k = nI (pg S.2 k).2.2 := by rw [ms_ne (by omega)]; exact k3
    rw [if_neg (by rw [nlt (by omega) (by omega)]; omega), if_pos e24, if_pos e24, if_pos e24, ncl (by omega), i6, i7, i8, over_eq (C := C) (f := f) ⟨hp.1, hp.2.1⟩ (by omega) (by omega) ms_eq, Option.bind_some, Option.bind_some, e1, ms_ms]
    exact ih n (k + 1) (m + 1) _ f (by omega) (by omega) (bd_ov hC hm (by omega) hp) (by omega) (by omega)
theorem sp55 {U : Mem} {x1 x2 x3 x4 : Int32} : ∀ (d n k : Nat) (W : Mem), k + d = 6 → d < n → f_X7_span_55 n x1 x2 x3 x4 (nI k) W = f_X7_span_80 4096 x2 x3 x4 x1 (ms (ms W 9 (fun y => if k ≤ y ∧ y < 6 then nI y else W 9 y)) 10 (fun y => if k ≤ y ∧ y < 6 then 0 else W 10 y)) := by
  intro d
  induction d with
  | zero =>
    intro n k W hk hn
    obtain ⟨n, rfl⟩ : ∃ n', n = n' + 1 := ⟨n - 1, by omega⟩
    unfold f_X7_span_55
    rw [if_pos (by rw [li, nle (by omega) (by omega)]; omega)]
    congr 1
    apply mem_ext
    intro a b
    rw [ms_at]
    by_cases h1 : a = 10
    · rw [if_pos h1, if_neg (by omega), h1]
    · rw [if_neg h1, ms_at]
      by_cases h2 : a = 9
      · rw [if_pos h2, if_neg (by omega), h2]
      · rw [if_neg h2]
  | succ d ih =>
    intro n k W hk hn
    obtain ⟨n, rfl⟩ : ∃ n', n = n' + 1 := ⟨n - 1, by omega⟩
    unfold f_X7_span_55 f_X7_become
    have e1 : nI k + 1 = nI (k + 1) := nI_1 k
    have e6 : ib (nI k) 6 = true := ibt (by omega) (by omega)
    rw [if_neg (by rw [li, nle (by omega) (by omega)]; omega), if_pos e6, if_pos e6, Option.bind_some, ncl (by omega), e1, ih n (k + 1) _ (by omega) (by omega)]
    congr 1
    apply mem_ext
    intro a b
    by_cases h1 : a = 10
    · subst h1
      rw [ms_same, ms_same, st_at, st_ne1 (by omega)]
      by_cases hb : b = k
      · rw [if_neg (by omega), if_pos ⟨rfl, hb⟩, if_pos (by omega)]
      · rw [if_neg (show ¬ (10 = 10 ∧ b = k) by omega)]
        by_cases h2 : k ≤ b ∧ b < 6
        · rw [if_pos h2, if_pos (by omega)]
        · rw [if_neg h2, if_neg (by omega)]
    · rw [ms_ne h1, ms_ne h1]
      by_cases h2 : a = 9
      · subst h2
        rw [ms_same, ms_same, st_ne1 (by omega), st_at]
        by_cases hb : b = k
        · rw [if_neg (by omega), if_pos ⟨rfl, hb⟩, if_pos (by omega), hb]
        · rw [if_neg (show ¬ (9 = 9 ∧ b = k) by omega)]
          by_cases h3 : k ≤ b ∧ b < 6
          · rw [if_pos h3, if_pos (by omega)]
          · rw [if_neg h3, if_neg (by omega)]
      · rw [ms_ne h2, ms_ne h2, st_ne1 h1, st_ne1 h2]
theorem span_m {S : Sh} {U : Mem} (hok : okS S) (hS : ShM (U 4) S) {b x : Nat} {w : Int32} (hb : b < S.2.length) (hx : x < 6) : ∀ (d n k m : Nat) (C : Nat → Nat), k + d = b + 1 → d < n → bd C m → 20 ≤ m → m + d < 100 →
    f_X7_span_80 n (nI b) (nI x) w (nI k) (mc U C) = some (if w = 0 then nI (spC S.2 d k C x / 1000) - 1 else nI (spC S.2 d k C x % 1000), mc U (spC S.2 d k C)) := by
  have h24 := hok.2.2.1
  intro d
  induction d with
  | zero =>
    intro n k m C hk hn hC hm hm2
    obtain ⟨n, rfl⟩ : ∃ n', n = n' + 1 := ⟨n - 1, by omega⟩
    have e6 : ib (nI x) 6 = true := ibt (by omega) (by omega)
    unfold f_X7_span_80
    rw [if_pos (by rw [nlt (by omega) (by omega)]; omega), if_pos e6, if_pos e6, ncl (by omega), mc_9, mc_10]
    unfold sf af
    rw [if_pos hx, if_pos hx]
    rw [show spC S.2 0 k C = C from rfl]
    by_cases hw : w = 0
    · rw [if_pos hw, if_pos hw]
    · rw [if_neg hw, if_neg hw]
  | succ d ih =>
    intro n k m C hk hn hC hm hm2
    obtain ⟨n, rfl⟩ : ∃ n', n = n' + 1 := ⟨n - 1, by omega⟩
    have e1 : nI k + 1 = nI (k + 1) := nI_1 k
    have hp := pg_ok hok.2.2.2 (k := k) (by omega)
    unfold f_X7_span_80
    rw [if_neg (by rw [nlt (by omega) (by omega)]; omega), passes_eq (by omega) hS hok (by omega) (fun y => by have := hC y; omega), Option.bind_some, e1]
    exact ih n (k + 1) (m + 1) _ (by omega) (by omega) (bd_ov hC hm (by omega) hp) (by omega) (by omega)
theorem s_span : S_span Inv := by
  intro a b x w V U h
  obtain ⟨S, A, hSS⟩ := h.2.2.2.2.1
  obtain ⟨hok, hX, hC, hM, -⟩ := id hSS
  have h24 := hok.2.2.1
  have hM' : ShM (st U 0 0 0 4) S := by rw [st_id (by omega)]; exact hM
  unfold f_X6_span f_X7_span
  rcases dich a S.2.length with ⟨p, hp, rfl⟩ | hk
  · rw [has_yes hX.1 (by omega) hp, par_yes hM'.1 (by omega) hp, Option.bind_some, Option.bind_some, if_neg i10, if_neg i10]
    dsimp only
    rcases dich b S.2.length with ⟨q, hq, rfl⟩ | hk
    · rw [has_yes hX.1 (by omega) hq, par_yes hM'.1 (by omega) hq, Option.bind_some, Option.bind_some, if_neg i10, if_neg i10]
      dsimp only
      by_cases hpq : q < p
      · have c : nI q < nI p := (nlt (by omega) (by omega)).mpr hpq
        rw [if_pos c, if_pos c]
        exact ⟨_, _, rfl, rfl, rfl, inv_t h⟩
      · have c : ¬ nI q < nI p := fun z => hpq ((nlt (by omega) (by omega)).mp z)
        rw [if_neg c, if_neg c, isBetween_eq, show (0 : Int64) = (0 : Int32).toInt64 from rfl, show (5 : Int64) = (5 : Int32).toInt64 from rfl, inw, Option.bind_some, Option.bind_some]
        by_cases h1 : 0 ≤ x ∧ x ≤ 5
        · rw [if_neg (fun q => ((b01z _).mp q) h1), if_neg (fun q => ((b01z _).mp q) h1)]
          dsimp only
          rw [isBetween_eq, show (1 : Int64) = (1 : Int32).toInt64 from rfl, inw, Option.bind_some, Option.bind_some]
          by_cases h2 : 0 ≤ w ∧ w ≤ 1
          · rw [if_neg (fun q => ((b01z _).mp q) h2), if_neg (fun q => ((b01z _).mp q) h2)]
            dsimp only
            obtain ⟨y, y1, rfl⟩ := btw (n := 5) (by omega) h1
            unfold f_X1_toThemselves
            have t1 : f_X1_toThemselves_2 4096 96 0 V = _ := toT_x (V := V) 6 4096 0 V (by omega) (by omega)
            have t2 : ms V 96 (fun x => if 0 ≤ x ∧ x < 6 then nI (1000 * (x + 1)) else V 96 x) = ms V 96 (cf C0 (V 96)) := by
              congr 1
              funext x
              unfold cf C0
              by_cases hx : x < 6
              · rw [if_pos (by omega), if_pos hx, if_pos hx]
              · rw [if_neg (by omega), if_neg hx]
            have t3 := span_x (w := w) hok hX hq (show y < 6 by omega) (q + 1 - p) 4096 p 20 C0 (V 96) (by omega) (by omega) bd0 (by omega) (by omega)
            have m1 : f_X7_span_55 4096 (nI p) (nI q) (nI y) w 0 (st U 0 0 0) = _ := sp55 (U := U) 6 4096 0 (st U 0 0 0) (by omega) (by omega)
            have m2 : ms (ms (st U 0 0 0) 9 (fun y => if 0 ≤ y ∧ y < 6 then nI y else st U 0 0 0 9 y)) 10 (fun y => if 0 ≤ y ∧ y < 6 then 0 else st U 0 0 0 10 y) = mc (st U 0 0 0) C0 := by
              refine mc_ext (fun a q1 q2 => by rw [ms_id q2, ms_id q1]) (fun x => ?_) (fun x => ?_)
              · rw [ms_ne (by omega), ms_same]
                unfold sf C0
                by_cases hx : x < 6
                · rw [if_pos (by omega), if_pos hx, if_pos hx]
                  have e : nI (1000 * (x + 1) / 1000) - 1 = nI (1000 * (x + 1) / 1000 - 1) := nsb (b := 1) (by omega)
                  rw [e]
                  congr 1
                  omega
                · rw [if_neg (by omega), if_neg hx]
              · rw [ms_same]
                unfold af C0
                by_cases hx : x < 6
                · rw [if_pos (by omega), if_pos hx, if_pos hx, Nat.mul_mod_right]; rfl
                · rw [if_neg (by omega), if_neg hx]
            have m3 := span_m (U := st U 0 0 0) (w := w) hok hM' hq (show y < 6 by omega) (q + 1 - p) 4096 p 20 C0 (by omega) (by omega) bd0 (by omega) (by omega)
            rw [t1, t2, Option.bind_some, t3, m1, m2, m3]
            refine ⟨_, _, rfl, rfl, rfl, ?_⟩
            dsimp only
            have hV : ∀ y, y ≠ 96 → ms V 96 (cf (spC S.2 (q + 1 - p) p C0) (V 96)) y = V y := fun y hy => ms_id hy
            refine inv_q h hSS ⟨fun a q => hV a (by omega), fun k _ => by rw [hV 4 (by omega)]⟩ (by rw [hV 0 (by omega)]) (h.2.1.cg (by rw [hV 0 (by omega)]) (by rw [hV 0 (by omega)]) ?_ ?_) (hC.cg h24 (by rw [hV 4 (by omega)]) (fun k hk => hV _ (by omega))) (fun y hy => by rw [hV 41 (by omega)]; exact h.2.2.2.2.2.2 y hy) ?_
            · rw [mc_id (by omega) (by omega), st_ne2 (by omega)]
            · rw [mc_id (by omega) (by omega), st_ne2 (by omega)]
            · exact qm_t.tr ⟨fun a q1 q2 q3 q4 => mc_id (by omega) (by omega), by rw [mc_id (by omega) (by omega)], by rw [mc_id (by omega) (by omega)], by rw [mc_id (by omega) (by omega)]⟩
          · rw [if_pos ((b01z _).mpr h2), if_pos ((b01z _).mpr h2)]
            exact ⟨_, _, rfl, rfl, rfl, inv_t h⟩
        · rw [if_pos ((b01z _).mpr h1), if_pos ((b01z _).mpr h1)]
          exact ⟨_, _, rfl, rfl, rfl, inv_t h⟩
    · rw [has_no hX.1 (by omega) hk, par_no hM'.1 (by omega) hk, Option.bind_some, Option.bind_some, if_pos rfl, if_pos rfl]
      exact ⟨_, _, rfl, rfl, rfl, inv_t h⟩
  · rw [has_no hX.1 (by omega) hk, par_no hM'.1 (by omega) hk, Option.bind_some, Option.bind_some, if_pos rfl, if_pos rfl]
    exact ⟨_, _, rfl, rfl, rfl, inv_t h⟩

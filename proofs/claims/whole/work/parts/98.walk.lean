set_option maxHeartbeats 8000000 in
set_option maxRecDepth 100000 in
theorem whole_start {p : Program} {e : Env} {s : State} {m : MethodId} {below : List Frame} {meth : Method} {c : Code} (l : Launch) (hflags : l.flags = flags0) {b L : Nat} {xs : Nat → Int32} (hL : L ≤ 3072) (C0 : lw_At p s m meth c b L xs) : W p l e room_1 s m #[Value.ref b] below meth c s.heap [] 0 0 (lw_Z below #[Value.ref b] s) (entryFrame m ([Value.ref b] : List Value).toArray 4) := by
  obtain ⟨hx, hb, hr, hml, hown, hts, hX, hbl, hlocks, hgv⟩ := id C0
  have hT : ∀ w ∈ lw_g, w.before #[Value.ref b] s = true := fun w hw => hts w (List.mem_filter.mp hw).1
  obtain ⟨D, a, hK, hA3⟩ := start_k hts
  obtain ⟨sf, hZf⟩ := start_s hts hgv
  have hN := start_n hts
  have hAO : va_AO RX2 s ∧ va_AO RX3 s ∧ va_AO RX4 s := ⟨va_AO.of (hts (.arrayOver (.object RX2)) (List.mem_of_getElem? (i := 83) (by decide +kernel))), va_AO.of (hts (.arrayOver (.object RX3)) (List.mem_of_getElem? (i := 154) (by decide +kernel))), va_AO.of (hts (.arrayOver (.object RX4)) (List.mem_of_getElem? (i := 174) (by decide +kernel)))⟩
  obtain ⟨gX, hgX⟩ : ∃ gX : GP, gX = (D, a, fun i => s.heap.size + i, sf) := ⟨_, rfl⟩
  obtain ⟨gM, hgM⟩ : ∃ gM : GP, gM = (D, a, fun i => s.heap.size + 225 + i, sf) := ⟨_, rfl⟩
  have aX : ∀ i, ad gX i = s.heap.size + i := fun i => by rw [hgX]; rfl
  have aM : ∀ i, ad gM i = s.heap.size + 225 + i := fun i => by rw [hgM]; rfl
  have gX0 : ∀ i, ad gX i = ad gX 0 + i := fun i => by have h1 := aX i; have h2 := aX 0; omega
  have gM0 : ∀ i, ad gM i = ad gM 0 + i := fun i => by have h1 := aM i; have h2 := aM 0; omega
  have kX : CK gX s := by rw [hgX]; exact ⟨hK, hA3, hAO, start_m hts⟩
  have kM : CK gM s := by rw [hgM]; exact ⟨hK, hA3, hAO, start_m hts⟩
  have zX : ZS gX (AL s) s s.heap := by rw [hgX]; exact hZf
  have zM : ZS gM (AL s) s s.heap := by rw [hgM]; exact hZf
  have hBX : BZ p s m #[Value.ref b] c gX code 4 RL := ⟨hx, hb, hml, hown, hT, kX, gX0⟩
  have hBM : BZ p s m #[Value.ref b] c gM code 4 RL := ⟨hx, hb, hml, hown, hT, kM, gM0⟩
  have hl := lv_entry ([.ref b]) (n := 4) (Nat.le_of_ble_eq_true rfl)
  rw [lg_entry_eq]
  generalize (lg_sl ([.ref b]) ++ List.replicate (4 - (lg_sl ([.ref b])).length) Slot.unset).toArray = ls at hl ⊢
  have hl : lv_has ls 4 [(0, .ref b)] := hl
  have hz0 : OZ gX 0 (fun _ => .inr (0, [])) s s.heap [] := ⟨⟨by rw [aX]; rfl, fun i hi => absurd hi (by omega)⟩, va_S.rf⟩
  refine z_new (n := 0) (C := RX6) (T := TX6) (N := 14) (ci := 5) (fs := [.null, .null, .null, .null, .null, .null, .null, .null, .null, .null, .null, .int 0, .int 0, .int 0]) hBX hz0 inX6g tyX6 tyX6_ok kc_74 kc_75 kc_62 rfl dfX6 (Nat.le_of_ble_eq_true rfl) (Nat.le_of_ble_eq_true rfl) dL_law_0 (fun H hz => ?_)
  refine lv_dup hx hb dL_law_3 rfl ?_
  refine va_callv (va_runI (As := []) (rest := [.ref (ad gX 0)]) ⟨hx, hb, hml, hown, hT⟩ (c_X6_init l gX0 UP_eq) ⟨callB_of 0 hT (gi_wy kc_78) rfl rfl rfl (hT _ kc_62) (hT _ kc_76) (by decide +kernel) ⟨(Nat.le_of_ble_eq_true rfl), (Nat.le_of_ble_eq_true rfl)⟩, rfl, hT _ kc_77⟩ ⟨fun a U f mk q => ⟨q.1, q.2.1, q.2.2.calling⟩, fun U hU hW => ⟨rfl, by rw [hU]; exact hz.1, kX.warm hW⟩⟩ rfl rfl hl.1 rfl (lv_room (Nat.le_of_ble_eq_true rfl)) dL_law_4 ⟨(Nat.le_of_ble_eq_true rfl), (Nat.le_of_ble_eq_true rfl)⟩) hz.2 (fun q _ h => h) (fun q h => h) (fun u t H1 locs1 ht _ _ hB1 _ _ hS1 => ?_)
  obtain ⟨pX, sX⟩ := hB1
  rw [ht] at pX sX
  refine lv_astore_n (lv' := [(1, .ref (ad gX 0)), (0, .ref b)]) hx hb dL_law_7 rfl hl (by decide) rfl (fun ls hl => ?_)
  refine va_forget (fun q hq => ?_) ?_
  · have h1 := hS1.2.2 q hq
    have h2 : ad gX 0 ≤ q.base := h1
    rw [aX] at h2
    omega
  have e1 : H1.size = ad gM 0 := by have h1 := aX 0; have h2 := aM 0; omega
  have hKn := kM.1.1 6 _ rfl
  have o0 : ∀ q, q < s.heap.size → H1[q]? = s.heap[q]? := fun q hq => hS1.2.1 q hq (fun h => by
    have h2 : ad gX 0 ≤ q := h
    rw [aX] at h2
    omega)
  refine W.newcK (C := RX7) (n := 30) hx hb hown (hT _ kc_716) (hT _ kc_717) (hT _ kc_68) rfl dL_law_8 (Nat.le_of_ble_eq_true rfl) (Nat.le_of_ble_eq_true rfl) hKn.2.1 e1 fun H2 kC hkC c1 z1 o1 => ?_
  have hz1 : OZ gM 0 (fun _ => .inr (0, [])) s H1 [] := ⟨⟨e1, fun i hi => absurd hi (by omega)⟩, by rw [e1, aM]; omega, fun q hq _ => o0 q hq, fun q hq => absurd hq (by simp)⟩
  have hz2 : OZ gM 1 (UP (fun _ => .inr (0, [])) 0 (.inr (6, [.int 0, .int 0, .null, .null, .null, .null, .null, .null, .null, .int 0, .null, .int 0, .int 0, .int 0, .int 0, .int 0, .int 0, .int 0, .int 0, .null, .null, .null, .null, .int 0, .null, .int 0, .null, .null, .null, .int 0]))) s H2 [] := hz1.push gM0 z1 o1 ⟨_, rfl, (u_born tyX7 hT inX7g hKn hkC c1 tyX7_ok).to dfX7⟩
  have pX2 : va_P gX.1 zcls (zW gX LX V0X) H2 := pX.kept (fun k q hq => o1 q.1 (by rw [← e1]; exact (pX k q hq).lt))
  have hS2 : va_S (AL s) s.heap H2 [] := ⟨by rw [z1, aM]; omega, fun q hq _ => (o1 q (by rw [aM]; omega)).trans (o0 q hq), fun q hq => absurd hq (by simp)⟩
  refine lv_dup hx hb dL_law_11 rfl ?_
  refine va_callv (va_runI (As := []) (rest := [.ref (ad gM 0)]) ⟨hx, hb, hml, hown, hT⟩ (c_X7_init l gM0 UP_eq) ⟨callB_of 0 hT (gi_wy kc_720) rfl rfl rfl (hT _ kc_68) (hT _ kc_718) (by decide +kernel) ⟨(Nat.le_of_ble_eq_true rfl), (Nat.le_of_ble_eq_true rfl)⟩, rfl, hT _ kc_719⟩ ⟨fun a U f mk q => ⟨q.1, q.2.1, q.2.2.calling⟩, fun U hU hW => ⟨rfl, by rw [hU]; exact hz2.1, kM.warm hW⟩⟩ rfl rfl hl.1 rfl (lv_room (Nat.le_of_ble_eq_true rfl)) dL_law_12 ⟨(Nat.le_of_ble_eq_true rfl), (Nat.le_of_ble_eq_true rfl)⟩) hS2 (fun q _ h => by have h2 : ad gM 0 ≤ q := h; rw [aM] at h2; show s.heap.size ≤ q; omega) (fun q h => by have h2 : ad gM 0 ≤ q := h; rw [aM] at h2; show s.heap.size ≤ q; omega) (fun u t H3 locs3 ht3 _ _ hB3 _ hk3 hS3 => ?_)
  obtain ⟨pM, sM⟩ := hB3
  rw [ht3] at pM sM
  have pX3 : va_P gX.1 zcls (zW gX LX V0X) H3 := pX2.kept (fun k q hq => hk3 q.1 ((pX2 k q hq).lt) (fun h => by
    have h2 : ad gM 0 ≤ q.1 := h
    obtain ⟨k1, k2⟩ := zW_ad hq
    have k3 : k < 225 := k1
    rw [k2, aX, aM] at h2
    omega))
  refine lv_astore_n (lv' := [(2, .ref (ad gM 0)), (1, .ref (ad gX 0)), (0, .ref b)]) hx hb dL_law_15 rfl hl (by decide) rfl (fun ls hl => ?_)
  refine lv_iconst (v := (0 : Int32)) hx hb dL_law_16 (by decide) ?_
  refine lv_istore_n (lv' := [(3, .int (nI 0)), (2, .ref (ad gM 0)), (1, .ref (ad gX 0)), (0, .ref b)]) hx hb dL_law_17 rfl hl (by decide) rfl (fun ls hl => ?_)
  have hLB : LB p s m #[Value.ref b] c gX gM b L xs := ⟨hx, hb, hml, hown, hT, ⟨kX.1, fun i j _ _ h => by rw [aX, aX] at h; omega, zX, fun i _ => by rw [aX]; omega⟩, ⟨kM.1, fun i j _ _ h => by rw [aM, aM] at h; omega, zM, fun i _ => by rw [aM]; omega⟩, hN, fun i j hi hj h => by rw [aX, aM] at h; omega, hX, hbl⟩
  exact law_loop hr hlocks hL s_row s_set s_copy s_drop s_feed s_sheet s_fault s_undo s_put s_take s_move s_change s_style s_paragraph s_label s_called s_span s_register s_bears s_changed s_nearest s_sets s_deepest s_who s_lost s_drawn s_image s_restore s_kind s_as s_ask s_trace s_count s_status hLB ⟨(Nat.le_of_ble_eq_true rfl), (Nat.le_of_ble_eq_true rfl)⟩ (Nat.le_of_ble_eq_true rfl) (Nat.le_of_ble_eq_true rfl) (L + 1) 0 V0X V0M H3 locs3 ls (Nat.zero_le L) (by omega) inv_0 ⟨pX3, pM, hS3⟩ (lv_sub hl [3, 2, 1, 0] rfl)

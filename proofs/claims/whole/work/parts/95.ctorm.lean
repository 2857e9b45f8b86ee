theorem kc_721 : Cond.methodLink RX7 1 objectInit ∈ lw_g := mg 721 (by decide +kernel) (by decide +kernel)
theorem kc_724 : Cond.fieldLink RX7 7 "CountedListsModel" "lane" "[I" ∈ lw_g := mg 724 (by decide +kernel) (by decide +kernel)
theorem kc_725 : Cond.fieldLink RX7 13 "CountedListsModel" "many" "[I" ∈ lw_g := mg 725 (by decide +kernel) (by decide +kernel)
theorem kc_726 : Cond.fieldLink RX7 16 "CountedListsModel" "item" "[I" ∈ lw_g := mg 726 (by decide +kernel) (by decide +kernel)
theorem kc_727 : Cond.fieldLink RX7 19 "CountedListsModel" "sheet" "[I" ∈ lw_g := mg 727 (by decide +kernel) (by decide +kernel)
theorem kc_728 : Cond.fieldLink RX7 22 "CountedListsModel" "fresh" "[I" ∈ lw_g := mg 728 (by decide +kernel) (by decide +kernel)
theorem kc_729 : Cond.fieldLink RX7 25 "CountedListsModel" "then" "[I" ∈ lw_g := mg 729 (by decide +kernel) (by decide +kernel)
theorem kc_730 : Cond.fieldLink RX7 28 "CountedListsModel" "was" "[I" ∈ lw_g := mg 730 (by decide +kernel) (by decide +kernel)
theorem kc_732 : Cond.fieldLink RX7 31 "CountedListsModel" "tape" "[I" ∈ lw_g := mg 732 (by decide +kernel) (by decide +kernel)
theorem kc_741 : Cond.fieldLink RX7 34 "CountedListsModel" "source" "[I" ∈ lw_g := mg 741 (by decide +kernel) (by decide +kernel)
theorem kc_742 : Cond.fieldLink RX7 37 "CountedListsModel" "more" "[I" ∈ lw_g := mg 742 (by decide +kernel) (by decide +kernel)
theorem kc_743 : Cond.fieldLink RX7 40 "CountedListsModel" "counts" "[I" ∈ lw_g := mg 743 (by decide +kernel) (by decide +kernel)
theorem kc_744 : Cond.fieldLink RX7 43 "CountedListsModel" "sign" "[I" ∈ lw_g := mg 744 (by decide +kernel) (by decide +kernel)
theorem kc_746 : Cond.fieldLink RX7 46 "CountedListsModel" "held" "[I" ∈ lw_g := mg 746 (by decide +kernel) (by decide +kernel)
theorem kc_748 : Cond.fieldLink RX7 49 "CountedListsModel" "isKept" "[Z" ∈ lw_g := mg 748 (by decide +kernel) (by decide +kernel)
theorem kc_749 : Cond.fieldLink RX7 53 "CountedListsModel" "kept" "[I" ∈ lw_g := mg 749 (by decide +kernel) (by decide +kernel)
theorem kc_750 : Cond.fieldLink RX7 56 "CountedListsModel" "trace" "[I" ∈ lw_g := mg 750 (by decide +kernel) (by decide +kernel)
theorem kc_813 : Cond.arrayClass .boolean ∈ lw_g := mg 813 (by decide +kernel) (by decide +kernel)
/-! The reference's constructor. -/
def rm_X7_init : Room := { frames := 1, cells := 16, slots := 2852, locals := 12 }
def lnF : Nat → Int32 := fun k => if k < 8 then -1 else 0
def V0M : Mem := fun i => if i = 1 then lnF else fun _ => 0
def XM (g : GP) (n : Nat) (E : Nat → va_E) (fs : List Value) (f : Nat → Int32) : Prop := E 0 = .inr (6, fs) ∧ (1 < n → E 1 = .inl (ac g 0, 8, .inl f)) ∧ ∀ i, i < n → i ≠ 0 → i ≠ 1 → E i = EK g (LM.1 i) i (fun _ => 0)
def YM (g : GP) (n : Nat) (fs : List Value) (f : Nat → Int32) (s : State) (H : Heap) (locs : List Loc) : Prop := ∃ E, OZ g n E s H locs ∧ XM g n E fs f
theorem int_at {D : va_G} {a N : Nat} {cA : ClassId} {f f' : Nat → Int32} {H : Heap} (h : va_at D zcls (a, .inl (cA, N, .inl f)) H) (hf : ∀ j, j < N → f j = f' j) : va_at D zcls (a, .inl (cA, N, .inl f')) H := by
  show H[a]? = some (vp_cell cA (N, .inl f'))
  have h1 : H[a]? = some (vp_cell cA (N, .inl f)) := h
  rw [h1, vp_cell_i, vp_cell_i]
  unfold arrV
  congr 3
  funext j
  show Value.int (f j.val) = Value.int (f' j.val)
  rw [hf j.val j.isLt]
section MRU
variable {p : Program} {l : Launch} {e : Env} {R : Room} {s : State} {m : MethodId} {args : Array Value} {below : List Frame} {meth : Method} {c : Code} {H : Heap} {locs : List Loc} {cells slots : Nat} {Q : State → Prop}
variable {cc : ByteArray} {pc : Nat} {ls : Array Slot} {rest : List Value} {g : GP} {nL n i : Nat} {fs : List Value} {f : Nat → Int32}
theorem m_a1 {x : Int32} (hB : BZ p s m args c g cc nL RX7) (hz : YM g 1 fs f s H locs) (harr : Cond.arrayClass .int ∈ lw_g) (hn : ¬ x < 0) (hN : x.toNatClampNeg = 8) (hcells : cells + 1 ≤ R.cells) (hslots : slots + 8 ≤ R.slots) (hdg : decode cc pc = .ok (.newarray .int, 2))
    (kk : ∀ (H1 : Heap), YM g 2 fs (fun _ => 0) s H1 locs → W p l e R s m args below meth c H1 locs (cells + 1) (slots + 8) Q (F0 m (pc + 2) ls (.ref (ad g 1) :: rest))) : W p l e R s m args below meth c H locs cells slots Q (F0 m pc ls (.int x :: rest)) := by
  obtain ⟨E, hz, hX⟩ := hz
  refine z_newa (N := 8) (t0 := 0) (atype := .int) (ty := .int) (a0 := (8, .inl (fun _ => 0))) hB hz rfl rfl (fun h => h) harr (fun _ => rfl) hn hN (by decide) hcells hslots hdg (fun H hz => ?_)
  exact kk H ⟨_, hz, by rw [UP_ne (by omega)]; exact hX.1, fun _ => UP_eq, fun i hi q0 q1 => absurd hi (by omega)⟩
theorem m_arr {N t0 : Nat} {x : Int32} {atype : ArrayType} {ty : FieldType} (hB : BZ p s m args c g cc nL RX7) (hz : YM g n fs f s H locs) (h1 : 2 ≤ n) (hty : newarray.typeOf atype = ty) (ht : (ztys (ac g))[t0]? = some (ac g t0, ty)) (hRA : va_RA s (ac g t0) ty → s.vm.findClass ("[" ++ ty.toString) = some (ac g t0)) (harr : Cond.arrayClass ty ∈ lw_g) (ha : ∀ cA : ClassId, vp_cell cA (N, .inl (fun _ => 0)) = arrV cA N (fun _ => defaultValue ty)) (hk : EK g (LM.1 n) n (fun _ => 0) = .inl (ac g t0, N, .inl (fun _ => 0))) (hn : ¬ x < 0) (hN : x.toNatClampNeg = N) (hbytes : N * componentBytes ty ≤ 536870912) (hcells : cells + 1 ≤ R.cells) (hslots : slots + N ≤ R.slots) (hdg : decode cc pc = .ok (.newarray atype, 2))
    (kk : ∀ (H1 : Heap), YM g (n + 1) fs f s H1 locs → W p l e R s m args below meth c H1 locs (cells + 1) (slots + N) Q (F0 m (pc + 2) ls (.ref (ad g n) :: rest))) : W p l e R s m args below meth c H locs cells slots Q (F0 m pc ls (.int x :: rest)) := by
  obtain ⟨E, hz, a1, a2, a3⟩ := hz
  refine z_newa (N := N) (t0 := t0) (a0 := (N, .inl (fun _ => 0))) hB hz hty ht hRA harr ha hn hN hbytes hcells hslots hdg (fun H hz => ?_)
  refine kk H ⟨_, hz, by rw [UP_ne (by omega)]; exact a1, fun _ => by rw [UP_ne (by omega)]; exact a2 (by omega), fun i hi q0 q1 => ?_⟩
  by_cases c : i = n
  · subst c
    rw [UP_eq, hk]
  · rw [UP_ne c]
    exact a3 i (by omega) q0 q1
theorem m_st {j : Nat} {x : Int32} (hB : BZ p s m args c g cc nL RX7) (hz : YM g n fs f s H locs) (h1 : 1 < n) (hj : j < 8) (hdg : decode cc pc = .ok (.iastore, 1))
    (kk : ∀ (H1 : Heap) (locs1 : List Loc), YM g n fs (upd f j x) s H1 locs1 → W p l e R s m args below meth c H1 locs1 cells slots Q (F0 m (pc + 1) ls rest)) : W p l e R s m args below meth c H locs cells slots Q (F0 m pc ls (.int x :: .int (nI j) :: .ref (ad g 1) :: rest)) := by
  obtain ⟨E, hz, a1, a2, a3⟩ := hz
  have ej : (nI j).toNatClampNeg = j := nI_clamp (by omega)
  refine z_iast (i := 1) (N := 8) (f := f) hB hz h1 (a2 h1) (vp_in_nI hj (by omega)) hdg (fun H1 locs1 hz => kk H1 locs1 ⟨_, hz, by rw [UP_ne (by omega)]; exact a1, fun _ => by rw [UP_eq, ej], fun i hi q0 q1 => by rw [UP_ne q1]; exact a3 i hi q0 q1⟩)
theorem m_putF {index : Nat} {v : Value} {ty : FieldType} (hB : BZ p s m args c g cc nL RX7) (hnm : meth.name = "<init>") (hz : YM g n fs f s H locs) (h1 : 1 ≤ n) (k : Nat) (hk : k < 30) (hl : Cond.fieldLink RX7 index (TX7 k).1 (TX7 k).2.1 (TX7 k).2.2.1 ∈ lw_g) (hfin : (TX7 k).2.2.2 = true) (hdecl : (TX7 k).1 = RX7) (hd : parseFieldDescriptor (TX7 k).2.2.1 = some ty) (hn : narrow ty v = v) (hfit : fits ty v = true) (hlen : k < fs.length) (hdg : decode cc pc = .ok (.putfield index, 3))
    (kk : ∀ (H1 : Heap) (locs1 : List Loc), YM g n (fs.set k v) f s H1 locs1 → W p l e R s m args below meth c H1 locs1 cells slots Q (F0 m (pc + 3) ls rest)) : W p l e R s m args below meth c H locs cells slots Q (F0 m pc ls (v :: .ref (ad g 0) :: rest)) := by
  obtain ⟨E, hz, a1, a2, a3⟩ := hz
  exact z_putF (i := 0) hB hnm hz (by omega) a1 rfl inX7g tyX7 tyX7_ok nmX7 k hk hl hfin hdecl hd hn hfit hlen hdg (fun H1 locs1 hz => kk H1 locs1 ⟨_, hz, UP_eq, fun q => by rw [UP_ne (by omega)]; exact a2 q, fun i hi q0 q1 => by rw [UP_ne q0]; exact a3 i hi q0 q1⟩)
end MRU
def QMI (g : GP) : Array Value → State → Outcome → State → Prop := va_Qv (fun _ : Unit => True) (fun _ t => va_P g.1 zcls (zW g LM V0M) t.heap ∧ t.heap.size = ad g 0 + 17) (FR g)
def lnG : Nat → Int32 := (upd (upd (upd (upd (upd (upd (upd (upd (fun _ => 0) 0 (-1 : Int32)) 1 (-1 : Int32)) 2 (-1 : Int32)) 3 (-1 : Int32)) 4 (-1 : Int32)) 5 (-1 : Int32)) 6 (-1 : Int32)) 7 (-1 : Int32))
def fsM (g : GP) : List Value := [.int 0, .int 0, .ref (ad g 1), .ref (ad g 2), .ref (ad g 3), .ref (ad g 4), .ref (ad g 5), .ref (ad g 6), .ref (ad g 7), .int 0, .ref (ad g 8), .int 0, .int 0, .int 0, .int 0, .int 0, .int 0, .int 0, .int 0, .ref (ad g 9), .ref (ad g 10), .ref (ad g 11), .ref (ad g 12), .int 0, .ref (ad g 13), .int 0, .ref (ad g 14), .ref (ad g 15), .ref (ad g 16), .int 0]
theorem dfX7 : ∀ j, j < 30 → defaultValue (tyX7 j) = vp_V [.int 0, .int 0, .null, .null, .null, .null, .null, .null, .null, .int 0, .null, .int 0, .int 0, .int 0, .int 0, .int 0, .int 0, .int 0, .int 0, .null, .null, .null, .null, .int 0, .null, .int 0, .null, .null, .null, .int 0] j := by
  intro j hj
  rcases (show j = 0 ∨ j = 1 ∨ j = 2 ∨ j = 3 ∨ j = 4 ∨ j = 5 ∨ j = 6 ∨ j = 7 ∨ j = 8 ∨ j = 9 ∨ j = 10 ∨ j = 11 ∨ j = 12 ∨ j = 13 ∨ j = 14 ∨ j = 15 ∨ j = 16 ∨ j = 17 ∨ j = 18 ∨ j = 19 ∨ j = 20 ∨ j = 21 ∨ j = 22 ∨ j = 23 ∨ j = 24 ∨ j = 25 ∨ j = 26 ∨ j = 27 ∨ j = 28 ∨ j = 29 by omega) with rfl | rfl | rfl | rfl | rfl | rfl | rfl | rfl | rfl | rfl | rfl | rfl | rfl | rfl | rfl | rfl | rfl | rfl | rfl | rfl | rfl | rfl | rfl | rfl | rfl | rfl | rfl | rfl | rfl | rfl <;> rfl
theorem dfX6 : ∀ j, j < 14 → defaultValue (tyX6 j) = vp_V [.null, .null, .null, .null, .null, .null, .null, .null, .null, .null, .null, .int 0, .int 0, .int 0] j := by
  intro j hj
  rcases (show j = 0 ∨ j = 1 ∨ j = 2 ∨ j = 3 ∨ j = 4 ∨ j = 5 ∨ j = 6 ∨ j = 7 ∨ j = 8 ∨ j = 9 ∨ j = 10 ∨ j = 11 ∨ j = 12 ∨ j = 13 by omega) with rfl | rfl | rfl | rfl | rfl | rfl | rfl | rfl | rfl | rfl | rfl | rfl | rfl | rfl <;> rfl
theorem ln_eq : ∀ j, j < 8 → lnG j = lnF j := by
  intro j hj
  rcases (show j = 0 ∨ j = 1 ∨ j = 2 ∨ j = 3 ∨ j = 4 ∨ j = 5 ∨ j = 6 ∨ j = 7 by omega) with rfl | rfl | rfl | rfl | rfl | rfl | rfl | rfl <;> rfl
theorem ym_end {g : GP} {s : State} {H : Heap} {locs : List Loc} (hz : YM g 17 (fsM g) lnG s H locs) : va_P g.1 zcls (zW g LM V0M) H ∧ H.size = ad g 0 + 17 := by
  obtain ⟨E, ⟨⟨h1, h2⟩, h3⟩, a1, a2, a3⟩ := hz
  refine ⟨fun k q hq => ?_, h1⟩
  obtain ⟨k1, k2⟩ := zW_ad hq
  have k1 : k < 17 := k1
  rw [zW_k ⟨k1, rfl⟩] at hq
  cases hq
  have hc := h2 k k1
  by_cases c0 : k = 0
  · subst c0
    rw [a1] at hc
    exact hc
  by_cases c1 : k = 1
  · subst c1
    rw [a2 (by omega)] at hc
    exact int_at hc ln_eq
  have e : V0M k = fun _ => 0 := if_neg c1
  rw [a3 k k1 c0 c1] at hc
  rw [e]
  exact hc
set_option maxHeartbeats 8000000 in
set_option maxRecDepth 100000 in
theorem c_X7_init (l : Launch) {g : GP} (hg : ∀ i, ad g i = ad g 0 + i) {E : Nat → va_E} (hE : E 0 = .inr (6, [.int 0, .int 0, .null, .null, .null, .null, .null, .null, .null, .int 0, .null, .int 0, .int 0, .int 0, .int 0, .int 0, .int 0, .int 0, .int 0, .null, .null, .null, .null, .int 0, .null, .int 0, .null, .null, .null, .int 0])) : Met l yX7_init (wy yX7_init cX7_init 1 none) rm_X7_init (va_Pc [.ref (ad g 0)] (fun U => ZR g 1 E U.heap ∧ CK g U)) (QMI g) 16 2852 (FR g) := by
  refine Met.ofW (cc := cX7_init) (maxL := 1) (ret := none) (by decide) rfl ?_
  intro p e s m args below meth c s₁ B hml hv
  obtain ⟨hargs, hZ, hCK⟩ := hv
  subst hargs
  have hts := atoms_spec (ws := wy yX7_init cX7_init 1 none) B.pre
  have hown : s.vm.findClass RX7 = some m.cls := findClass_of_methodNamed B.named
  have hl := lv_entry [.ref (ad g 0)] (n := 1) (Nat.le_of_ble_eq_true rfl)
  rw [lg_entry_eq]
  have hr := B.returns
  have hlk := B.notSynchronized
  have hnm : meth.name = "<init>" := (name_of_methodNamed B.named B.method).1
  have hB : BZ p s m [Value.ref (ad g 0)].toArray c g cX7_init 1 RX7 := ⟨B.exec, B.bytes, hml, hown, fun w hw => hts w (List.mem_cons_of_mem _ hw), hCK, hg⟩
  have hz : YM g 1 [.int 0, .int 0, .null, .null, .null, .null, .null, .null, .null, .int 0, .null, .int 0, .int 0, .int 0, .int 0, .int 0, .int 0, .int 0, .int 0, .null, .null, .null, .null, .int 0, .null, .int 0, .null, .null, .null, .int 0] (fun _ => 0) s s.heap [] := ⟨E, ⟨hZ, va_S.rf⟩, hE, fun q => absurd q (by omega), fun i hi q0 => absurd hi (by omega)⟩
  generalize (lg_sl [Value.ref (ad g 0)] ++ List.replicate (1 - (lg_sl [Value.ref (ad g 0)]).length) Slot.unset).toArray = ls at hl ⊢
  have hl : lv_has ls 1 [(0, .ref (ad g 0))] := hl
  obtain ⟨hx, hb, -, -, hT, -, -⟩ := id hB
  refine lv_aload_n hx hb dX7_init_0 rfl (lv_at hl 0 rfl) ?_
  refine W.objInit hx hb hown (hT _ kc_721) (hT _ kc_80) (hT _ kc_81) rfl (by rw [hml]; exact hl.1) rfl dX7_init_1 (Nat.le_of_ble_eq_true rfl) (Nat.le_of_ble_eq_true rfl) ?_
  refine lv_aload_n hx hb dX7_init_4 rfl (lv_at hl 0 rfl) ?_
  refine lv_bipush (v := (8 : Int32)) hx hb dX7_init_5 (by decide) ?_
  refine m_a1 hB hz kc_115 (by decide) (by decide) (Nat.le_of_ble_eq_true rfl) (Nat.le_of_ble_eq_true rfl) dX7_init_7 (fun H hz => ?_)
  refine lv_dup hx hb dX7_init_9 rfl ?_
  refine lv_iconst (v := (0 : Int32)) hx hb dX7_init_10 (by decide) ?_
  refine lv_iconst (v := (-1 : Int32)) hx hb dX7_init_11 (by decide) ?_
  refine m_st (j := 0) (x := (-1 : Int32)) hB hz (by decide) (by decide) dX7_init_12 (fun H locs hz => ?_)
  refine lv_dup hx hb dX7_init_13 rfl ?_
  refine lv_iconst (v := (1 : Int32)) hx hb dX7_init_14 (by decide) ?_
  refine lv_iconst (v := (-1 : Int32)) hx hb dX7_init_15 (by decide) ?_
  refine m_st (j := 1) (x := (-1 : Int32)) hB hz (by decide) (by decide) dX7_init_16 (fun H locs hz => ?_)
  refine lv_dup hx hb dX7_init_17 rfl ?_
  refine lv_iconst (v := (2 : Int32)) hx hb dX7_init_18 (by decide) ?_
  refine lv_iconst (v := (-1 : Int32)) hx hb dX7_init_19 (by decide) ?_
  refine m_st (j := 2) (x := (-1 : Int32)) hB hz (by decide) (by decide) dX7_init_20 (fun H locs hz => ?_)
  refine lv_dup hx hb dX7_init_21 rfl ?_
  refine lv_iconst (v := (3 : Int32)) hx hb dX7_init_22 (by decide) ?_
  refine lv_iconst (v := (-1 : Int32)) hx hb dX7_init_23 (by decide) ?_
  refine m_st (j := 3) (x := (-1 : Int32)) hB hz (by decide) (by decide) dX7_init_24 (fun H locs hz => ?_)
  refine lv_dup hx hb dX7_init_25 rfl ?_
  refine lv_iconst (v := (4 : Int32)) hx hb dX7_init_26 (by decide) ?_
  refine lv_iconst (v := (-1 : Int32)) hx hb dX7_init_27 (by decide) ?_
  refine m_st (j := 4) (x := (-1 : Int32)) hB hz (by decide) (by decide) dX7_init_28 (fun H locs hz => ?_)
  refine lv_dup hx hb dX7_init_29 rfl ?_
  refine lv_iconst (v := (5 : Int32)) hx hb dX7_init_30 (by decide) ?_
  refine lv_iconst (v := (-1 : Int32)) hx hb dX7_init_31 (by decide) ?_
  refine m_st (j := 5) (x := (-1 : Int32)) hB hz (by decide) (by decide) dX7_init_32 (fun H locs hz => ?_)
  refine lv_dup hx hb dX7_init_33 rfl ?_
  refine lv_bipush (v := (6 : Int32)) hx hb dX7_init_34 (by decide) ?_
  refine lv_iconst (v := (-1 : Int32)) hx hb dX7_init_36 (by decide) ?_
  refine m_st (j := 6) (x := (-1 : Int32)) hB hz (by decide) (by decide) dX7_init_37 (fun H locs hz => ?_)
  refine lv_dup hx hb dX7_init_38 rfl ?_
  refine lv_bipush (v := (7 : Int32)) hx hb dX7_init_39 (by decide) ?_
  refine lv_iconst (v := (-1 : Int32)) hx hb dX7_init_41 (by decide) ?_
  refine m_st (j := 7) (x := (-1 : Int32)) hB hz (by decide) (by decide) dX7_init_42 (fun H locs hz => ?_)
  refine m_putF (v := .ref (ad g 1)) (ty := .array .int) hB hnm hz (by decide) 2 (by decide) kc_724 rfl rfl (by decide +kernel) rfl rfl (Nat.le_of_ble_eq_true rfl) dX7_init_43 (fun H locs hz => ?_)
  have hz : YM g 2 [.int 0, .int 0, .ref (ad g 1), .null, .null, .null, .null, .null, .null, .int 0, .null, .int 0, .int 0, .int 0, .int 0, .int 0, .int 0, .int 0, .int 0, .null, .null, .null, .null, .int 0, .null, .int 0, .null, .null, .null, .int 0] lnG s H locs := hz
  refine lv_aload_n hx hb dX7_init_46 rfl (lv_at hl 0 rfl) ?_
  refine lv_bipush (v := (8 : Int32)) hx hb dX7_init_47 (by decide) ?_
  refine m_arr (n := 2) (N := 8) (t0 := 0) (atype := .int) (ty := .int) hB hz (by decide) rfl rfl (fun h => h) kc_115 (fun _ => rfl) rfl (by decide) (by decide) (Nat.le_of_ble_eq_true rfl) (Nat.le_of_ble_eq_true rfl) (Nat.le_of_ble_eq_true rfl) dX7_init_49 (fun H hz => ?_)
  refine m_putF (v := .ref (ad g 2)) (ty := .array .int) hB hnm hz (by decide) 3 (by decide) kc_725 rfl rfl (by decide +kernel) rfl rfl (Nat.le_of_ble_eq_true rfl) dX7_init_51 (fun H locs hz => ?_)
  have hz : YM g 3 [.int 0, .int 0, .ref (ad g 1), .ref (ad g 2), .null, .null, .null, .null, .null, .int 0, .null, .int 0, .int 0, .int 0, .int 0, .int 0, .int 0, .int 0, .int 0, .null, .null, .null, .null, .int 0, .null, .int 0, .null, .null, .null, .int 0] lnG s H locs := hz
  refine lv_aload_n hx hb dX7_init_54 rfl (lv_at hl 0 rfl) ?_
  refine lv_sipush (v := (320 : Int32)) hx hb dX7_init_55 (by decide) ?_
  refine m_arr (n := 3) (N := 320) (t0 := 0) (atype := .int) (ty := .int) hB hz (by decide) rfl rfl (fun h => h) kc_115 (fun _ => rfl) rfl (by decide) (by decide) (Nat.le_of_ble_eq_true rfl) (Nat.le_of_ble_eq_true rfl) (Nat.le_of_ble_eq_true rfl) dX7_init_58 (fun H hz => ?_)
  refine m_putF (v := .ref (ad g 3)) (ty := .array .int) hB hnm hz (by decide) 4 (by decide) kc_726 rfl rfl (by decide +kernel) rfl rfl (Nat.le_of_ble_eq_true rfl) dX7_init_60 (fun H locs hz => ?_)
  have hz : YM g 4 [.int 0, .int 0, .ref (ad g 1), .ref (ad g 2), .ref (ad g 3), .null, .null, .null, .null, .int 0, .null, .int 0, .int 0, .int 0, .int 0, .int 0, .int 0, .int 0, .int 0, .null, .null, .null, .null, .int 0, .null, .int 0, .null, .null, .null, .int 0] lnG s H locs := hz
  refine lv_aload_n hx hb dX7_init_63 rfl (lv_at hl 0 rfl) ?_
  refine lv_bipush (v := (76 : Int32)) hx hb dX7_init_64 (by decide) ?_
  refine m_arr (n := 4) (N := 76) (t0 := 0) (atype := .int) (ty := .int) hB hz (by decide) rfl rfl (fun h => h) kc_115 (fun _ => rfl) rfl (by decide) (by decide) (Nat.le_of_ble_eq_true rfl) (Nat.le_of_ble_eq_true rfl) (Nat.le_of_ble_eq_true rfl) dX7_init_66 (fun H hz => ?_)
  refine m_putF (v := .ref (ad g 4)) (ty := .array .int) hB hnm hz (by decide) 5 (by decide) kc_727 rfl rfl (by decide +kernel) rfl rfl (Nat.le_of_ble_eq_true rfl) dX7_init_68 (fun H locs hz => ?_)
  have hz : YM g 5 [.int 0, .int 0, .ref (ad g 1), .ref (ad g 2), .ref (ad g 3), .ref (ad g 4), .null, .null, .null, .int 0, .null, .int 0, .int 0, .int 0, .int 0, .int 0, .int 0, .int 0, .int 0, .null, .null, .null, .null, .int 0, .null, .int 0, .null, .null, .null, .int 0] lnG s H locs := hz
  refine lv_aload_n hx hb dX7_init_71 rfl (lv_at hl 0 rfl) ?_
  refine lv_bipush (v := (76 : Int32)) hx hb dX7_init_72 (by decide) ?_
  refine m_arr (n := 5) (N := 76) (t0 := 0) (atype := .int) (ty := .int) hB hz (by decide) rfl rfl (fun h => h) kc_115 (fun _ => rfl) rfl (by decide) (by decide) (Nat.le_of_ble_eq_true rfl) (Nat.le_of_ble_eq_true rfl) (Nat.le_of_ble_eq_true rfl) dX7_init_74 (fun H hz => ?_)
  refine m_putF (v := .ref (ad g 5)) (ty := .array .int) hB hnm hz (by decide) 6 (by decide) kc_728 rfl rfl (by decide +kernel) rfl rfl (Nat.le_of_ble_eq_true rfl) dX7_init_76 (fun H locs hz => ?_)
  have hz : YM g 6 [.int 0, .int 0, .ref (ad g 1), .ref (ad g 2), .ref (ad g 3), .ref (ad g 4), .ref (ad g 5), .null, .null, .int 0, .null, .int 0, .int 0, .int 0, .int 0, .int 0, .int 0, .int 0, .int 0, .null, .null, .null, .null, .int 0, .null, .int 0, .null, .null, .null, .int 0] lnG s H locs := hz
  refine lv_aload_n hx hb dX7_init_79 rfl (lv_at hl 0 rfl) ?_
  refine lv_bipush (v := (76 : Int32)) hx hb dX7_init_80 (by decide) ?_
  refine m_arr (n := 6) (N := 76) (t0 := 0) (atype := .int) (ty := .int) hB hz (by decide) rfl rfl (fun h => h) kc_115 (fun _ => rfl) rfl (by decide) (by decide) (Nat.le_of_ble_eq_true rfl) (Nat.le_of_ble_eq_true rfl) (Nat.le_of_ble_eq_true rfl) dX7_init_82 (fun H hz => ?_)
  refine m_putF (v := .ref (ad g 6)) (ty := .array .int) hB hnm hz (by decide) 7 (by decide) kc_729 rfl rfl (by decide +kernel) rfl rfl (Nat.le_of_ble_eq_true rfl) dX7_init_84 (fun H locs hz => ?_)
  have hz : YM g 7 [.int 0, .int 0, .ref (ad g 1), .ref (ad g 2), .ref (ad g 3), .ref (ad g 4), .ref (ad g 5), .ref (ad g 6), .null, .int 0, .null, .int 0, .int 0, .int 0, .int 0, .int 0, .int 0, .int 0, .int 0, .null, .null, .null, .null, .int 0, .null, .int 0, .null, .null, .null, .int 0] lnG s H locs := hz
  refine lv_aload_n hx hb dX7_init_87 rfl (lv_at hl 0 rfl) ?_
  refine lv_sipush (v := (1824 : Int32)) hx hb dX7_init_88 (by decide) ?_
  refine m_arr (n := 7) (N := 1824) (t0 := 0) (atype := .int) (ty := .int) hB hz (by decide) rfl rfl (fun h => h) kc_115 (fun _ => rfl) rfl (by decide) (by decide) (Nat.le_of_ble_eq_true rfl) (Nat.le_of_ble_eq_true rfl) (Nat.le_of_ble_eq_true rfl) dX7_init_91 (fun H hz => ?_)
  refine m_putF (v := .ref (ad g 7)) (ty := .array .int) hB hnm hz (by decide) 8 (by decide) kc_730 rfl rfl (by decide +kernel) rfl rfl (Nat.le_of_ble_eq_true rfl) dX7_init_93 (fun H locs hz => ?_)
  have hz : YM g 8 [.int 0, .int 0, .ref (ad g 1), .ref (ad g 2), .ref (ad g 3), .ref (ad g 4), .ref (ad g 5), .ref (ad g 6), .ref (ad g 7), .int 0, .null, .int 0, .int 0, .int 0, .int 0, .int 0, .int 0, .int 0, .int 0, .null, .null, .null, .null, .int 0, .null, .int 0, .null, .null, .null, .int 0] lnG s H locs := hz
  refine lv_aload_n hx hb dX7_init_96 rfl (lv_at hl 0 rfl) ?_
  refine lv_sipush (v := (130 : Int32)) hx hb dX7_init_97 (by decide) ?_
  refine m_arr (n := 8) (N := 130) (t0 := 0) (atype := .int) (ty := .int) hB hz (by decide) rfl rfl (fun h => h) kc_115 (fun _ => rfl) rfl (by decide) (by decide) (Nat.le_of_ble_eq_true rfl) (Nat.le_of_ble_eq_true rfl) (Nat.le_of_ble_eq_true rfl) dX7_init_100 (fun H hz => ?_)
  refine m_putF (v := .ref (ad g 8)) (ty := .array .int) hB hnm hz (by decide) 10 (by decide) kc_732 rfl rfl (by decide +kernel) rfl rfl (Nat.le_of_ble_eq_true rfl) dX7_init_102 (fun H locs hz => ?_)
  have hz : YM g 9 [.int 0, .int 0, .ref (ad g 1), .ref (ad g 2), .ref (ad g 3), .ref (ad g 4), .ref (ad g 5), .ref (ad g 6), .ref (ad g 7), .int 0, .ref (ad g 8), .int 0, .int 0, .int 0, .int 0, .int 0, .int 0, .int 0, .int 0, .null, .null, .null, .null, .int 0, .null, .int 0, .null, .null, .null, .int 0] lnG s H locs := hz
  refine lv_aload_n hx hb dX7_init_105 rfl (lv_at hl 0 rfl) ?_
  refine lv_bipush (v := (6 : Int32)) hx hb dX7_init_106 (by decide) ?_
  refine m_arr (n := 9) (N := 6) (t0 := 0) (atype := .int) (ty := .int) hB hz (by decide) rfl rfl (fun h => h) kc_115 (fun _ => rfl) rfl (by decide) (by decide) (Nat.le_of_ble_eq_true rfl) (Nat.le_of_ble_eq_true rfl) (Nat.le_of_ble_eq_true rfl) dX7_init_108 (fun H hz => ?_)
  refine m_putF (v := .ref (ad g 9)) (ty := .array .int) hB hnm hz (by decide) 19 (by decide) kc_741 rfl rfl (by decide +kernel) rfl rfl (Nat.le_of_ble_eq_true rfl) dX7_init_110 (fun H locs hz => ?_)
  have hz : YM g 10 [.int 0, .int 0, .ref (ad g 1), .ref (ad g 2), .ref (ad g 3), .ref (ad g 4), .ref (ad g 5), .ref (ad g 6), .ref (ad g 7), .int 0, .ref (ad g 8), .int 0, .int 0, .int 0, .int 0, .int 0, .int 0, .int 0, .int 0, .ref (ad g 9), .null, .null, .null, .int 0, .null, .int 0, .null, .null, .null, .int 0] lnG s H locs := hz
  refine lv_aload_n hx hb dX7_init_113 rfl (lv_at hl 0 rfl) ?_
  refine lv_bipush (v := (6 : Int32)) hx hb dX7_init_114 (by decide) ?_
  refine m_arr (n := 10) (N := 6) (t0 := 0) (atype := .int) (ty := .int) hB hz (by decide) rfl rfl (fun h => h) kc_115 (fun _ => rfl) rfl (by decide) (by decide) (Nat.le_of_ble_eq_true rfl) (Nat.le_of_ble_eq_true rfl) (Nat.le_of_ble_eq_true rfl) dX7_init_116 (fun H hz => ?_)
  refine m_putF (v := .ref (ad g 10)) (ty := .array .int) hB hnm hz (by decide) 20 (by decide) kc_742 rfl rfl (by decide +kernel) rfl rfl (Nat.le_of_ble_eq_true rfl) dX7_init_118 (fun H locs hz => ?_)
  have hz : YM g 11 [.int 0, .int 0, .ref (ad g 1), .ref (ad g 2), .ref (ad g 3), .ref (ad g 4), .ref (ad g 5), .ref (ad g 6), .ref (ad g 7), .int 0, .ref (ad g 8), .int 0, .int 0, .int 0, .int 0, .int 0, .int 0, .int 0, .int 0, .ref (ad g 9), .ref (ad g 10), .null, .null, .int 0, .null, .int 0, .null, .null, .null, .int 0] lnG s H locs := hz
  refine lv_aload_n hx hb dX7_init_121 rfl (lv_at hl 0 rfl) ?_
  refine lv_bipush (v := (72 : Int32)) hx hb dX7_init_122 (by decide) ?_
  refine m_arr (n := 11) (N := 72) (t0 := 0) (atype := .int) (ty := .int) hB hz (by decide) rfl rfl (fun h => h) kc_115 (fun _ => rfl) rfl (by decide) (by decide) (Nat.le_of_ble_eq_true rfl) (Nat.le_of_ble_eq_true rfl) (Nat.le_of_ble_eq_true rfl) dX7_init_124 (fun H hz => ?_)
  refine m_putF (v := .ref (ad g 11)) (ty := .array .int) hB hnm hz (by decide) 21 (by decide) kc_743 rfl rfl (by decide +kernel) rfl rfl (Nat.le_of_ble_eq_true rfl) dX7_init_126 (fun H locs hz => ?_)
  have hz : YM g 12 [.int 0, .int 0, .ref (ad g 1), .ref (ad g 2), .ref (ad g 3), .ref (ad g 4), .ref (ad g 5), .ref (ad g 6), .ref (ad g 7), .int 0, .ref (ad g 8), .int 0, .int 0, .int 0, .int 0, .int 0, .int 0, .int 0, .int 0, .ref (ad g 9), .ref (ad g 10), .ref (ad g 11), .null, .int 0, .null, .int 0, .null, .null, .null, .int 0] lnG s H locs := hz
  refine lv_aload_n hx hb dX7_init_129 rfl (lv_at hl 0 rfl) ?_
  refine lv_bipush (v := (40 : Int32)) hx hb dX7_init_130 (by decide) ?_
  refine m_arr (n := 12) (N := 40) (t0 := 0) (atype := .int) (ty := .int) hB hz (by decide) rfl rfl (fun h => h) kc_115 (fun _ => rfl) rfl (by decide) (by decide) (Nat.le_of_ble_eq_true rfl) (Nat.le_of_ble_eq_true rfl) (Nat.le_of_ble_eq_true rfl) dX7_init_132 (fun H hz => ?_)
  refine m_putF (v := .ref (ad g 12)) (ty := .array .int) hB hnm hz (by decide) 22 (by decide) kc_744 rfl rfl (by decide +kernel) rfl rfl (Nat.le_of_ble_eq_true rfl) dX7_init_134 (fun H locs hz => ?_)
  have hz : YM g 13 [.int 0, .int 0, .ref (ad g 1), .ref (ad g 2), .ref (ad g 3), .ref (ad g 4), .ref (ad g 5), .ref (ad g 6), .ref (ad g 7), .int 0, .ref (ad g 8), .int 0, .int 0, .int 0, .int 0, .int 0, .int 0, .int 0, .int 0, .ref (ad g 9), .ref (ad g 10), .ref (ad g 11), .ref (ad g 12), .int 0, .null, .int 0, .null, .null, .null, .int 0] lnG s H locs := hz
  refine lv_aload_n hx hb dX7_init_137 rfl (lv_at hl 0 rfl) ?_
  refine lv_bipush (v := (40 : Int32)) hx hb dX7_init_138 (by decide) ?_
  refine m_arr (n := 13) (N := 40) (t0 := 0) (atype := .int) (ty := .int) hB hz (by decide) rfl rfl (fun h => h) kc_115 (fun _ => rfl) rfl (by decide) (by decide) (Nat.le_of_ble_eq_true rfl) (Nat.le_of_ble_eq_true rfl) (Nat.le_of_ble_eq_true rfl) dX7_init_140 (fun H hz => ?_)
  refine m_putF (v := .ref (ad g 13)) (ty := .array .int) hB hnm hz (by decide) 24 (by decide) kc_746 rfl rfl (by decide +kernel) rfl rfl (Nat.le_of_ble_eq_true rfl) dX7_init_142 (fun H locs hz => ?_)
  have hz : YM g 14 [.int 0, .int 0, .ref (ad g 1), .ref (ad g 2), .ref (ad g 3), .ref (ad g 4), .ref (ad g 5), .ref (ad g 6), .ref (ad g 7), .int 0, .ref (ad g 8), .int 0, .int 0, .int 0, .int 0, .int 0, .int 0, .int 0, .int 0, .ref (ad g 9), .ref (ad g 10), .ref (ad g 11), .ref (ad g 12), .int 0, .ref (ad g 13), .int 0, .null, .null, .null, .int 0] lnG s H locs := hz
  refine lv_aload_n hx hb dX7_init_145 rfl (lv_at hl 0 rfl) ?_
  refine lv_iconst (v := (2 : Int32)) hx hb dX7_init_146 (by decide) ?_
  refine m_arr (n := 14) (N := 2) (t0 := 2) (atype := .boolean) (ty := .boolean) hB hz (by decide) rfl rfl (fun h => h) kc_813 (fun _ => rfl) rfl (by decide) (by decide) (Nat.le_of_ble_eq_true rfl) (Nat.le_of_ble_eq_true rfl) (Nat.le_of_ble_eq_true rfl) dX7_init_147 (fun H hz => ?_)
  refine m_putF (v := .ref (ad g 14)) (ty := .array .boolean) hB hnm hz (by decide) 26 (by decide) kc_748 rfl rfl (by decide +kernel) rfl rfl (Nat.le_of_ble_eq_true rfl) dX7_init_149 (fun H locs hz => ?_)
  have hz : YM g 15 [.int 0, .int 0, .ref (ad g 1), .ref (ad g 2), .ref (ad g 3), .ref (ad g 4), .ref (ad g 5), .ref (ad g 6), .ref (ad g 7), .int 0, .ref (ad g 8), .int 0, .int 0, .int 0, .int 0, .int 0, .int 0, .int 0, .int 0, .ref (ad g 9), .ref (ad g 10), .ref (ad g 11), .ref (ad g 12), .int 0, .ref (ad g 13), .int 0, .ref (ad g 14), .null, .null, .int 0] lnG s H locs := hz
  refine lv_aload_n hx hb dX7_init_152 rfl (lv_at hl 0 rfl) ?_
  refine lv_sipush (v := (152 : Int32)) hx hb dX7_init_153 (by decide) ?_
  refine m_arr (n := 15) (N := 152) (t0 := 0) (atype := .int) (ty := .int) hB hz (by decide) rfl rfl (fun h => h) kc_115 (fun _ => rfl) rfl (by decide) (by decide) (Nat.le_of_ble_eq_true rfl) (Nat.le_of_ble_eq_true rfl) (Nat.le_of_ble_eq_true rfl) dX7_init_156 (fun H hz => ?_)
  refine m_putF (v := .ref (ad g 15)) (ty := .array .int) hB hnm hz (by decide) 27 (by decide) kc_749 rfl rfl (by decide +kernel) rfl rfl (Nat.le_of_ble_eq_true rfl) dX7_init_158 (fun H locs hz => ?_)
  have hz : YM g 16 [.int 0, .int 0, .ref (ad g 1), .ref (ad g 2), .ref (ad g 3), .ref (ad g 4), .ref (ad g 5), .ref (ad g 6), .ref (ad g 7), .int 0, .ref (ad g 8), .int 0, .int 0, .int 0, .int 0, .int 0, .int 0, .int 0, .int 0, .ref (ad g 9), .ref (ad g 10), .ref (ad g 11), .ref (ad g 12), .int 0, .ref (ad g 13), .int 0, .ref (ad g 14), .ref (ad g 15), .null, .int 0] lnG s H locs := hz
  refine lv_aload_n hx hb dX7_init_161 rfl (lv_at hl 0 rfl) ?_
  refine lv_bipush (v := (16 : Int32)) hx hb dX7_init_162 (by decide) ?_
  refine m_arr (n := 16) (N := 16) (t0 := 0) (atype := .int) (ty := .int) hB hz (by decide) rfl rfl (fun h => h) kc_115 (fun _ => rfl) rfl (by decide) (by decide) (Nat.le_of_ble_eq_true rfl) (Nat.le_of_ble_eq_true rfl) (Nat.le_of_ble_eq_true rfl) dX7_init_164 (fun H hz => ?_)
  refine m_putF (v := .ref (ad g 16)) (ty := .array .int) hB hnm hz (by decide) 28 (by decide) kc_750 rfl rfl (by decide +kernel) rfl rfl (Nat.le_of_ble_eq_true rfl) dX7_init_166 (fun H locs hz => ?_)
  have hz : YM g 17 [.int 0, .int 0, .ref (ad g 1), .ref (ad g 2), .ref (ad g 3), .ref (ad g 4), .ref (ad g 5), .ref (ad g 6), .ref (ad g 7), .int 0, .ref (ad g 8), .int 0, .int 0, .int 0, .int 0, .int 0, .int 0, .int 0, .int 0, .ref (ad g 9), .ref (ad g 10), .ref (ad g 11), .ref (ad g 12), .int 0, .ref (ad g 13), .int 0, .ref (ad g 14), .ref (ad g 15), .ref (ad g 16), .int 0] lnG s H locs := hz
  have hS : va_S (FR g) s.heap H locs := by obtain ⟨E, hz, -⟩ := hz; exact hz.2
  exact W.vret hx hb hr (fun t ht hW => ⟨⟨(), rfl, trivial, by rw [ht]; exact (ym_end hz).1, by rw [ht]; exact (ym_end hz).2⟩, hS.F ht⟩) hS.2.2 dX7_init_169

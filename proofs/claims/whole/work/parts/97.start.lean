theorem kc_62 : Cond.initialized RX6 ∈ lw_g := mg 62 (by decide +kernel) (by decide +kernel)
theorem kc_68 : Cond.initialized RX7 ∈ lw_g := mg 68 (by decide +kernel) (by decide +kernel)
theorem kc_74 : Cond.classLink RL 7 RX6 ∈ lw_g := mg 74 (by decide +kernel) (by decide +kernel)
theorem kc_75 : Cond.instantiable RX6 14 ∈ lw_g := mg 75 (by decide +kernel) (by decide +kernel)
theorem kc_76 : Cond.methodLink RL 9 yX6_init ∈ lw_g := mg 76 (by decide +kernel) (by decide +kernel)
theorem kc_77 : Cond.instanceMethod yX6_init ∈ lw_g := mg 77 (by decide +kernel) (by decide +kernel)
theorem kc_78 : Cond.code yX6_init cX6_init 2 none ∈ lw_g := mg 78 (by decide +kernel) (by decide +kernel)
theorem kc_716 : Cond.classLink RL 10 RX7 ∈ lw_g := mg 716 (by decide +kernel) (by decide +kernel)
theorem kc_717 : Cond.instantiable RX7 30 ∈ lw_g := mg 717 (by decide +kernel) (by decide +kernel)
theorem kc_718 : Cond.methodLink RL 12 yX7_init ∈ lw_g := mg 718 (by decide +kernel) (by decide +kernel)
theorem kc_719 : Cond.instanceMethod yX7_init ∈ lw_g := mg 719 (by decide +kernel) (by decide +kernel)
theorem kc_720 : Cond.code yX7_init cX7_init 1 none ∈ lw_g := mg 720 (by decide +kernel) (by decide +kernel)
/-! The law's beginning, and the claim. -/
theorem ts_0 {s : State} {b : Nat} (hts : ∀ w ∈ lw_tbl, w.before #[Value.ref b] s = true) (hgv : (Jvm.Cond.and given_1 narrow_1).before #[Value.ref b] s = true) : ∃ t : Nat, va_Z "CountedLists" "KIND_ABOVE" "[I" (.ref t) (AL s) s s.heap ∧ va_T .int t 6 (fun j => .int (tba 0 j)) (AL s) s s.heap := by
  have hs := flat_of_before _ hgv
  obtain ⟨t, e, h⟩ := va_Tof (A := AL s) (tm := (.static "CountedLists" "KIND_ABOVE" "[I")) (ty := .int) (N := 6) (f := fun j => .int (tba 0 j)) (by decide) (hs (.arrayOf (.static "CountedLists" "KIND_ABOVE" "[I") .int) (by decide +kernel)) (va_eqt (hs (.eq (.length (.static "CountedLists" "KIND_ABOVE" "[I")) (.int (Int32.ofNat 6))) (by decide +kernel))) (fun j hj => by
    rcases (show j = 0 ∨ j = 1 ∨ j = 2 ∨ j = 3 ∨ j = 4 ∨ j = 5 by omega) with rfl | rfl | rfl | rfl | rfl | rfl
    · exact va_eqt (hs (.eq (.elem (.static "CountedLists" "KIND_ABOVE" "[I") (.int (Int32.ofNat 0))) (.int (-1 : Int32))) (by decide +kernel))
    · exact va_eqt (hs (.eq (.elem (.static "CountedLists" "KIND_ABOVE" "[I") (.int (Int32.ofNat 1))) (.int (0 : Int32))) (by decide +kernel))
    · exact va_eqt (hs (.eq (.elem (.static "CountedLists" "KIND_ABOVE" "[I") (.int (Int32.ofNat 2))) (.int (1 : Int32))) (by decide +kernel))
    · exact va_eqt (hs (.eq (.elem (.static "CountedLists" "KIND_ABOVE" "[I") (.int (Int32.ofNat 3))) (.int (1 : Int32))) (by decide +kernel))
    · exact va_eqt (hs (.eq (.elem (.static "CountedLists" "KIND_ABOVE" "[I") (.int (Int32.ofNat 4))) (.int (0 : Int32))) (by decide +kernel))
    · exact va_eqt (hs (.eq (.elem (.static "CountedLists" "KIND_ABOVE" "[I") (.int (Int32.ofNat 5))) (.int (4 : Int32))) (by decide +kernel))) (fun a ha => Nat.not_le.mpr ha)
  exact ⟨t, va_Zof (hts (.laysStatic "CountedLists" "KIND_ABOVE" "[I") (List.mem_of_getElem? (i := 679) (by decide +kernel))) (hts _ (List.mem_filter.mp kc_62).1) e (fun a ha => Nat.not_le.mpr ha), h⟩
theorem ts_1 {s : State} {b : Nat} (hts : ∀ w ∈ lw_tbl, w.before #[Value.ref b] s = true) (hgv : (Jvm.Cond.and given_1 narrow_1).before #[Value.ref b] s = true) : ∃ t : Nat, va_Z "CountedLists" "SORTS" "[C" (.ref t) (AL s) s s.heap ∧ va_T .char t 6 (fun j => .int (tba 1 j)) (AL s) s s.heap := by
  have hs := flat_of_before _ hgv
  obtain ⟨t, e, h⟩ := va_Tof (A := AL s) (tm := (.static "CountedLists" "SORTS" "[C")) (ty := .char) (N := 6) (f := fun j => .int (tba 1 j)) (by decide) (hs (.arrayOf (.static "CountedLists" "SORTS" "[C") .char) (by decide +kernel)) (va_eqt (hs (.eq (.length (.static "CountedLists" "SORTS" "[C")) (.int (Int32.ofNat 6))) (by decide +kernel))) (fun j hj => by
    rcases (show j = 0 ∨ j = 1 ∨ j = 2 ∨ j = 3 ∨ j = 4 ∨ j = 5 by omega) with rfl | rfl | rfl | rfl | rfl | rfl
    · exact va_eqt (hs (.eq (.elem (.static "CountedLists" "SORTS" "[C") (.int (Int32.ofNat 0))) (.int (0 : Int32))) (by decide +kernel))
    · exact va_eqt (hs (.eq (.elem (.static "CountedLists" "SORTS" "[C") (.int (Int32.ofNat 1))) (.int (105 : Int32))) (by decide +kernel))
    · exact va_eqt (hs (.eq (.elem (.static "CountedLists" "SORTS" "[C") (.int (Int32.ofNat 2))) (.int (114 : Int32))) (by decide +kernel))
    · exact va_eqt (hs (.eq (.elem (.static "CountedLists" "SORTS" "[C") (.int (Int32.ofNat 3))) (.int (99 : Int32))) (by decide +kernel))
    · exact va_eqt (hs (.eq (.elem (.static "CountedLists" "SORTS" "[C") (.int (Int32.ofNat 4))) (.int (116 : Int32))) (by decide +kernel))
    · exact va_eqt (hs (.eq (.elem (.static "CountedLists" "SORTS" "[C") (.int (Int32.ofNat 5))) (.int (104 : Int32))) (by decide +kernel))) (fun a ha => Nat.not_le.mpr ha)
  exact ⟨t, va_Zof (hts (.laysStatic "CountedLists" "SORTS" "[C") (List.mem_of_getElem? (i := 363) (by decide +kernel))) (hts _ (List.mem_filter.mp kc_62).1) e (fun a ha => Nat.not_le.mpr ha), h⟩
theorem ts_2 {s : State} {b : Nat} (hts : ∀ w ∈ lw_tbl, w.before #[Value.ref b] s = true) (hgv : (Jvm.Cond.and given_1 narrow_1).before #[Value.ref b] s = true) : ∃ t : Nat, va_Z "CountedLists" "SIZE_BODIES" "[I" (.ref t) (AL s) s s.heap ∧ va_T .int t 6 (fun j => .int (tba 2 j)) (AL s) s s.heap := by
  have hs := flat_of_before _ hgv
  obtain ⟨t, e, h⟩ := va_Tof (A := AL s) (tm := (.static "CountedLists" "SIZE_BODIES" "[I")) (ty := .int) (N := 6) (f := fun j => .int (tba 2 j)) (by decide) (hs (.arrayOf (.static "CountedLists" "SIZE_BODIES" "[I") .int) (by decide +kernel)) (va_eqt (hs (.eq (.length (.static "CountedLists" "SIZE_BODIES" "[I")) (.int (Int32.ofNat 6))) (by decide +kernel))) (fun j hj => by
    rcases (show j = 0 ∨ j = 1 ∨ j = 2 ∨ j = 3 ∨ j = 4 ∨ j = 5 by omega) with rfl | rfl | rfl | rfl | rfl | rfl
    · exact va_eqt (hs (.eq (.elem (.static "CountedLists" "SIZE_BODIES" "[I") (.int (Int32.ofNat 0))) (.int (10 : Int32))) (by decide +kernel))
    · exact va_eqt (hs (.eq (.elem (.static "CountedLists" "SIZE_BODIES" "[I") (.int (Int32.ofNat 1))) (.int (11 : Int32))) (by decide +kernel))
    · exact va_eqt (hs (.eq (.elem (.static "CountedLists" "SIZE_BODIES" "[I") (.int (Int32.ofNat 2))) (.int (12 : Int32))) (by decide +kernel))
    · exact va_eqt (hs (.eq (.elem (.static "CountedLists" "SIZE_BODIES" "[I") (.int (Int32.ofNat 3))) (.int (0 : Int32))) (by decide +kernel))
    · exact va_eqt (hs (.eq (.elem (.static "CountedLists" "SIZE_BODIES" "[I") (.int (Int32.ofNat 4))) (.int (13 : Int32))) (by decide +kernel))
    · exact va_eqt (hs (.eq (.elem (.static "CountedLists" "SIZE_BODIES" "[I") (.int (Int32.ofNat 5))) (.int (14 : Int32))) (by decide +kernel))) (fun a ha => Nat.not_le.mpr ha)
  exact ⟨t, va_Zof (hts (.laysStatic "CountedLists" "SIZE_BODIES" "[I") (List.mem_of_getElem? (i := 689) (by decide +kernel))) (hts _ (List.mem_filter.mp kc_62).1) e (fun a ha => Nat.not_le.mpr ha), h⟩
theorem ts_3 {s : State} {b : Nat} (hts : ∀ w ∈ lw_tbl, w.before #[Value.ref b] s = true) (hgv : (Jvm.Cond.and given_1 narrow_1).before #[Value.ref b] s = true) : ∃ t : Nat, va_Z "CountedLists" "MARK_BODIES" "[I" (.ref t) (AL s) s s.heap ∧ va_T .int t 6 (fun j => .int (tba 3 j)) (AL s) s s.heap := by
  have hs := flat_of_before _ hgv
  obtain ⟨t, e, h⟩ := va_Tof (A := AL s) (tm := (.static "CountedLists" "MARK_BODIES" "[I")) (ty := .int) (N := 6) (f := fun j => .int (tba 3 j)) (by decide) (hs (.arrayOf (.static "CountedLists" "MARK_BODIES" "[I") .int) (by decide +kernel)) (va_eqt (hs (.eq (.length (.static "CountedLists" "MARK_BODIES" "[I")) (.int (Int32.ofNat 6))) (by decide +kernel))) (fun j hj => by
    rcases (show j = 0 ∨ j = 1 ∨ j = 2 ∨ j = 3 ∨ j = 4 ∨ j = 5 by omega) with rfl | rfl | rfl | rfl | rfl | rfl
    · exact va_eqt (hs (.eq (.elem (.static "CountedLists" "MARK_BODIES" "[I") (.int (Int32.ofNat 0))) (.int (20 : Int32))) (by decide +kernel))
    · exact va_eqt (hs (.eq (.elem (.static "CountedLists" "MARK_BODIES" "[I") (.int (Int32.ofNat 1))) (.int (21 : Int32))) (by decide +kernel))
    · exact va_eqt (hs (.eq (.elem (.static "CountedLists" "MARK_BODIES" "[I") (.int (Int32.ofNat 2))) (.int (24 : Int32))) (by decide +kernel))
    · exact va_eqt (hs (.eq (.elem (.static "CountedLists" "MARK_BODIES" "[I") (.int (Int32.ofNat 3))) (.int (22 : Int32))) (by decide +kernel))
    · exact va_eqt (hs (.eq (.elem (.static "CountedLists" "MARK_BODIES" "[I") (.int (Int32.ofNat 4))) (.int (23 : Int32))) (by decide +kernel))
    · exact va_eqt (hs (.eq (.elem (.static "CountedLists" "MARK_BODIES" "[I") (.int (Int32.ofNat 5))) (.int (0 : Int32))) (by decide +kernel))) (fun a ha => Nat.not_le.mpr ha)
  exact ⟨t, va_Zof (hts (.laysStatic "CountedLists" "MARK_BODIES" "[I") (List.mem_of_getElem? (i := 691) (by decide +kernel))) (hts _ (List.mem_filter.mp kc_62).1) e (fun a ha => Nat.not_le.mpr ha), h⟩
theorem ts_4 {s : State} {b : Nat} (hts : ∀ w ∈ lw_tbl, w.before #[Value.ref b] s = true) (hgv : (Jvm.Cond.and given_1 narrow_1).before #[Value.ref b] s = true) : ∃ t : Nat, va_Z "CountedLists" "ROMAN_VALUES" "[I" (.ref t) (AL s) s s.heap ∧ va_T .int t 7 (fun j => .int (tba 4 j)) (AL s) s s.heap := by
  have hs := flat_of_before _ hgv
  obtain ⟨t, e, h⟩ := va_Tof (A := AL s) (tm := (.static "CountedLists" "ROMAN_VALUES" "[I")) (ty := .int) (N := 7) (f := fun j => .int (tba 4 j)) (by decide) (hs (.arrayOf (.static "CountedLists" "ROMAN_VALUES" "[I") .int) (by decide +kernel)) (va_eqt (hs (.eq (.length (.static "CountedLists" "ROMAN_VALUES" "[I")) (.int (Int32.ofNat 7))) (by decide +kernel))) (fun j hj => by
    rcases (show j = 0 ∨ j = 1 ∨ j = 2 ∨ j = 3 ∨ j = 4 ∨ j = 5 ∨ j = 6 by omega) with rfl | rfl | rfl | rfl | rfl | rfl | rfl
    · exact va_eqt (hs (.eq (.elem (.static "CountedLists" "ROMAN_VALUES" "[I") (.int (Int32.ofNat 0))) (.int (50 : Int32))) (by decide +kernel))
    · exact va_eqt (hs (.eq (.elem (.static "CountedLists" "ROMAN_VALUES" "[I") (.int (Int32.ofNat 1))) (.int (40 : Int32))) (by decide +kernel))
    · exact va_eqt (hs (.eq (.elem (.static "CountedLists" "ROMAN_VALUES" "[I") (.int (Int32.ofNat 2))) (.int (10 : Int32))) (by decide +kernel))
    · exact va_eqt (hs (.eq (.elem (.static "CountedLists" "ROMAN_VALUES" "[I") (.int (Int32.ofNat 3))) (.int (9 : Int32))) (by decide +kernel))
    · exact va_eqt (hs (.eq (.elem (.static "CountedLists" "ROMAN_VALUES" "[I") (.int (Int32.ofNat 4))) (.int (5 : Int32))) (by decide +kernel))
    · exact va_eqt (hs (.eq (.elem (.static "CountedLists" "ROMAN_VALUES" "[I") (.int (Int32.ofNat 5))) (.int (4 : Int32))) (by decide +kernel))
    · exact va_eqt (hs (.eq (.elem (.static "CountedLists" "ROMAN_VALUES" "[I") (.int (Int32.ofNat 6))) (.int (1 : Int32))) (by decide +kernel))) (fun a ha => Nat.not_le.mpr ha)
  exact ⟨t, va_Zof (hts (.laysStatic "CountedLists" "ROMAN_VALUES" "[I") (List.mem_of_getElem? (i := 510) (by decide +kernel))) (hts _ (List.mem_filter.mp kc_62).1) e (fun a ha => Nat.not_le.mpr ha), h⟩
theorem ts_5 {s : State} {b : Nat} (hts : ∀ w ∈ lw_tbl, w.before #[Value.ref b] s = true) (hgv : (Jvm.Cond.and given_1 narrow_1).before #[Value.ref b] s = true) : ∃ t : Nat, va_Z "CountedLists" "ROMAN_FIRST" "[C" (.ref t) (AL s) s s.heap ∧ va_T .char t 7 (fun j => .int (tba 5 j)) (AL s) s s.heap := by
  have hs := flat_of_before _ hgv
  obtain ⟨t, e, h⟩ := va_Tof (A := AL s) (tm := (.static "CountedLists" "ROMAN_FIRST" "[C")) (ty := .char) (N := 7) (f := fun j => .int (tba 5 j)) (by decide) (hs (.arrayOf (.static "CountedLists" "ROMAN_FIRST" "[C") .char) (by decide +kernel)) (va_eqt (hs (.eq (.length (.static "CountedLists" "ROMAN_FIRST" "[C")) (.int (Int32.ofNat 7))) (by decide +kernel))) (fun j hj => by
    rcases (show j = 0 ∨ j = 1 ∨ j = 2 ∨ j = 3 ∨ j = 4 ∨ j = 5 ∨ j = 6 by omega) with rfl | rfl | rfl | rfl | rfl | rfl | rfl
    · exact va_eqt (hs (.eq (.elem (.static "CountedLists" "ROMAN_FIRST" "[C") (.int (Int32.ofNat 0))) (.int (108 : Int32))) (by decide +kernel))
    · exact va_eqt (hs (.eq (.elem (.static "CountedLists" "ROMAN_FIRST" "[C") (.int (Int32.ofNat 1))) (.int (120 : Int32))) (by decide +kernel))
    · exact va_eqt (hs (.eq (.elem (.static "CountedLists" "ROMAN_FIRST" "[C") (.int (Int32.ofNat 2))) (.int (120 : Int32))) (by decide +kernel))
    · exact va_eqt (hs (.eq (.elem (.static "CountedLists" "ROMAN_FIRST" "[C") (.int (Int32.ofNat 3))) (.int (105 : Int32))) (by decide +kernel))
    · exact va_eqt (hs (.eq (.elem (.static "CountedLists" "ROMAN_FIRST" "[C") (.int (Int32.ofNat 4))) (.int (118 : Int32))) (by decide +kernel))
    · exact va_eqt (hs (.eq (.elem (.static "CountedLists" "ROMAN_FIRST" "[C") (.int (Int32.ofNat 5))) (.int (105 : Int32))) (by decide +kernel))
    · exact va_eqt (hs (.eq (.elem (.static "CountedLists" "ROMAN_FIRST" "[C") (.int (Int32.ofNat 6))) (.int (105 : Int32))) (by decide +kernel))) (fun a ha => Nat.not_le.mpr ha)
  exact ⟨t, va_Zof (hts (.laysStatic "CountedLists" "ROMAN_FIRST" "[C") (List.mem_of_getElem? (i := 512) (by decide +kernel))) (hts _ (List.mem_filter.mp kc_62).1) e (fun a ha => Nat.not_le.mpr ha), h⟩
theorem ts_6 {s : State} {b : Nat} (hts : ∀ w ∈ lw_tbl, w.before #[Value.ref b] s = true) (hgv : (Jvm.Cond.and given_1 narrow_1).before #[Value.ref b] s = true) : ∃ t : Nat, va_Z "CountedLists" "ROMAN_SECOND" "[C" (.ref t) (AL s) s s.heap ∧ va_T .char t 7 (fun j => .int (tba 6 j)) (AL s) s s.heap := by
  have hs := flat_of_before _ hgv
  obtain ⟨t, e, h⟩ := va_Tof (A := AL s) (tm := (.static "CountedLists" "ROMAN_SECOND" "[C")) (ty := .char) (N := 7) (f := fun j => .int (tba 6 j)) (by decide) (hs (.arrayOf (.static "CountedLists" "ROMAN_SECOND" "[C") .char) (by decide +kernel)) (va_eqt (hs (.eq (.length (.static "CountedLists" "ROMAN_SECOND" "[C")) (.int (Int32.ofNat 7))) (by decide +kernel))) (fun j hj => by
    rcases (show j = 0 ∨ j = 1 ∨ j = 2 ∨ j = 3 ∨ j = 4 ∨ j = 5 ∨ j = 6 by omega) with rfl | rfl | rfl | rfl | rfl | rfl | rfl
    · exact va_eqt (hs (.eq (.elem (.static "CountedLists" "ROMAN_SECOND" "[C") (.int (Int32.ofNat 0))) (.int (0 : Int32))) (by decide +kernel))
    · exact va_eqt (hs (.eq (.elem (.static "CountedLists" "ROMAN_SECOND" "[C") (.int (Int32.ofNat 1))) (.int (108 : Int32))) (by decide +kernel))
    · exact va_eqt (hs (.eq (.elem (.static "CountedLists" "ROMAN_SECOND" "[C") (.int (Int32.ofNat 2))) (.int (0 : Int32))) (by decide +kernel))
    · exact va_eqt (hs (.eq (.elem (.static "CountedLists" "ROMAN_SECOND" "[C") (.int (Int32.ofNat 3))) (.int (120 : Int32))) (by decide +kernel))
    · exact va_eqt (hs (.eq (.elem (.static "CountedLists" "ROMAN_SECOND" "[C") (.int (Int32.ofNat 4))) (.int (0 : Int32))) (by decide +kernel))
    · exact va_eqt (hs (.eq (.elem (.static "CountedLists" "ROMAN_SECOND" "[C") (.int (Int32.ofNat 5))) (.int (118 : Int32))) (by decide +kernel))
    · exact va_eqt (hs (.eq (.elem (.static "CountedLists" "ROMAN_SECOND" "[C") (.int (Int32.ofNat 6))) (.int (0 : Int32))) (by decide +kernel))) (fun a ha => Nat.not_le.mpr ha)
  exact ⟨t, va_Zof (hts (.laysStatic "CountedLists" "ROMAN_SECOND" "[C") (List.mem_of_getElem? (i := 514) (by decide +kernel))) (hts _ (List.mem_filter.mp kc_62).1) e (fun a ha => Nat.not_le.mpr ha), h⟩
theorem start_s {s : State} {b : Nat} (hts : ∀ w ∈ lw_tbl, w.before #[Value.ref b] s = true) (hgv : (Jvm.Cond.and given_1 narrow_1).before #[Value.ref b] s = true) : ∃ f : Nat → Nat, ∀ k, k < 7 → va_Z "CountedLists" (tbn k).1 (tbn k).2.1 (.ref (f k)) (AL s) s s.heap ∧ va_T (tbn k).2.2 (f k) (tbl k).length (fun j => .int (tba k j)) (AL s) s s.heap := by
  obtain ⟨t0, h0⟩ := ts_0 hts hgv
  obtain ⟨t1, h1⟩ := ts_1 hts hgv
  obtain ⟨t2, h2⟩ := ts_2 hts hgv
  obtain ⟨t3, h3⟩ := ts_3 hts hgv
  obtain ⟨t4, h4⟩ := ts_4 hts hgv
  obtain ⟨t5, h5⟩ := ts_5 hts hgv
  obtain ⟨t6, h6⟩ := ts_6 hts hgv
  refine ⟨fun k => [t0, t1, t2, t3, t4, t5, t6].getD k 0, fun k hk => ?_⟩
  rcases (show k = 0 ∨ k = 1 ∨ k = 2 ∨ k = 3 ∨ k = 4 ∨ k = 5 ∨ k = 6 by omega) with rfl | rfl | rfl | rfl | rfl | rfl | rfl
  · exact h0
  · exact h1
  · exact h2
  · exact h3
  · exact h4
  · exact h5
  · exact h6
theorem start_k {s : State} {b : Nat} (hts : ∀ w ∈ lw_tbl, w.before #[Value.ref b] s = true) : ∃ (D : va_G) (a : Nat → ClassId), va_K D zcls (ztys a) s ∧ ∃ kA : Class, s.vm.classes[a 3]? = some kA ∧ kA.kind = .array (a 0) (.array .int) := by
  have hT : ∀ w ∈ lw_g, w.before #[Value.ref b] s = true := fun w hw => hts w (List.mem_filter.mp hw).1
  obtain ⟨c0, i0, k0⟩ := u_known (C := RX0) (T := TX0) (N := 3) (n := 3) hT inX0g (hT _ kc_156)
  obtain ⟨c1, i1, k1⟩ := u_known (C := RX2) (T := TX2) (N := 3) (n := 3) hT inX2g (hT _ kc_191)
  obtain ⟨c2, i2, k2⟩ := u_known (C := RX3) (T := TX3) (N := 7) (n := 7) hT inX3g (hT _ kc_117)
  obtain ⟨c3, i3, k3⟩ := u_known (C := RX4) (T := TX4) (N := 2) (n := 2) hT inX4g (hT _ kc_175)
  obtain ⟨c4, i4, k4⟩ := u_known (C := RX5) (T := TX5) (N := 7) (n := 7) hT inX5g (hT _ kc_85)
  obtain ⟨c5, i5, k5⟩ := u_known (C := RX6) (T := TX6) (N := 14) (n := 14) hT inX6g (hT _ kc_75)
  obtain ⟨c6, i6, k6⟩ := u_known (C := RX7) (T := TX7) (N := 30) (n := 30) hT inX7g (hT _ kc_717)
  obtain ⟨a0, ka0, cp0, fa0, ha0, hk0⟩ := Cond.arrayClass_spec (hT _ kc_115)
  obtain ⟨a1, ka1, cp1, fa1, ha1, hk1⟩ := Cond.arrayClass_spec (hT _ kc_190)
  obtain ⟨a2, ka2, cp2, fa2, ha2, hk2⟩ := Cond.arrayClass_spec (hT _ kc_813)
  obtain ⟨m3, a3, ka3, g3, -, ha3, hk3, fa3⟩ := arrayOverA_spec (t := .int) (hts (.arrayOver (.array .int)) (List.mem_of_getElem? (i := 123) (by decide +kernel)))
  have e3 : m3 = a0 := Option.some.inj (g3.symm.trans fa0)
  subst e3
  obtain ⟨m4, a4, ka4, g4, -, ha4, hk4, fa4⟩ := Cond.arrayOver_spec (hts (.arrayOver (.object RX2)) (List.mem_of_getElem? (i := 83) (by decide +kernel)))
  obtain ⟨m5, a5, ka5, g5, -, ha5, hk5, fa5⟩ := Cond.arrayOver_spec (hts (.arrayOver (.object RX3)) (List.mem_of_getElem? (i := 154) (by decide +kernel)))
  obtain ⟨m6, a6, ka6, g6, -, ha6, hk6, fa6⟩ := Cond.arrayOver_spec (hts (.arrayOver (.object RX4)) (List.mem_of_getElem? (i := 174) (by decide +kernel)))
  refine ⟨(fun k => [c0, c1, c2, c3, c4, c5, c6].getD k 0, fun k => [i0, i1, i2, i3, i4, i5, i6].getD k (fun _ => 0)), fun k => [m3, a1, a2, a3, a4, a5, a6].getD k 0, ⟨fun k q hq => ?_, fun k q hq => ?_⟩, ka3, ha3, hk3⟩
  · match k, hq with
    | 0, hq => cases hq; exact k0
    | 1, hq => cases hq; exact k1
    | 2, hq => cases hq; exact k2
    | 3, hq => cases hq; exact k3
    | 4, hq => cases hq; exact k4
    | 5, hq => cases hq; exact k5
    | 6, hq => cases hq; exact k6
    | k + 7, hq => simp [zcls] at hq
  · match k, hq with
    | 0, hq => cases hq; exact ⟨fun n z => ⟨fun k h => (by cases h), ka0, ha0, cp0, hk0⟩, fa0⟩
    | 1, hq => cases hq; exact ⟨fun n z => ⟨fun k h => (by cases h), ka1, ha1, cp1, hk1⟩, fa1⟩
    | 2, hq => cases hq; exact ⟨fun n z => ⟨fun k h => (by cases h), ka2, ha2, cp2, hk2⟩, fa2⟩
    | 3, hq => cases hq; exact ⟨fun n z => ⟨fun k h => (by cases h), ka3, ha3, m3, hk3⟩, fa3⟩
    | 4, hq => cases hq; exact ⟨fun n z => ⟨fun k h => (by cases h), ka4, ha4, m4, hk4⟩, ka4, m4, ha4, hk4, g4, fa4⟩
    | 5, hq => cases hq; exact ⟨fun n z => ⟨fun k h => (by cases h), ka5, ha5, m5, hk5⟩, ka5, m5, ha5, hk5, g5, fa5⟩
    | 6, hq => cases hq; exact ⟨fun n z => ⟨fun k h => (by cases h), ka6, ha6, m6, hk6⟩, ka6, m6, ha6, hk6, g6, fa6⟩
    | k + 7, hq => simp [ztys] at hq
theorem start_n {s : State} {b : Nat} (hts : ∀ w ∈ lw_tbl, w.before #[Value.ref b] s = true) : NW s := by
  intro q hq
  simp only [nsw, List.mem_cons, List.not_mem_nil, or_false] at hq
  rcases hq with rfl | rfl | rfl | rfl
  · exact va_Nw.of rfl (hts _ (List.mem_of_getElem? (i := 509) (by decide +kernel)))
  · exact va_Nw.of rfl (hts _ (List.mem_of_getElem? (i := 511) (by decide +kernel)))
  · exact va_Nw.of rfl (hts _ (List.mem_of_getElem? (i := 513) (by decide +kernel)))
  · exact va_Nw.of rfl (hts _ (List.mem_of_getElem? (i := 362) (by decide +kernel)))
theorem start_m {s : State} {b : Nat} (hts : ∀ w ∈ lw_tbl, w.before #[Value.ref b] s = true) : ∀ q ∈ cnw, va_Nw (.methodLinkNest RX6 q.1 q.2 RX6) s := by
  intro q hq
  simp only [cnw, List.mem_cons, List.not_mem_nil, or_false] at hq
  rcases hq with rfl | rfl | rfl | rfl | rfl
  · exact va_Nw.of rfl (hts _ (List.mem_of_getElem? (i := 86) (by decide +kernel)))
  · exact va_Nw.of rfl (hts _ (List.mem_of_getElem? (i := 118) (by decide +kernel)))
  · exact va_Nw.of rfl (hts _ (List.mem_of_getElem? (i := 157) (by decide +kernel)))
  · exact va_Nw.of rfl (hts _ (List.mem_of_getElem? (i := 176) (by decide +kernel)))
  · exact va_Nw.of rfl (hts _ (List.mem_of_getElem? (i := 192) (by decide +kernel)))

/-! Constructors: a world that grows, cell behind cell, from an address on. -/
def FR (g : GP) : Nat → Prop := fun q => ad g 0 ≤ q
def ZR (g : GP) (n : Nat) (E : Nat → va_E) (H : Heap) : Prop := H.size = ad g 0 + n ∧ ∀ i, i < n → va_at g.1 zcls (ad g i, E i) H
def OZ (g : GP) (n : Nat) (E : Nat → va_E) (s : State) (H : Heap) (locs : List Loc) : Prop := ZR g n E H ∧ va_S (FR g) s.heap H locs
def UP (E : Nat → va_E) (k : Nat) (e : va_E) : Nat → va_E := fun j => if j = k then e else E j
theorem UP_eq {E : Nat → va_E} {k : Nat} {e : va_E} : UP E k e k = e := if_pos rfl
theorem UP_ne {E : Nat → va_E} {k j : Nat} {e : va_E} (h : j ≠ k) : UP E k e j = E j := if_neg h
def cnw : List (Nat × MethodName) := [(17, yX5_init), (24, yX3_init), (38, yX0_init), (49, yX4_init), (74, yX2_init)]
def CK (g : GP) (U : State) : Prop := va_K g.1 zcls (ztys (ac g)) U ∧ (∃ kA : Class, U.vm.classes[ac g 3]? = some kA ∧ kA.kind = .array (ac g 0) (.array .int)) ∧ (va_AO RX2 U ∧ va_AO RX3 U ∧ va_AO RX4 U) ∧ ∀ q ∈ cnw, va_Nw (.methodLinkNest RX6 q.1 q.2 RX6) U
theorem CK.warm {g : GP} {s U : State} (hW : s.WarmedH U.vm) (h : CK g s) : CK g U := by
  obtain ⟨h1, ⟨kA, h2, h3⟩, ⟨h4, h5, h6⟩, h7⟩ := h
  obtain ⟨k', hk', he⟩ := hW.alike.2.2 _ _ h2
  exact ⟨va_K.moved hW.alike h1, ⟨k', hk', by rw [he]; exact h3⟩, ⟨va_AO.moved hW.alike h4, va_AO.moved hW.alike h5, va_AO.moved hW.alike h6⟩, fun q hq => va_Nw.warmM hW (h7 q hq)⟩
theorem CK.calling {g : GP} {U : State} {f : JFrame} {mk : MethodId} {a : Array Value} (h : CK g U) : CK g (U.calling f mk a) := by
  obtain ⟨h1, h2, ⟨h4, h5, h6⟩, h7⟩ := h
  have hR := Vm.Alike.refl U.vm
  exact ⟨va_K.moved (u := U) (U := U.calling f mk a) hR h1, h2, ⟨va_AO.moved (u := U) (U := U.calling f mk a) hR h4, va_AO.moved (u := U) (U := U.calling f mk a) hR h5, va_AO.moved (u := U) (U := U.calling f mk a) hR h6⟩, fun q hq => va_Nw.same (u := U) (U := U.calling f mk a) rfl rfl (h7 q hq)⟩
def BZ (p : Program) (s : State) (m : MethodId) (args : Array Value) (c : Code) (g : GP) (cc : ByteArray) (nL : Nat) (own : String) : Prop :=
  p.tables.exec = Jvm.exec ∧ c.code = cc ∧ c.maxLocals = nL ∧ s.vm.findClass own = some m.cls ∧ (∀ w ∈ lw_g, w.before args s = true) ∧ CK g s ∧ (∀ i, ad g i = ad g 0 + i)
theorem OZ.push {g : GP} {n : Nat} {E : Nat → va_E} {e : va_E} {s : State} {H H1 : Heap} {locs : List Loc} (hg : ∀ i, ad g i = ad g 0 + i) (hz : OZ g n E s H locs) (z1 : H1.size = ad g n + 1) (o1 : ∀ q, q < ad g n → H1[q]? = H[q]?) (he : va_at g.1 zcls (ad g n, e) H1) : OZ g (n + 1) (UP E n e) s H1 locs := by
  obtain ⟨⟨h1, h2⟩, h3, h4, h5⟩ := hz
  have gn := hg n
  refine ⟨⟨by omega, fun i hi => ?_⟩, by omega, fun q q1 q2 => (o1 q (by omega)).trans (h4 q q1 q2), h5⟩
  by_cases e1 : i = n
  · subst e1
    rw [UP_eq]
    exact he
  · rw [UP_ne e1]
    exact (h2 i (by omega)).kept (o1 _ (by have := hg i; show ad g i < _; omega))
theorem OZ.set {g : GP} {n i k : Nat} {E : Nat → va_E} {e : va_E} {s : State} {H H1 : Heap} {locs : List Loc} (hg : ∀ i, ad g i = ad g 0 + i) (hz : OZ g n E s H locs) (z1 : H1.size = H.size) (o1 : ∀ q, q ≠ ad g i → H1[q]? = H[q]?) (he : va_at g.1 zcls (ad g i, e) H1) : OZ g n (UP E i e) s H1 (locs ++ [⟨ad g i, k⟩]) := by
  obtain ⟨⟨h1, h2⟩, h3⟩ := hz
  refine ⟨⟨by omega, fun j hj => ?_⟩, h3.put z1 o1 (by have := hg i; show ad g 0 ≤ ad g i; omega)⟩
  by_cases e1 : j = i
  · subst e1
    rw [UP_eq]
    exact he
  · rw [UP_ne e1]
    exact (h2 j hj).kept (o1 _ (by have := hg i; have := hg j; show ad g j ≠ ad g i; omega))
/-- The cells as the kit's worlds have them. -/
def zw (g : GP) (n : Nat) (E : Nat → va_E) : va_W := (List.range n).map fun j => (ad g j, E j)
theorem zw_len {g : GP} {n : Nat} {E : Nat → va_E} : (zw g n E).length = n := by simp [zw]
theorem zw_at {g : GP} {n i : Nat} {E : Nat → va_E} (hi : i < n) : (zw g n E)[i]? = some (ad g i, E i) := by simp [zw, hi]
theorem zw_of {g : GP} {n i : Nat} {E : Nat → va_E} {q : Nat × va_E} (h : (zw g n E)[i]? = some q) : i < n ∧ q = (ad g i, E i) := by
  have hi : i < n := by
    have h1 := (List.getElem?_eq_some_iff.mp h).1
    rw [zw_len] at h1
    exact h1
  exact ⟨hi, (Option.some.inj ((zw_at hi).symm.trans h)).symm⟩
theorem zw_set {g : GP} {n i : Nat} {E : Nat → va_E} {e : va_E} : (zw g n E).set i (ad g i, e) = zw g n (UP E i e) := by
  refine List.ext_getElem? fun j => ?_
  rw [List.getElem?_set, zw_len]
  by_cases hj : j < n
  · rw [zw_at hj, zw_at hj]
    by_cases hi : i = j
    · subst hi
      rw [if_pos rfl, if_pos hj, UP_eq]
    · rw [if_neg hi, UP_ne (Ne.symm hi)]
  · rw [List.getElem?_eq_none (show (zw g n (UP E i e)).length ≤ j by rw [zw_len]; omega), List.getElem?_eq_none (show (zw g n E).length ≤ j by rw [zw_len]; omega)]
    by_cases hi : i = j
    · rw [if_pos hi, if_neg (by omega)]
    · rw [if_neg hi]
theorem zw_P {g : GP} {n : Nat} {E : Nat → va_E} {s : State} {H : Heap} {locs : List Loc} (hz : OZ g n E s H locs) : va_P g.1 zcls (zw g n E) H := fun k q hq => by
  obtain ⟨hk, rfl⟩ := zw_of hq
  exact hz.1.2 k hk
theorem zw_D {g : GP} {n : Nat} {E : Nat → va_E} (hg : ∀ i, ad g i = ad g 0 + i) : va_D (FR g) (zw g n E) := by
  refine ⟨fun i j a b ha hb hab => ?_, fun k q hq => ?_⟩
  · obtain ⟨-, rfl⟩ := zw_of ha
    obtain ⟨-, rfl⟩ := zw_of hb
    have h1 : ad g i = ad g j := hab
    rw [hg i, hg j] at h1
    omega
  · obtain ⟨-, rfl⟩ := zw_of hq
    show ad g 0 ≤ ad g k
    rw [hg k]
    omega
theorem zw_in {D : va_G} {cl : List vw_C} {q : Nat × va_E} {H : Heap} (h : va_at D cl q H) : q.1 < H.size := by
  obtain ⟨a, x | o⟩ := q
  · exact (Array.getElem?_eq_some_iff.mp h).1
  · obtain ⟨r, -, cell, hc, -⟩ := h
    exact (Array.getElem?_eq_some_iff.mp hc).1
section ZKEEP
variable {p : Program} {l : Launch} {e : Env} {R : Room} {s : State} {m : MethodId} {args : Array Value} {below : List Frame} {meth : Method} {c : Code} {H : Heap} {locs : List Loc} {cells slots : Nat} {Q : State → Prop}
/-- A rule of the kit that writes one cell of its world says nothing of the heap's size; but it may be asked with just as many new cells as there are, and then none can come to them: so the size stays. -/
theorem z_keep {g : GP} {n i : Nat} {E : Nat → va_E} {x : va_E} {f0 f1 : JFrame} (hg : ∀ i, ad g i = ad g 0 + i) (hz : OZ g n E s H locs) (hi : i < n)
    (rule : ∀ k : Nat, (∀ (H1 : Heap) (locs1 : List Loc), va_P g.1 zcls ((zw g n E).set i (ad g i, x)) H1 → va_D (FR g) ((zw g n E).set i (ad g i, x)) → va_S (FR g) s.heap H1 locs1 → W p l e R s m args below meth c H1 locs1 k slots Q f1) → W p l e R s m args below meth c H locs k slots Q f0)
    (kk : ∀ (H1 : Heap) (locs1 : List Loc), OZ g n (UP E i x) s H1 locs1 → W p l e R s m args below meth c H1 locs1 cells slots Q f1) : W p l e R s m args below meth c H locs cells slots Q f0 := by
  intro T hT X
  obtain ⟨b1, b2, b3, b4⟩ := X.same
  have d2 : s.heap.size ≤ T.heap.size := b2
  have d3 : T.heap.size ≤ s.heap.size + cells := b3
  rw [hT] at d2 d3
  refine rule (H.size - s.heap.size) (fun H1 locs1 hP _ hS T1 hT1 X1 => ?_) T hT { X with same := ⟨b1, b2, by show T.heap.size ≤ _; rw [hT]; omega, b4⟩ }
  rw [zw_set] at hP
  have u1 := X1.heapSize
  have u2 : ad g (n - 1) < H1.size := zw_in (hP (n - 1) _ (zw_at (by omega)))
  have u3 := hz.1.1
  rw [hg (n - 1)] at u2
  rw [hT1] at u1
  exact kk H1 locs1 ⟨⟨by omega, fun j hj => hP j _ (zw_at hj)⟩, hS⟩ T1 hT1 (stand_widen X1 (by omega) (Nat.le_refl _))
end ZKEEP
section ZRU
variable {p : Program} {l : Launch} {e : Env} {R : Room} {s : State} {m : MethodId} {args : Array Value} {below : List Frame} {meth : Method} {c : Code} {H : Heap} {locs : List Loc} {cells slots : Nat} {Q : State → Prop}
variable {cc : ByteArray} {pc : Nat} {ls : Array Slot} {rest : List Value} {g : GP} {nL n i : Nat} {E : Nat → va_E} {own : String}
theorem z_new {C : String} {T : u_T} {N ci index : Nat} {fs : List Value} (hB : BZ p s m args c g cc nL own) (hz : OZ g n E s H locs) (hin : ∀ w ∈ u_ws C T N, w ∈ lw_g) (ty : Nat → FieldType) (hty : ∀ k, k < N → parseFieldDescriptor (T k).2.2.1 = some (ty k)) (hcl : Cond.classLink own index C ∈ lw_g) (hinst : Cond.instantiable C N ∈ lw_g) (hini : Cond.initialized C ∈ lw_g) (hc : zcls[ci]? = some (C, T, N)) (hfs : ∀ j, j < N → defaultValue (ty j) = vp_V fs j) (hcells : cells + 1 ≤ R.cells) (hslots : slots + N ≤ R.slots) (hdg : decode cc pc = .ok (.new index, 3))
    (kk : ∀ H1 : Heap, OZ g (n + 1) (UP E n (.inr (ci, fs))) s H1 locs → W p l e R s m args below meth c H1 locs (cells + 1) (slots + N) Q (F0 m (pc + 3) ls (.ref (ad g n) :: rest))) : W p l e R s m args below meth c H locs cells slots Q (F0 m pc ls rest) := by
  obtain ⟨hx, hb, hml, hown, hT, hCK, hg⟩ := hB
  have hKn := hCK.1.1 ci _ hc
  have e0 : H.size = ad g n := by rw [hz.1.1, hg n]
  refine W.newcK hx hb hown (hT _ hcl) (hT _ hinst) (hT _ hini) rfl hdg hcells hslots hKn.2.1 e0 fun H1 kC hkC e1 z1 o1 => ?_
  exact kk H1 (hz.push hg z1 o1 ⟨_, hc, (u_born ty hT hin hKn hkC e1 hty).to hfs⟩)
theorem z_newa {N t0 : Nat} {atype : ArrayType} {ty : FieldType} {x : Int32} {a0 : vp_A} (hB : BZ p s m args c g cc nL own) (hz : OZ g n E s H locs) (hty : newarray.typeOf atype = ty) (ht : (ztys (ac g))[t0]? = some (ac g t0, ty)) (hRA : va_RA s (ac g t0) ty → s.vm.findClass ("[" ++ ty.toString) = some (ac g t0)) (harr : Cond.arrayClass ty ∈ lw_g) (ha : ∀ cA : ClassId, vp_cell cA a0 = arrV cA N (fun _ => defaultValue ty)) (hn : ¬ x < 0) (hN : x.toNatClampNeg = N) (hbytes : N * componentBytes ty ≤ 536870912) (hcells : cells + 1 ≤ R.cells) (hslots : slots + N ≤ R.slots) (hdg : decode cc pc = .ok (.newarray atype, 2))
    (kk : ∀ H1 : Heap, OZ g (n + 1) (UP E n (.inl (ac g t0, a0))) s H1 locs → W p l e R s m args below meth c H1 locs (cells + 1) (slots + N) Q (F0 m (pc + 2) ls (.ref (ad g n) :: rest))) : W p l e R s m args below meth c H locs cells slots Q (F0 m pc ls (.int x :: rest)) := by
  subst hty
  obtain ⟨hx, hb, hml, hown, hT, hCK, hg⟩ := hB
  have e0 : H.size = ad g n := by rw [hz.1.1, hg n]
  refine va_newaK hx hb (hT _ harr) rfl hdg rfl hn hN hbytes hcells hslots e0 fun H1 cA e1 z1 o1 hAr hNm => ?_
  have e2 : cA = ac g t0 := Option.some.inj (hNm.symm.trans (hRA (hCK.1.2 t0 _ ht).2))
  subst e2
  refine kk H1 (hz.push hg z1 o1 ?_)
  show H1[ad g n]? = some (vp_cell _ _)
  rw [ha]
  exact e1
theorem z_newq {C : String} {N t0 index : Nat} {x : Int32} (hB : BZ p s m args c g cc nL own) (hz : OZ g n E s H locs) (ht : (ztys (ac g))[t0]? = some (ac g t0, .object C)) (hcl : Cond.classLink own index C ∈ lw_g) (hover : va_AO C s) (hn : ¬ x < 0) (hN : x.toNatClampNeg = N) (hbytes : N * 4 ≤ 536870912) (hcells : cells + 1 ≤ R.cells) (hslots : slots + N ≤ R.slots) (hdg : decode cc pc = .ok (.anewarray index, 3))
    (kk : ∀ H1 : Heap, OZ g (n + 1) (UP E n (.inl (ac g t0, N, .inr (.inr (.inr (.inr (fun _ => none))))))) s H1 locs → W p l e R s m args below meth c H1 locs (cells + 1) (slots + N) Q (F0 m (pc + 3) ls (.ref (ad g n) :: rest))) : W p l e R s m args below meth c H locs cells slots Q (F0 m pc ls (.int x :: rest)) := by
  subst hN
  obtain ⟨hx, hb, hml, hown, hT, hCK, hg⟩ := hB
  have e0 : H.size = ad g n := by rw [hz.1.1, hg n]
  refine W.anew hx hb hown (hT _ hcl) (va_AO.use hover) rfl hdg rfl hn hbytes hcells hslots fun cA kA comp f1 f2 f3 f4 => ?_
  obtain ⟨kA', comp', r1, r2, r3, r4⟩ := (hCK.1.2 t0 _ ht).2
  have e2 : cA = ac g t0 := Option.some.inj (f1.symm.trans r4)
  subst e2
  rw [e0]
  refine kk _ (hz.push hg (by rw [Array.size_push, e0]) (fun q hq => ?_) ?_)
  · rw [Array.getElem?_push, if_neg (by omega)]
  · show (H.push _)[ad g n]? = some (vp_cell _ _)
    rw [← e0, Array.getElem?_push_size, arrV_new]
    rfl
theorem z_grid {N K index : Nat} {a b : Int32} (hB : BZ p s m args c g cc nL own) (hz : OZ g n E s H locs) (hcl : Cond.classLink own index "[[I" ∈ lw_g) (ha : ¬ a < 0) (hb0 : ¬ b < 0) (hN : a.toNatClampNeg = N) (hK : b.toNatClampNeg = K) (hNb : N ≤ 1000) (hKb : K ≤ 1000) (hcells : cells + (1 + N) ≤ R.cells) (hslots : slots + (N + N * K) ≤ R.slots) (hdg : decode cc pc = .ok (.multianewarray index 2, 4))
    (kk : ∀ (E' : Nat → va_E) (H1 : Heap) (locs1 : List Loc), OZ g (n + 1 + N) E' s H1 locs1 → (∀ k, k < n → E' k = E k) → E' n = .inl (ac g 3, N, .inr (.inr (.inr (.inr (fun j => some (ad g (n + 1 + j))))))) → (∀ j, j < N → E' (n + 1 + j) = .inl (ac g 0, K, .inl (fun _ => 0))) → W p l e R s m args below meth c H1 locs1 (cells + 1 + N) (slots + N + N * K) Q (F0 m (pc + 4) ls (.ref (ad g n) :: rest))) : W p l e R s m args below meth c H locs cells slots Q (F0 m pc ls (.int b :: .int a :: rest)) := by
  obtain ⟨hx, hb, hml, hown, hT, hCK, hg⟩ := hB
  have e0 : H.size = ad g n := by rw [hz.1.1, hg n]
  obtain ⟨kA, hkA, hA⟩ := hCK.2.1
  obtain ⟨-, kI, hkI, ci, hI⟩ := (hCK.1.2 0 (ac g 0, .int) rfl).1 0 (fun _ => .null)
  have hfA : s.vm.findClass "[[I" = some (ac g 3) := (hCK.1.2 3 (ac g 3, .array .int) rfl).2
  refine w_grid hx hb hown (hT _ hcl) hfA hkA hA hkI hI ha hb0 hN hK hNb hKb hcells hslots hdg fun H1 hG => ?_
  obtain ⟨z1, o1, c1, c2⟩ := hG
  rw [e0] at z1 c1 c2 o1 ⊢
  obtain ⟨⟨h1, h2⟩, h3, h4, h5⟩ := hz
  have gn := hg n
  refine kk (fun k => if k < n then E k else if k = n then .inl (ac g 3, N, .inr (.inr (.inr (.inr (fun j => some (ad g (n + 1 + j))))))) else .inl (ac g 0, K, .inl (fun _ => 0))) H1 _ ⟨⟨by omega, fun i hi => ?_⟩, by omega, fun q q1 q2 => (o1 q (by omega)).trans (h4 q q1 q2), fun x hx => ?_⟩ (fun k hk => if_pos hk) (by rw [if_neg (by omega), if_pos rfl]) (fun j hj => by rw [if_neg (by omega), if_neg (by omega)])
  · have gi := hg i
    dsimp only
    by_cases e1 : i < n
    · rw [if_pos e1]
      exact (h2 i e1).kept (o1 _ (by show ad g i < _; omega))
    · rw [if_neg e1]
      by_cases e2 : i = n
      · subst e2
        rw [if_pos rfl]
        show H1[ad g i]? = some (vp_cell _ _)
        rw [c1, vp_cell_q]
        unfold arrV
        congr 3
        funext j
        show (if j.val < N then Value.ref (ad g i + 1 + j.val) else Value.null) = Value.ref (ad g (i + 1 + j.val))
        have e5 : ad g i + 1 + j.val = ad g (i + 1 + j.val) := by
          have := hg (i + 1 + j.val)
          omega
        rw [if_pos j.isLt, e5]
      · rw [if_neg e2]
        show H1[ad g i]? = some (vp_cell _ _)
        rw [vp_cell_i]
        have e3 : ad g i = ad g n + 1 + (i - n - 1) := by omega
        rw [e3]
        exact c2 (i - n - 1) (by omega)
  · rcases List.mem_append.mp hx with h | h
    · exact h5 x h
    · obtain ⟨j, -, rfl⟩ := List.mem_map.mp h
      show ad g 0 ≤ ad g n
      omega
theorem z_putF {C : String} {T : u_T} {N ci index : Nat} {fs : List Value} {v : Value} {ty : FieldType} (hB : BZ p s m args c g cc nL own) (hnm : meth.name = "<init>") (hz : OZ g n E s H locs) (hi : i < n) (he : E i = .inr (ci, fs)) (hc : zcls[ci]? = some (C, T, N)) (hin : ∀ w ∈ u_ws C T N, w ∈ lw_g) (ty0 : Nat → FieldType) (hty : ∀ k, k < N → parseFieldDescriptor (T k).2.2.1 = some (ty0 k)) (hnm2 : ∀ a, a < N → ∀ b, b < N → a ≠ b → (T a).2.1 ≠ (T b).2.1) (k : Nat) (hk : k < N) (hl : Cond.fieldLink own index (T k).1 (T k).2.1 (T k).2.2.1 ∈ lw_g) (hfin : (T k).2.2.2 = true) (hdecl : (T k).1 = own) (hd : parseFieldDescriptor (T k).2.2.1 = some ty) (hn : narrow ty v = v) (hfit : fits ty v = true) (hlen : k < fs.length) (hdg : decode cc pc = .ok (.putfield index, 3))
    (kk : ∀ (H1 : Heap) (locs1 : List Loc), OZ g n (UP E i (.inr (ci, fs.set k v))) s H1 locs1 → W p l e R s m args below meth c H1 locs1 cells slots Q (F0 m (pc + 3) ls rest)) : W p l e R s m args below meth c H locs cells slots Q (F0 m pc ls (v :: .ref (ad g i) :: rest)) := by
  obtain ⟨hx, hb, hml, hown, hT, hCK, hg⟩ := hB
  exact z_keep hg hz hi (fun x kk => va_putF (D := g.1) hx hb hT hin ty0 hty hnm2 hown hCK.1 (zw_P hz) (zw_D hg) hz.2 i (by rw [zw_at hi, he]) hc k hk (hT _ hl) (fun _ h => h) hfin hnm hdecl hd hn hfit hlen hdg kk) kk
theorem z_put {C : String} {T : u_T} {N ci index : Nat} {fs : List Value} {v : Value} {ty : FieldType} (hB : BZ p s m args c g cc nL own) (hz : OZ g n E s H locs) (hi : i < n) (he : E i = .inr (ci, fs)) (hc : zcls[ci]? = some (C, T, N)) (hin : ∀ w ∈ u_ws C T N, w ∈ lw_g) (ty0 : Nat → FieldType) (hty : ∀ k, k < N → parseFieldDescriptor (T k).2.2.1 = some (ty0 k)) (hnm2 : ∀ a, a < N → ∀ b, b < N → a ≠ b → (T a).2.1 ≠ (T b).2.1) (k : Nat) (hk : k < N) (hl : Cond.fieldLink own index (T k).1 (T k).2.1 (T k).2.2.1 ∈ lw_g) (hfin : (T k).2.2.2 = false) (hd : parseFieldDescriptor (T k).2.2.1 = some ty) (hn : narrow ty v = v) (hfit : fits ty v = true) (hlen : k < fs.length) (hdg : decode cc pc = .ok (.putfield index, 3))
    (kk : ∀ (H1 : Heap) (locs1 : List Loc), OZ g n (UP E i (.inr (ci, fs.set k v))) s H1 locs1 → W p l e R s m args below meth c H1 locs1 cells slots Q (F0 m (pc + 3) ls rest)) : W p l e R s m args below meth c H locs cells slots Q (F0 m pc ls (v :: .ref (ad g i) :: rest)) := by
  obtain ⟨hx, hb, hml, hown, hT, hCK, hg⟩ := hB
  exact z_keep hg hz hi (fun x kk => va_put (D := g.1) hx hb hT hin ty0 hty hnm2 hown hCK.1 (zw_P hz) (zw_D hg) hz.2 i (by rw [zw_at hi, he]) hc k hk (hT _ hl) (fun _ h => h) hfin hd hn hfit hlen hdg kk) kk
theorem z_get {C : String} {T : u_T} {N ci index : Nat} {fs : List Value} {v : Value} (hB : BZ p s m args c g cc nL own) (hz : OZ g n E s H locs) (hi : i < n) (he : E i = .inr (ci, fs)) (hc : zcls[ci]? = some (C, T, N)) (hin : ∀ w ∈ u_ws C T N, w ∈ lw_g) (k : Nat) (hk : k < N) (hl : Cond.fieldLink own index (T k).1 (T k).2.1 (T k).2.2.1 ∈ lw_g) (hv : fs[k]? = some v) (hdg : decode cc pc = .ok (.getfield index, 3))
    (kk : W p l e R s m args below meth c H locs cells slots Q (F0 m (pc + 3) ls (v :: rest))) : W p l e R s m args below meth c H locs cells slots Q (F0 m pc ls (.ref (ad g i) :: rest)) := by
  obtain ⟨hx, hb, hml, hown, hT, hCK, hg⟩ := hB
  exact va_get (D := g.1) hx hb hT hin hown hCK.1 (zw_P hz) i (by rw [zw_at hi, he]) hc k hk (hT _ hl) (fun _ h => h) hv hdg kk
theorem z_iast {N : Nat} {f : Nat → Int32} {j x : Int32} (hB : BZ p s m args c g cc nL own) (hz : OZ g n E s H locs) (hi : i < n) (he : E i = .inl (ac g 0, N, .inl f)) (hin : vp_in j N) (hdg : decode cc pc = .ok (.iastore, 1))
    (kk : ∀ (H1 : Heap) (locs1 : List Loc), OZ g n (UP E i (.inl (ac g 0, N, .inl (upd f j.toNatClampNeg x)))) s H1 locs1 → W p l e R s m args below meth c H1 locs1 cells slots Q (F0 m (pc + 1) ls rest)) : W p l e R s m args below meth c H locs cells slots Q (F0 m pc ls (.int x :: .int j :: .ref (ad g i) :: rest)) := by
  obtain ⟨hx, hb, hml, hown, hT, hCK, hg⟩ := hB
  exact z_keep hg hz hi (fun _ kk => va_iast (D := g.1) (tys := ztys (ac g)) hx hb hCK.1 (zw_P hz) (zw_D hg) hz.2 i 0 (by rw [zw_at hi, he]) rfl hin hdg kk) kk
theorem z_aast {r : vw_C} {N t0 v ci : Nat} {f : Nat → Option Nat} {j : Int32} {vs : List Value} (hB : BZ p s m args c g cc nL own) (hz : OZ g n E s H locs) (hi : i < n) (hv : v < n) (ht : (ztys (ac g))[t0]? = some (ac g t0, .object r.1)) (he : E i = .inl (ac g t0, N, .inr (.inr (.inr (.inr f))))) (hev : E v = .inr (ci, vs)) (hc : zcls[ci]? = some r) (hin : vp_in j N) (hdg : decode cc pc = .ok (.aastore, 1))
    (kk : ∀ (H1 : Heap) (locs1 : List Loc), OZ g n (UP E i (.inl (ac g t0, N, .inr (.inr (.inr (.inr (va_up f j.toNatClampNeg (some (ad g v)))))))))  s H1 locs1 → W p l e R s m args below meth c H1 locs1 cells slots Q (F0 m (pc + 1) ls rest)) : W p l e R s m args below meth c H locs cells slots Q (F0 m pc ls (.ref (ad g v) :: .int j :: .ref (ad g i) :: rest)) := by
  obtain ⟨hx, hb, hml, hown, hT, hCK, hg⟩ := hB
  exact z_keep hg hz hi (fun _ kk => va_astq (D := g.1) hx hb hCK.1 (zw_P hz) (zw_D hg) hz.2 i t0 v ci (by rw [zw_at hi, he]) ht (by rw [zw_at hv, hev]) hc hin hdg kk) kk
end ZRU

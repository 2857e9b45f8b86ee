/-! An array of int rows, made at once: its cell, then the rows' cells behind it. -/
def gro (cA : ClassId) (N h i : Nat) : Cell := arrV cA N (fun j => if j < i then .ref (h + 1 + j) else .null)
theorem gro_set (cA : ClassId) (N h i : Nat) : (gro cA N h i).setSlot i (.ref (h + 1 + i)) = gro cA N h (i + 1) := by
  unfold gro
  rw [arrV_store]
  congr 1
  funext j
  unfold updV
  by_cases e : j = i
  · subst e
    rw [if_pos rfl, if_pos (by omega)]
  · rw [if_neg e]
    show (if j < i then Value.ref (h + 1 + j) else Value.null) = _
    by_cases e2 : j < i
    · rw [if_pos e2, if_pos (by omega)]
    · rw [if_neg e2, if_neg (by omega)]
def grr (cI : ClassId) (K : Nat) : Cell := arrV cI K (fun _ => .int 0)
def grs (T : State) (cA cI : ClassId) (N K : Nat) : Nat → State
  | 0 => T.pushCell (gro cA N T.heap.size 0)
  | i + 1 => ((grs T cA cI N K i).pushCell (grr cI K)).setCell T.heap.size (gro cA N T.heap.size (i + 1))
theorem grs_ok {T : State} {cA cI : ClassId} {N K : Nat} : ∀ i, (grs T cA cI N K i).heap.size = T.heap.size + 1 + i ∧ (grs T cA cI N K i).heap[T.heap.size]? = some (gro cA N T.heap.size i) ∧ (grs T cA cI N K i).vm = T.vm ∧ (grs T cA cI N K i).slotsUsed = T.slotsUsed + N + i * K ∧ (∀ j, j < i → (grs T cA cI N K i).heap[T.heap.size + 1 + j]? = some (grr cI K)) ∧ (∀ q, q < T.heap.size → (grs T cA cI N K i).heap[q]? = T.heap[q]?) := by
  intro i
  induction i with
  | zero =>
    refine ⟨by simp [grs], by simp [grs], rfl, by simp [grs, gro, arrV_size], fun j hj => absurd hj (by omega), fun q hq => State.heap_pushCell_of_lt _ _ hq⟩
  | succ i ih =>
    obtain ⟨h1, h2, h3, h4, h5, h6⟩ := ih
    have hlt : T.heap.size < (grs T cA cI N K i).heap.size := by omega
    have h2' : ((grs T cA cI N K i).pushCell (grr cI K)).heap[T.heap.size]? = some (gro cA N T.heap.size i) := by rw [State.heap_pushCell_of_lt (h := hlt)]; exact h2
    refine ⟨?_, State.heap_setCell_self h2', ?_, ?_, fun j hj => ?_, fun q hq => ?_⟩
    · simp [grs, State.setCell, h1]
      omega
    · simp [grs, h3]
    · simp [grs, h4, grr, arrV_size, Nat.succ_mul]
      omega
    · show (((grs T cA cI N K i).pushCell (grr cI K)).setCell T.heap.size _).heap[T.heap.size + 1 + j]? = _
      rw [State.heap_setCell_other (show T.heap.size ≠ T.heap.size + 1 + j by omega)]
      by_cases e : j < i
      · rw [State.heap_pushCell_of_lt (h := show T.heap.size + 1 + j < (grs T cA cI N K i).heap.size by omega)]
        exact h5 j e
      · have e2 : T.heap.size + 1 + j = (grs T cA cI N K i).heap.size := by omega
        rw [e2]
        exact State.heap_pushCell_size _ _
    · show (((grs T cA cI N K i).pushCell (grr cI K)).setCell T.heap.size _).heap[q]? = _
      rw [State.heap_setCell_other (Nat.ne_of_gt hq), State.heap_pushCell_of_lt (h := show q < (grs T cA cI N K i).heap.size by omega)]
      exact h6 q hq
theorem grs_top (T : State) (f : JFrame) (cA cI : ClassId) (N K : Nat) : ∀ i, grs (T.setTop f) cA cI N K i = (grs T cA cI N K i).setTop f := by
  intro i
  induction i with
  | zero => rfl
  | succ i ih => simp only [grs, ih, State.heap_setTop, State.pushCell_setTop, State.setCell_setTop]
section GRID
variable {E : CtlPost} {e : Env} {d : Bool} {acts : List Action} {s : State}
theorem na_wp {c comp : ClassId} {k : Class} {type : FieldType} {len : Nat} {v : Value} (hk : s.vm.classes[c]? = some k) (hkind : k.kind = .array comp type) (h1 : ¬ len > e.platform.arrayLengthLimit) (h2 : ¬ len * componentBytes type > e.platform.maxHeapBytes) (hf : fits type v = true) (hd : v.isDefault = true) (h3 : s.heap.size < e.platform.maxCells) (h4 : s.slotsUsed + len ≤ e.platform.maxSlots)
    {Q : Addr → Pre} (hq : Q s.heap.size d acts (s.pushCell (arrV c len (fun _ => v)))) : wp (Jvm.newArray c len v) Q E e d acts s := by
  have e1 : ∀ i w, (Array.replicate len v)[i]? = some w → s.fitsSlot c .none i w = true := by
    intro i w hw
    rw [Array.getElem?_replicate] at hw
    by_cases hi : i < len
    · rw [if_pos hi] at hw
      cases hw
      simp [State.fitsSlot, State.slotType?, hk, hkind, hf]
    · rw [if_neg hi] at hw
      cases hw
  have e2 : allocActs (Array.replicate len v) s.heap.size acts = acts := by
    unfold allocActs
    rw [if_pos (by rw [Array.all_replicate]; split <;> simp [hd])]
  rw [← arrV_new] at hq
  simp only [Jvm.newArray, Jvm.arrayFits, wp_bind', W.ask, W.ite, h1, if_false, wp_pure', W.theClass, hk, hkind, h2, W.alloc, W.stop, Option.some.injEq, exists_eq_left', Array.size_replicate, e2]
  rw [if_neg (by omega)]
  exact ⟨h3, h4, e1, hq⟩
theorem gr_wp {cA cI cc : ClassId} {kA kI : Class} {a b : Int32} {N K : Nat} (hkA : s.vm.classes[cA]? = some kA) (hA : kA.kind = .array cI (.array .int)) (hkI : s.vm.classes[cI]? = some kI) (hI : kI.kind = .array cc .int) (ha : ¬ a < 0) (hb : ¬ b < 0) (hN : a.toNatClampNeg = N) (hK : b.toNatClampNeg = K)
    (l1 : ¬ N > e.platform.arrayLengthLimit) (l2 : ¬ N * componentBytes (.array .int) > e.platform.maxHeapBytes) (l3 : ¬ K > e.platform.arrayLengthLimit) (l4 : ¬ K * componentBytes .int > e.platform.maxHeapBytes) (hc : s.heap.size + 1 + N ≤ e.platform.maxCells) (hs : s.slotsUsed + N + N * K ≤ e.platform.maxSlots)
    {Q : Addr → Pre} (hq : ∀ d' acts', Q s.heap.size d' acts' (grs s cA cI N K N)) : wp (multianewarray.make cA [a, b]) Q E e d acts s := by
  subst hN
  subst hK
  have hnk : a.toNatClampNeg ≤ a.toNatClampNeg * b.toNatClampNeg + a.toNatClampNeg := by omega
  rw [multianewarray.make]
  simp only [wp_bind', W.ite, ha, if_false, wp_pure', W.theClass, hkA, hA, Option.some.injEq, exists_eq_left']
  refine na_wp hkA hA l1 l2 rfl rfl (by omega) (by have := Nat.zero_le (a.toNatClampNeg * b.toNatClampNeg); omega) ?_
  have hfind : ([b].find? (· < 0)) = none := by simp [hb]
  simp only [hfind]
  rw [ite_self, wp_bind', Std.Legacy.Range.forIn_eq_forIn_range']
  rw [show ([:a.toNatClampNeg] : Std.Legacy.Range).size = a.toNatClampNeg by simp [Std.Legacy.Range.size]]
  show wp (forIn (List.range' 0 a.toNatClampNeg 1) PUnit.unit _) _ E e d acts _
  refine wp_forIn_inv (fun rest s' => ∃ i, i + rest.length = a.toNatClampNeg ∧ rest = List.range' i rest.length ∧ s' = grs s cA cI a.toNatClampNeg b.toNatClampNeg i) _ _ ⟨0, by simp, by simp, ?_⟩ ?_ ?_
  · show _ = s.pushCell (gro cA _ s.heap.size 0)
    congr 1
  · rintro x rest s' d' acts' Q' ⟨i, hi, hl, rfl⟩ hnext
    rw [List.length_cons] at hi hl
    rw [List.range'_succ] at hl
    obtain ⟨hx, hrest⟩ := List.cons.inj hl
    subst hx
    obtain ⟨f1, f2, f3, f4, -, -⟩ := grs_ok (T := s) (cA := cA) (cI := cI) (N := a.toNatClampNeg) (K := b.toNatClampNeg) x
    have hm : x * b.toNatClampNeg + b.toNatClampNeg ≤ a.toNatClampNeg * b.toNatClampNeg := by
      have := Nat.mul_le_mul_right b.toNatClampNeg (show x + 1 ≤ a.toNatClampNeg by omega)
      rw [Nat.succ_mul] at this
      exact this
    simp only [wp_bind']
    rw [multianewarray.make]
    simp only [wp_bind', W.ite, hb, if_false, wp_pure', W.theClass, f3, hkI, hI, Option.some.injEq, exists_eq_left']
    refine na_wp (by rw [f3]; exact hkI) hI l3 l4 rfl rfl (by omega) (by omega) ?_
    have hlt : s.heap.size < (grs s cA cI a.toNatClampNeg b.toNatClampNeg x).heap.size := by omega
    simp only [wp_bind', W.writeLoc, wp_pure']
    refine ⟨gro cA a.toNatClampNeg s.heap.size x, by rw [State.heap_pushCell_of_lt (h := hlt)]; exact f2, (fun q => by cases q), (by show x < (arrV _ _ _).slots.size; rw [arrV_size]; omega), ?_, hnext _ _ _ ⟨x + 1, by omega, hrest, ?_⟩⟩
    · show State.fitsSlot _ cA .none x _ = true
      simp [State.fitsSlot, State.slotType?, f3, hkA, hA]
      rfl
    · rw [f1, gro_set]
      rfl
  · rintro s' d' acts' ⟨i, hi, hl, rfl⟩
    have e1 : i = a.toNatClampNeg := by simpa using hi
    subst e1
    simp only [wp_pure']
    exact hq _ _
end GRID
section GRIDW
variable {p : Program} {l : Launch} {e : Env} {R : Room} {s : State} {m : MethodId} {args : Array Value} {below : List Frame} {meth : Method} {c : Code} {H : Heap} {locs : List Loc} {cells slots : Nat} {Q : State → Prop}
variable {cc : ByteArray} {pc : Nat} {ls : Array Slot} {rest : List Value} {own : String}
theorem grs_st {T : State} {cA cI : ClassId} {N K : Nat} (X : Stand p l e R s m args below meth c T locs cells slots) : ∀ i, Stand p l e R s m args below meth c (grs T cA cI N K i) (locs ++ (List.range i).map fun j => ⟨T.heap.size, j⟩) (cells + 1 + i) (slots + N + i * K) := by
  intro i
  induction i with
  | zero =>
    have h := X.pushed (gro cA N T.heap.size 0)
    rw [show (gro cA N T.heap.size 0).slots.size = N from arrV_size _ _ _] at h
    simpa [grs] using h
  | succ i ih =>
    obtain ⟨f1, f2, -, -, -, -⟩ := grs_ok (T := T) (cA := cA) (cI := cI) (N := N) (K := K) i
    have hlt : T.heap.size < (grs T cA cI N K i).heap.size := by omega
    have h := (ih.pushed (grr cI K)).stored (a := T.heap.size) (cell := gro cA N T.heap.size i) (by rw [State.heap_pushCell_of_lt (h := hlt)]; exact f2) i (.ref (T.heap.size + 1 + i))
    rw [gro_set, show (grr cI K).slots.size = K from arrV_size _ _ _] at h
    have e1 : (locs ++ (List.range (i + 1)).map fun j => (⟨T.heap.size, j⟩ : Loc)) = (locs ++ (List.range i).map fun j => (⟨T.heap.size, j⟩ : Loc)) ++ [⟨T.heap.size, i⟩] := by simp [List.range_succ, List.append_assoc]
    have e2 : slots + N + (i + 1) * K = slots + N + i * K + K := by rw [Nat.succ_mul]; omega
    rw [e1, e2]
    exact h
theorem w_grid {index : Nat} (hexec : p.tables.exec = Jvm.exec) (hb : c.code = cc) (hown : s.vm.findClass own = some m.cls) (hcl : (Cond.classLink own index "[[I").before args s = true) {cA cI ci : ClassId} {kA kI : Class} (hfA : s.vm.findClass "[[I" = some cA) (hkA : s.vm.classes[cA]? = some kA) (hA : kA.kind = .array cI (.array .int)) (hkI : s.vm.classes[cI]? = some kI) (hI : kI.kind = .array ci .int)
    {a b : Int32} {N K : Nat} (ha : ¬ a < 0) (hb0 : ¬ b < 0) (hN : a.toNatClampNeg = N) (hK : b.toNatClampNeg = K) (hNb : N ≤ 1000) (hKb : K ≤ 1000) (hcells : cells + (1 + N) ≤ R.cells) (hslots : slots + (N + N * K) ≤ R.slots) (hdg : decode cc pc = .ok (.multianewarray index 2, 4))
    (kk : ∀ H1 : Heap, H1.size = H.size + 1 + N → H1[H.size]? = some (arrV cA N (fun j => if j < N then .ref (H.size + 1 + j) else .null)) → (∀ j, j < N → H1[H.size + 1 + j]? = some (arrV cI K (fun _ => .int 0))) → (∀ q, q < H.size → H1[q]? = H[q]?) →
      W p l e R s m args below meth c H1 (locs ++ (List.range N).map fun j => ⟨H.size, j⟩) (cells + 1 + N) (slots + N + N * K) Q (F0 m (pc + 4) ls (.ref H.size :: rest))) : W p l e R s m args below meth c H locs cells slots Q (F0 m pc ls (.int b :: .int a :: rest)) := by
  intro T hT X
  subst hT
  subst hb
  have hpl : e.platform.magicAccessors = ({} : Platform).magicAccessors := by rw [X.admits.platform]
  obtain ⟨c0, hf0, hcl0⟩ := Cond.classLink_spec hown hcl e.platform hpl
  cases hfA.symm.trans hf0
  obtain ⟨hg₁, hwarm₁, hready₁⟩ := State.classEntry (e := e) X.warmed hcl0
  generalize T.vm.noted m.cls index (.cls cA) = vm₁ at hg₁ hwarm₁ hready₁
  have hal : s.vm.Alike vm₁ := hwarm₁.alike
  obtain ⟨kA₁, hkA₁, heA⟩ := hal.2.2 _ _ hkA
  obtain ⟨kI₁, hkI₁, heI⟩ := hal.2.2 _ _ hkI
  have hA₁ : kA₁.kind = .array cI (.array .int) := by rw [heA]; exact hA
  have hI₁ : kI₁.kind = .array ci .int := by rw [heI]; exact hI
  have X₁ := X.noted hwarm₁
  obtain ⟨hr1, hr2⟩ := X.roomAbove hcells hslots
  have X₂ := grs_st (cA := cA) (cI := cI) (N := N) (K := K) X₁ N
  obtain ⟨f1, f2, f3, f4, f5, f6⟩ := grs_ok (T := T.setVm vm₁) (cA := cA) (cI := cI) (N := N) (K := K) N
  obtain ⟨t, a1, b1⟩ := kk (grs (T.setVm vm₁) cA cI N K N).heap f1 f2 f5 f6 (grs (T.setVm vm₁) cA cI N K N) rfl X₂
  refine ⟨t, ?_, b1⟩
  have l1 : ¬ N > e.platform.arrayLengthLimit := by rw [Launch.admits_arrayLengthLimit X.admits]; omega
  have l2 : ¬ N * componentBytes (.array .int) > e.platform.maxHeapBytes := by rw [Launch.admits_maxHeapBytes X.admits]; show ¬ N * 4 > 536870912; omega
  have l3 : ¬ K > e.platform.arrayLengthLimit := by rw [Launch.admits_arrayLengthLimit X.admits]; omega
  have l4 : ¬ K * componentBytes .int > e.platform.maxHeapBytes := by rw [Launch.admits_maxHeapBytes X.admits]; show ¬ K * 4 > 536870912; omega
  jvm_step X.here [hexec, hdg]
  simp only [multianewarray.sem, wp_bind', W.resolveClassAt_links (State.method?_setTop (F0 m pc ls (.int b :: .int a :: rest)) X.here.top) hg₁]
  rw [W.popN, if_neg (by decide)]
  refine ⟨F0 m pc ls (.int b :: .int a :: rest), State.topJava?_setTop' (s := T.setVm vm₁) _ X.here.top, [.int a, .int b], rest, rfl, rfl, ?_⟩
  simp only [List.mapM_cons, List.mapM_nil, wp_bind', wp_pure']
  refine gr_wp (N := N) (K := K) (kA := kA₁) (kI := kI₁) (cI := cI) (cc := ci) hkA₁ hA₁ hkI₁ hI₁ ha hb0 hN hK l1 l2 l3 l4 (by show T.heap.size + 1 + _ ≤ _; omega) (by show T.slotsUsed + _ + _ ≤ _; omega) (fun d' acts' => ?_)
  have eS : ((T.setTop (F0 m pc ls (.int b :: .int a :: rest))).setVm vm₁).setTop { F0 m pc ls (.int b :: .int a :: rest) with stack := rest } = (T.setVm vm₁).setTop { F0 m pc ls (.int b :: .int a :: rest) with stack := rest } := by
    show ((T.setVm vm₁).setTop (F0 m pc ls (.int b :: .int a :: rest))).setTop _ = _
    rw [State.setTop_setTop]
  rw [eS, grs_top]
  simp only [wp_bind', W.mark, W.pushRef, State.topJava?_setTop' _ X₂.here.top, Option.some.injEq, exists_eq_left', State.setTop_setTop, State.heap_setTop]
  intro acts
  simp [jvm, X₂.here.top]
  exact a1
end GRIDW

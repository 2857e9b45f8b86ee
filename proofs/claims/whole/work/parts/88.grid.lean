/-! An array of int rows, made at once. What is kept of the way there is the heap (gw_H: behind i rows) and that the method stands; the state itself is only said to be there, and the loop is walked from its last row back. -/
def gw_H (cA cI : ClassId) (N K : Nat) (H : Heap) (i : Nat) (G : Heap) : Prop :=
  G.size = H.size + 1 + i ∧ (∀ q, q < H.size → G[q]? = H[q]?) ∧ G[H.size]? = some (arrV cA N (fun j => if j < i then .ref (H.size + 1 + j) else .null)) ∧ ∀ j, j < i → G[H.size + 1 + j]? = some (arrV cI K (fun _ => .int 0))
theorem gw_first (cA cI : ClassId) (N K : Nat) (H : Heap) : gw_H cA cI N K H 0 (H.push (arrV cA N (fun _ => .null))) := by
  refine ⟨Array.size_push _, fun q hq => ?_, ?_, fun j hj => absurd hj (Nat.not_lt_zero j)⟩
  · rw [Array.getElem?_push, if_neg (Nat.ne_of_lt hq)]
  · rw [Array.getElem?_push_size]
    rfl
theorem gw_next {cA cI : ClassId} {N K i : Nat} {H G : Heap} (h : gw_H cA cI N K H i G) : gw_H cA cI N K H (i + 1) ((G.push (arrV cI K (fun _ => .int 0))).setIfInBounds H.size ((arrV cA N (fun j => if j < i then .ref (H.size + 1 + j) else .null)).setSlot i (.ref G.size))) := by
  obtain ⟨h1, h2, h3, h4⟩ := h
  have look : ∀ q, q ≠ H.size → ((G.push (arrV cI K (fun _ => .int 0))).setIfInBounds H.size ((arrV cA N (fun j => if j < i then .ref (H.size + 1 + j) else .null)).setSlot i (.ref G.size)))[q]? = if q = G.size then some (arrV cI K (fun _ => .int 0)) else G[q]? := fun q hq => by
    rw [Array.getElem?_setIfInBounds_ne (Ne.symm hq), Array.getElem?_push]
  refine ⟨?_, fun q hq => ?_, ?_, fun j hj => ?_⟩
  · rw [Array.size_setIfInBounds, Array.size_push, h1]
    rfl
  · rw [look q (Nat.ne_of_lt hq), if_neg (by omega), h2 q hq]
  · rw [Array.getElem?_setIfInBounds_self_of_lt (by rw [Array.size_push]; omega), arrV_store, h1]
    refine congrArg (fun f => some (arrV cA N f)) (funext fun j => ?_)
    show (if j = i then Value.ref (H.size + 1 + i) else if j < i then Value.ref (H.size + 1 + j) else Value.null) = if j < i + 1 then Value.ref (H.size + 1 + j) else Value.null
    rcases Nat.lt_trichotomy j i with g | g | g
    · rw [if_neg (Nat.ne_of_lt g), if_pos g, if_pos (Nat.lt_succ_of_lt g)]
    · rw [if_pos g, if_pos (by omega), g]
    · rw [if_neg (Nat.ne_of_gt g), if_neg (Nat.lt_asymm g), if_neg (by omega)]
  · rw [look _ (by omega)]
    split
    · rfl
    · exact h4 j (by omega)
section GW
variable {p : Program} {l : Launch} {e : Env} {R : Room} {s T : State} {m : MethodId} {args : Array Value} {below : List Frame} {meth : Method} {c : Code} {H : Heap} {locs : List Loc} {cells slots : Nat}
variable {cA cI ci : ClassId} {kA kI : Class} {N K : Nat} {b : Int32}
/-- One array, where the method stands. -/
theorem gw_new {ca comp : ClassId} {k : Class} {ty : FieldType} {v : Value} {n : Nat} (X : Stand p l e R s m args below meth c T locs cells slots) (hk : s.vm.classes[ca]? = some k) (hkind : k.kind = .array comp ty) (hty : componentBytes ty = 4) (hv : fits ty v = true) (hn : n ≤ 1000) (hc : cells + 1 ≤ R.cells) (hs : slots + n ≤ R.slots)
    {f : JFrame} {E : CtlPost} {d : Bool} {acts : List Action} {Q : Addr → Pre} (hq : ∀ acts', Q T.heap.size d acts' ((T.pushCell (arrV ca n (fun _ => v))).setTop f)) : wp (Jvm.newArray ca n v) Q E e d acts (T.setTop f) := by
  obtain ⟨k', hk', e'⟩ := X.warmed.alike.2.2 _ _ hk
  obtain ⟨r1, r2⟩ := X.roomAbove hc hs
  refine W.newArray_of (s := T.setTop f) hk' (show k'.kind = _ by rw [e']; exact hkind) ?_ ?_ r1 r2 hv fun acts' => ?_
  · rw [Launch.admits_arrayLengthLimit X.admits]
    omega
  · rw [hty, Launch.admits_maxHeapBytes X.admits]
    show ¬ n * 4 > 536870912
    omega
  · rw [arrV_new]
    exact hq acts'
/-- The rows that are still to come, k of them: where they end, the method stands over some state U, and whatever holds there is brought about. -/
theorem gw_rows (hkA : s.vm.classes[cA]? = some kA) (hA : kA.kind = .array cI (.array .int)) (hkI : s.vm.classes[cI]? = some kI) (hI : kI.kind = .array ci .int) (hb : ¬ b < 0) (hK : b.toNatClampNeg = K) (hKb : K ≤ 1000)
    {F : Nat → PUnit → Sem (ForInStep PUnit)} (hF : ∀ i, F i PUnit.unit = (multianewarray.make cI [b] >>= fun r => Jvm.writeLoc H.size i (.ref r) >>= fun _ => Pure.pure (ForInStep.yield PUnit.unit))) :
    ∀ (k i : Nat) (T : State) (locs : List Loc) (cells slots : Nat), i + k = N → cells + k ≤ R.cells → slots + k * K ≤ R.slots → Stand p l e R s m args below meth c T locs cells slots → gw_H cA cI N K H i T.heap →
      ∃ U, Stand p l e R s m args below meth c U (locs ++ (List.range' i k).map fun j => ⟨H.size, j⟩) (cells + k) (slots + k * K) ∧ gw_H cA cI N K H N U.heap ∧
        ∀ (f : JFrame) (E : CtlPost) (d : Bool) (acts : List Action) (Q : PUnit → Pre), (∀ d' acts', Q PUnit.unit d' acts' (U.setTop f)) → wp (forIn (List.range' i k) PUnit.unit F) Q E e d acts (T.setTop f) := by
  intro k
  induction k with
  | zero =>
    intro i T locs cells slots hi _ _ X hG
    have e1 : i = N := hi
    subst e1
    refine ⟨T, ?_, hG, fun f E d acts Q hq => ?_⟩
    · rw [Nat.zero_mul]
      simpa using X
    · rw [List.range'_zero, List.forIn_nil, wp_pure']
      exact hq d acts
  | succ k ih =>
    intro i T locs cells slots hi hc hs X hG
    rw [Nat.succ_mul] at hs
    have z1 := hG.1
    have z3 := hG.2.2.1
    have hcell : (T.pushCell (arrV cI K (fun _ => .int 0))).heap[H.size]? = some (arrV cA N (fun j => if j < i then .ref (H.size + 1 + j) else .null)) := by
      rw [← z3]
      show (T.heap.push _)[H.size]? = _
      rw [Array.getElem?_push, if_neg (by omega)]
    have X1 := (X.pushed (arrV cI K (fun _ => .int 0))).stored hcell i (.ref T.heap.size)
    rw [arrV_size] at X1
    obtain ⟨U, XU, hU, go⟩ := ih (i + 1) _ _ _ _ (by omega) (by omega) (by omega) X1 (gw_next hG)
    refine ⟨U, ?_, hU, fun f E d acts Q hq => ?_⟩
    · rw [List.append_assoc] at XU
      rw [show cells + (k + 1) = cells + 1 + k by omega, show slots + (k + 1) * K = slots + K + k * K by rw [Nat.succ_mul]; omega]
      exact XU
    · rw [List.range'_succ, List.forIn_cons, hF, multianewarray.make]
      simp only [wp_bind', W.ite, hb, if_false, wp_pure', W.theClass]
      obtain ⟨kI', hkI', eI⟩ := X.warmed.alike.2.2 _ _ hkI
      have hI' : kI'.kind = .array ci .int := by rw [eI]; exact hI
      refine ⟨kI', hkI', ?_⟩
      simp only [hI', hK]
      refine gw_new X hkI hI rfl rfl hKb (by omega) (by omega) fun acts' => ?_
      obtain ⟨kA', hkA', eA⟩ := X.warmed.alike.2.2 _ _ hkA
      have hA' : kA'.kind = .array cI (.array .int) := by rw [eA]; exact hA
      rw [wp_bind', W.writeLoc]
      refine ⟨_, hcell, nofun, ?_, ?_, ?_⟩
      · rw [arrV_size]
        omega
      · have ht : ((T.pushCell (arrV cI K (fun _ => .int 0))).setTop f).slotType? cA .none i = some (.array .int) := by
          show (T.vm.classes[cA]?).bind _ = _
          rw [hkA', Option.bind_some]
          simp only [hA']
        show (match ((T.pushCell (arrV cI K (fun _ => .int 0))).setTop f).slotType? cA .none i with | some t => fits t (.ref T.heap.size) | none => false) = true
        rw [ht]
        rfl
      · rw [wp_pure']
        exact go f E true _ Q hq
/-- The outer array, then its rows. -/
theorem gw_make {a : Int32} (hkA : s.vm.classes[cA]? = some kA) (hA : kA.kind = .array cI (.array .int)) (hkI : s.vm.classes[cI]? = some kI) (hI : kI.kind = .array ci .int) (ha : ¬ a < 0) (hb : ¬ b < 0) (hN : a.toNatClampNeg = N) (hK : b.toNatClampNeg = K) (hNb : N ≤ 1000) (hKb : K ≤ 1000)
    (hc : cells + (1 + N) ≤ R.cells) (hs : slots + (N + N * K) ≤ R.slots) (X : Stand p l e R s m args below meth c T locs cells slots) :
    ∃ U, Stand p l e R s m args below meth c U (locs ++ (List.range N).map fun j => ⟨T.heap.size, j⟩) (cells + 1 + N) (slots + N + N * K) ∧ gw_H cA cI N K T.heap N U.heap ∧
      ∀ (f : JFrame) (E : CtlPost) (d : Bool) (acts : List Action) (Q : Addr → Pre), (∀ d' acts', Q T.heap.size d' acts' (U.setTop f)) → wp (multianewarray.make cA [a, b]) Q E e d acts (T.setTop f) := by
  have X1 := X.pushed (arrV cA N (fun _ => .null))
  rw [arrV_size] at X1
  obtain ⟨U, XU, hU, go⟩ := gw_rows (F := fun i _ => multianewarray.make cI [b] >>= fun r => Jvm.writeLoc T.heap.size i (.ref r) >>= fun _ => Pure.pure (ForInStep.yield PUnit.unit)) hkA hA hkI hI hb hK hKb (fun _ => rfl) N 0 _ _ _ _ (Nat.zero_add N) (by omega) (by omega) X1 (gw_first cA cI N K T.heap)
  refine ⟨U, by rw [List.range_eq_range']; exact XU, hU, fun f E d acts Q hq => ?_⟩
  obtain ⟨k', hk', e'⟩ := X.warmed.alike.2.2 _ _ hkA
  have hkind : k'.kind = .array cI (.array .int) := by rw [e']; exact hA
  rw [multianewarray.make]
  simp only [wp_bind', W.ite, ha, if_false, wp_pure', W.theClass]
  refine ⟨k', hk', ?_⟩
  simp only [hkind, hN, wp_bind']
  refine gw_new X hkA hA rfl rfl hNb (by omega) (by omega) fun acts' => ?_
  have none_neg : List.find? (fun x : Int32 => decide (x < 0)) [b] = none := by
    rw [List.find?_cons_of_neg (by simpa using hb), List.find?_nil]
  have rows : wp (forIn ([:N] : Std.Legacy.Range) PUnit.unit (fun i _ => multianewarray.make cI [b] >>= fun r => Jvm.writeLoc T.heap.size i (.ref r) >>= fun _ => Pure.pure (ForInStep.yield PUnit.unit)) >>= fun _ => Pure.pure T.heap.size) Q E e d acts' ((T.pushCell (arrV cA N (fun _ => .null))).setTop f) := by
    rw [wp_bind', Std.Legacy.Range.forIn_eq_forIn_range', show ([:N] : Std.Legacy.Range).size = N by simp [Std.Legacy.Range.size]]
    refine go f E d acts' _ fun d' acts'' => ?_
    rw [wp_pure']
    exact hq d' acts''
  by_cases z : (a == 0) = true
  · rw [if_pos z, none_neg]
    exact rows
  · rw [if_neg z]
    exact rows
end GW
section GRIDW
variable {p : Program} {l : Launch} {e : Env} {R : Room} {s : State} {m : MethodId} {args : Array Value} {below : List Frame} {meth : Method} {c : Code} {H : Heap} {locs : List Loc} {cells slots : Nat} {Q : State → Prop}
variable {cc : ByteArray} {pc : Nat} {ls : Array Slot} {rest : List Value} {own : String}
theorem w_grid {index : Nat} (hexec : p.tables.exec = Jvm.exec) (hb : c.code = cc) (hown : s.vm.findClass own = some m.cls) (hcl : (Cond.classLink own index "[[I").before args s = true) {cA cI ci : ClassId} {kA kI : Class} (hfA : s.vm.findClass "[[I" = some cA) (hkA : s.vm.classes[cA]? = some kA) (hA : kA.kind = .array cI (.array .int)) (hkI : s.vm.classes[cI]? = some kI) (hI : kI.kind = .array ci .int)
    {a b : Int32} {N K : Nat} (ha : ¬ a < 0) (hb0 : ¬ b < 0) (hN : a.toNatClampNeg = N) (hK : b.toNatClampNeg = K) (hNb : N ≤ 1000) (hKb : K ≤ 1000) (hcells : cells + (1 + N) ≤ R.cells) (hslots : slots + (N + N * K) ≤ R.slots) (hdg : decode cc pc = .ok (.multianewarray index 2, 4))
    (kk : ∀ H1 : Heap, gw_H cA cI N K H N H1 →
      W p l e R s m args below meth c H1 (locs ++ (List.range N).map fun j => ⟨H.size, j⟩) (cells + 1 + N) (slots + N + N * K) Q (F0 m (pc + 4) ls (.ref H.size :: rest))) : W p l e R s m args below meth c H locs cells slots Q (F0 m pc ls (.int b :: .int a :: rest)) := by
  intro T hT X
  subst hT
  obtain ⟨c0, hf0, hcl0⟩ := Cond.classLink_spec hown hcl e.platform (by rw [X.admits.platform])
  cases hfA.symm.trans hf0
  obtain ⟨gives, warm, -⟩ := State.classEntry (e := e) X.warmed hcl0
  obtain ⟨U, XU, hU, go⟩ := gw_make hkA hA hkI hI ha hb0 hN hK hNb hKb hcells hslots (X.noted warm)
  obtain ⟨t, st, hQ⟩ := kk U.heap hU U rfl XU
  refine ⟨t, ?_, hQ⟩
  jvm_step X.here [hexec, hb, hdg]
  rw [multianewarray.sem, wp_bind', W.resolveClassAt_links (State.method?_setTop _ X.here.top) gives, wp_bind', W.popN, if_neg (by decide)]
  refine ⟨_, State.topJava?_setTop' (s := T.setVm _) _ X.here.top, [.int a, .int b], rest, rfl, rfl, ?_⟩
  rw [State.setVm_setTop, State.setTop_setTop]
  simp only [List.mapM_cons, List.mapM_nil, wp_bind', wp_pure']
  refine go _ _ _ _ _ fun d' acts' => ?_
  rw [wp_bind', W.mark, W.pushRef]
  refine ⟨_, State.topJava?_setTop' _ XU.here.top, fun acts2 => ?_⟩
  rw [State.setTop_setTop]
  simp [jvm, XU.here.top]
  exact st
end GRIDW

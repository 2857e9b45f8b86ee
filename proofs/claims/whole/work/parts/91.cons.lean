/-! Constructors: their contracts. -/
def vk (κ : Nat) : Nat → Int32 := fun j => if κ = 1 ∧ j = 1 then -1 else 0
def QZ (g : GP) (n len : Nat) (E : Nat → va_E) (ks : Nat → Nat) : Array Value → State → Outcome → State → Prop := va_Qv (fun _ : Unit => True) (fun _ t => ∃ E' : Nat → va_E, ZR g (n + len) E' t.heap ∧ (∀ k, k < n → E' k = E k) ∧ ∀ k, k < len → E' (n + k) = EK g (ks k) (n + k) (vk (ks k))) (FR g)
def CC (l : Launch) (g : GP) (y : MethodName) (cc : ByteArray) (nL : Nat) (rm : Room) (ci : Nat) (fs : List Value) (ks : Nat → Nat) (len : Nat) : Prop :=
  ∀ (n : Nat) (E : Nat → va_E), E n = .inr (ci, fs) → Met l y (wy y cc nL none) rm (va_Pc [.ref (ad g n)] (fun U => ZR g (n + 1) E U.heap ∧ CK g U)) (QZ g n len E ks) rm.cells rm.slots (FR g)
def kRw (k : Nat) : Nat := if k = 0 then 1 else 56
def kTp (k : Nat) : Nat := if k = 0 then 4 else 146
def kSg (k : Nat) : Nat := if k = 0 then 3 else 7
def kAc (k : Nat) : Nat := if k = 0 then 0 else if k = 1 then 10 else 22
def kSh (k : Nat) : Nat := if k = 0 then 2 else if k = 1 then 19 else if k < 5 then 40 else if k = 5 then 9 else 22
section ZCO
variable {p : Program} {l : Launch} {e : Env} {R : Room} {s : State} {m : MethodId} {args : Array Value} {below : List Frame} {meth : Method} {c : Code} {H : Heap} {locs : List Loc} {cells slots : Nat} {Q : State → Prop}
variable {cc : ByteArray} {pc : Nat} {ls : Array Slot} {rest : List Value} {g : GP} {nL n i len : Nat} {E E' : Nat → va_E} {own : String} {ks : Nat → Nat}
theorem cc_of {y : MethodName} {rm : Room} {ci : Nat} {fs : List Value} (hg : ∀ i, ad g i = ad g 0 + i) (hy : plainName y.cls = true) (hny : y.name = "<init>") (hn : 1 ≤ nL)
    (h : ∀ (n : Nat) (E : Nat → va_E), E n = .inr (ci, fs) → ∀ (p : Program) (e : Env) (s : State) (m : MethodId) (args : Array Value) (below : List Frame) (meth : Method) (c : Code) (ls : Array Slot), BZ p s m args c g cc nL y.cls → meth.name = "<init>" → meth.sig.returnType = none → meth.locks = false → OZ g (n + 1) E s s.heap [] → lv_has ls nL [(0, .ref (ad g n))] →
      W p l e rm s m args below meth c s.heap [] 0 0 (MQ below (QZ g n len E ks) args s rm.cells rm.slots (FR g)) (F0 m 0 ls [])) : CC l g y cc nL rm ci fs ks len := by
  intro n E hE
  refine Met.ofW (cc := cc) (maxL := nL) (ret := none) hy rfl ?_
  intro p e s m args below meth c s₁ B hml hv
  obtain ⟨hargs, hZ, hCK⟩ := hv
  subst hargs
  have hts := atoms_spec (ws := wy y cc nL none) B.pre
  have hown : s.vm.findClass y.cls = some m.cls := findClass_of_methodNamed B.named
  have hl := lv_entry [.ref (ad g n)] (n := nL) hn
  rw [lg_entry_eq]
  exact h n E hE p e s m _ below meth c _ ⟨B.exec, B.bytes, hml, hown, fun w hw => hts w (List.mem_cons_of_mem _ hw), hCK, hg⟩ ((name_of_methodNamed B.named B.method).1.trans hny) B.returns B.notSynchronized ⟨hZ, va_S.rf⟩ hl
theorem z_ret (hB : BZ p s m args c g cc nL own) (hr : meth.sig.returnType = none) (hlocks : meth.locks = false) (hz : OZ g (n + len) E' s H locs) (h1 : ∀ k, k < n → E' k = E k) (h2 : ∀ k, k < len → E' (n + k) = EK g (ks k) (n + k) (vk (ks k))) (hdg : decode cc pc = .ok (.return_, 1)) : W p l e R s m args below meth c H locs cells slots (MQ below (QZ g n len E ks) args s cells slots (FR g)) (F0 m pc ls []) :=
  W.vret hB.1 hB.2.1 hr (fun t ht hW => ⟨⟨(), rfl, trivial, E', by rw [ht]; exact hz.1, h1, h2⟩, hz.2.F ht⟩) hz.2.2.2 hdg
theorem z_cin {y : MethodName} {c1 : ByteArray} {n1 index ci mc ms : Nat} {rm : Room} {fs : List Value} (hB : BZ p s m args c g cc nL RX6) (hz : OZ g (n + 1) E s H locs) (hM : CC l g y c1 n1 rm ci fs ks len) (hE : E n = .inr (ci, fs)) (hmc : rm.cells = mc) (hms : rm.slots = ms) (hw : (index, y) ∈ cnw) (hy : y.name = "<init>") (w1 : Cond.code y c1 n1 none ∈ lw_g) (w2 : Cond.initialized y.cls ∈ lw_g) (w4 : Cond.instanceMethod y ∈ lw_g) (hd : y.cls ≠ "java/lang/invoke/MethodHandle" ∧ y.cls ≠ "java/lang/invoke/VarHandle" ∧ (parseMethodDescriptor y.desc).map (fun d => d.parameters.length) = some 0) (hR : rm.frames + 1 ≤ R.frames ∧ 8 + (n1 + 11) + rm.locals ≤ R.locals) (hcs : cells + mc ≤ R.cells ∧ slots + ms ≤ R.slots) (hsz : ls.size = nL) (hrest : (rest.map fun v => v.category).sum ≤ 8) (hdg : decode cc pc = .ok (.invokespecial index, 3))
    (kk : ∀ (E' : Nat → va_E) (H1 : Heap) (locs1 : List Loc), OZ g (n + len) E' s H1 locs1 → (∀ k, k < n → E' k = E k) → (∀ k, k < len → E' (n + k) = EK g (ks k) (n + k) (vk (ks k))) → W p l e R s m args below meth c H1 locs1 (cells + mc) (slots + ms) Q (F0 m (pc + 3) ls rest)) : W p l e R s m args below meth c H locs cells slots Q (F0 m pc ls (.ref (ad g n) :: rest)) := by
  subst hmc
  subst hms
  obtain ⟨hx, hb, hml, hown, hT, hCK, hg⟩ := hB
  refine va_callv (va_runIN (As := []) ⟨hx, hb, hml, hown, hT⟩ (hM n E hE) ⟨va_cnB 0 hT (gi_wy w1) rfl rfl rfl (hCK.2.2.2 _ hw) (hT _ w2) hd hR, hy, hT _ w4⟩ ⟨fun a U f mk q => ⟨q.1, q.2.1, q.2.2.calling⟩, fun U hU hW => ⟨rfl, by rw [hU]; exact hz.1, hCK.warm hW⟩⟩ rfl rfl hsz rfl (lv_room hrest) hdg hcs) hz.2 (fun q _ h => h) (fun q h => h) (fun u t H1 locs1 ht _ _ hB1 _ _ hS1 => ?_)
  obtain ⟨E', b1, b2, b3⟩ := hB1
  exact kk E' H1 locs1 ⟨by rw [← ht]; exact b1, hS1⟩ b2 b3
end ZCO

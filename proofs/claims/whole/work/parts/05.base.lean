theorem ib_in {i : Int32} {n : Nat} (h : ib i n = true) : vp_in i n := by
  unfold ib at h
  intro q
  rcases q with q | q
  · simp [q] at h
  · simp [q] at h
/-- classes' numbers and slots; the array classes; where the cells lie; where the static tables lie -/
abbrev GP : Type := va_G × (Nat → ClassId) × (Nat → Nat) × (Nat → Nat)
def ac (g : GP) : Nat → ClassId := g.2.1
def ad (g : GP) : Nat → Nat := g.2.2.1
def sa (g : GP) : Nat → Nat := g.2.2.2
def KD (L : LY) (i k : Nat) : Prop := i < L.2 ∧ L.1 i = k
def zcls : List vw_C := [(RX0, TX0, 3), (RX2, TX2, 3), (RX3, TX3, 7), (RX4, TX4, 2), (RX5, TX5, 7), (RX6, TX6, 14), (RX7, TX7, 30)]
def ztys (a : Nat → ClassId) : List (ClassId × FieldType) := [(a 0, .int), (a 1, .char), (a 2, .boolean), (a 3, .array .int), (a 4, .object RX2), (a 5, .object RX3), (a 6, .object RX4)]
def EK (g : GP) (k i : Nat) (f : Nat → Int32) : va_E := match k with
  | 0 => .inr (0, [.ref (ad g (i + 1)), .int (f 1), .int (f 2)])
  | 1 => .inr (1, [.ref (ad g (i + 1)), .int (f 1), .int (f 2)])
  | 2 => .inr (2, [.ref (ad g (i + 1)), .ref (ad g (i + 2)), .ref (ad g (i + 3)), .ref (ad g (i + 4)), .int (f 4), .ref (ad g (i + 5)), .int (f 6)])
  | 3 => .inr (3, [.ref (ad g (i + 1)), .int (f 1)])
  | 4 => .inr (4, [.ref (ad g (i + 1)), .int (f 1), .int (f 2), .int (f 3), .int (f 4), .int (f 5), .int (f 6)])
  | 5 => .inr (5, [.ref (ad g 1), .ref (ad g 2), .ref (ad g 4), .ref (ad g 35), .ref (ad g 66), .ref (ad g 67), .ref (ad g 93), .ref (ad g 94), .ref (ad g 96), .ref (ad g 97), .ref (ad g 98), .int (f 11), .int (f 12), .int (f 13)])
  | 6 => .inr (6, [.int (f 0), .int (f 1), .ref (ad g 1), .ref (ad g 2), .ref (ad g 3), .ref (ad g 4), .ref (ad g 5), .ref (ad g 6), .ref (ad g 7), .int (f 9), .ref (ad g 8), .int (f 11), .int (f 12), .int (f 13), .int (f 14), .int (f 15), .int (f 16), .int (f 17), .int (f 18), .ref (ad g 9), .ref (ad g 10), .ref (ad g 11), .ref (ad g 12), .int (f 23), .ref (ad g 13), .int (f 25), .ref (ad g 14), .ref (ad g 15), .ref (ad g 16), .int (f 29)])
  | 7 => .inl (ac g 1, 23, .inl f)
  | 8 => .inl (ac g 2, 2, .inl f)
  | 9 => .inl (ac g 3, 25, .inr (.inr (.inr (.inr (fun j => some (ad g (i + 1 + j)))))))
  | 10 => .inl (ac g 3, 24, .inr (.inr (.inr (.inr (fun j => some (ad g (i + 1 + j)))))))
  | 11 => .inl (ac g 4, 8, .inr (.inr (.inr (.inr (fun j => some (ad g (99 + 2 * j)))))))
  | 12 => .inl (ac g 5, 2, .inr (.inr (.inr (.inr (fun j => some (ad g (115 + 31 * j)))))))
  | 13 => .inl (ac g 6, 24, .inr (.inr (.inr (.inr (fun j => some (ad g (177 + 2 * j)))))))
  | 14 => .inl (ac g 0, 0, .inl f)
  | 15 => .inl (ac g 0, 0, .inl f)
  | n + 16 => .inl (ac g 0, n, .inl f)
def zW (g : GP) (L : LY) (V : Mem) : va_W := (List.range L.2).map fun i => (ad g i, EK g (L.1 i) i (V i))
def Ar (g : GP) (L : LY) : Nat → Prop := fun q => ∃ i, i < L.2 ∧ q = ad g i
def IJ (g : GP) (L : LY) : Prop := ∀ i j, i < L.2 → j < L.2 → ad g i = ad g j → i = j
theorem zW_k {g : GP} {L : LY} {V : Mem} {i k : Nat} (h : KD L i k) : (zW g L V)[i]? = some (ad g i, EK g k i (V i)) := by
  obtain ⟨h1, h2⟩ := h
  subst h2
  simp [zW, h1]
theorem zW_set {g : GP} {L : LY} {V : Mem} {i k : Nat} {f : Nat → Int32} (h : KD L i k) : (zW g L V).set i (ad g i, EK g k i f) = zW g L (ms V i f) := by
  obtain ⟨h1, h2⟩ := h
  subst h2
  apply List.ext_getElem?
  intro j
  rw [List.getElem?_set]
  by_cases e : i = j
  · subst e
    simp [zW, h1, ms]
  · by_cases hj : j < L.2
    · simp [zW, hj, ms, e, Ne.symm e]
    · simp [zW, hj, e]
theorem zW_D {g : GP} {L : LY} {V : Mem} (hJ : IJ g L) : va_D (Ar g L) (zW g L V) := by
  have key : ∀ (i : Nat) (p : Nat × va_E), (zW g L V)[i]? = some p → i < L.2 ∧ p.1 = ad g i := by
    intro i p h
    have hi : i < L.2 := by
      have := (List.getElem?_eq_some_iff.mp h).1
      simpa [zW] using this
    refine ⟨hi, ?_⟩
    have h2 : (zW g L V)[i]? = some (ad g i, EK g (L.1 i) i (V i)) := zW_k ⟨hi, rfl⟩
    rw [h2] at h
    cases h
    rfl
  refine ⟨fun i j p q hp hq hpq => ?_, fun k q h => ?_⟩
  · obtain ⟨a1, a2⟩ := key i p hp
    obtain ⟨b1, b2⟩ := key j q hq
    exact hJ i j a1 b1 (by rw [← a2, ← b2]; exact hpq)
  · obtain ⟨a1, a2⟩ := key k q h
    exact ⟨k, a1, a2⟩
def tbn (k : Nat) : String × String × FieldType := match k with
  | 0 => ("KIND_ABOVE", "[I", .int)
  | 1 => ("SORTS", "[C", .char)
  | 2 => ("SIZE_BODIES", "[I", .int)
  | 3 => ("MARK_BODIES", "[I", .int)
  | 4 => ("ROMAN_VALUES", "[I", .int)
  | 5 => ("ROMAN_FIRST", "[C", .char)
  | _ => ("ROMAN_SECOND", "[C", .char)
def ZS (g : GP) (A : Nat → Prop) (U : State) (H : Heap) : Prop := ∀ k, k < 7 → va_Z "CountedLists" (tbn k).1 (tbn k).2.1 (.ref (sa g k)) A U H ∧ va_T (tbn k).2.2 (sa g k) (tbl k).length (fun j => .int (tba k j)) A U H
/-- the words that stay over calls -/
def lw_g : List Cond := lw_tbl.filter goodWord
theorem mg {w : Cond} (i : Nat) (h : lw_tbl[i]? = some w) (hg : goodWord w = true) : w ∈ lw_g := List.mem_filter.mpr ⟨List.mem_of_getElem? h, hg⟩
def nsw : List (String × Nat × String) := [("CountedLists$Signs", 33, "ROMAN_VALUES"), ("CountedLists$Signs", 37, "ROMAN_FIRST"), ("CountedLists$Signs", 40, "ROMAN_SECOND"), ("CountedLists$Tape", 70, "SORTS")]
def nsd (n : String) : String := if n = "ROMAN_VALUES" then "[I" else "[C"
def nsc (q : String × Nat × String) : Cond := .fieldLinkNest q.1 q.2.1 "CountedLists" q.2.2 (nsd q.2.2) "CountedLists"
def NW (U : State) : Prop := ∀ q ∈ nsw, va_Nw (nsc q) U
theorem NW.warm {s U : State} (hW : s.WarmedH U.vm) (h : NW s) : NW U := fun q hq => va_Nw.warmF hW (h q hq)
theorem NW.same {s U : State} (hv : s.vm = U.vm) (h : NW s) : NW U := fun q hq => va_Nw.same rfl hv (h q hq)
/-- a state that holds the cells -/
def RG (g : GP) (L : LY) (V : Mem) (U : State) : Prop := va_P g.1 zcls (zW g L V) U.heap ∧ va_K g.1 zcls (ztys (ac g)) U ∧ IJ g L ∧ ZS g (Ar g L) U U.heap ∧ NW U
/-- the sorts of answers that methods here have -/
def AK (r : Option Value) : Prop := r = none ∨ (∃ v : Int32, r = some (.int v)) ∨ (∃ v : Int64, r = some (.long v)) ∨ ∃ a : Nat, r = some (.ref a)
def QQ (g : GP) (L : LY) (r : Option Value) (V : Mem) : Array Value → State → Outcome → State → Prop := fun _ st oc t => AK r ∧ oc = .returned r ∧ RG g L V t ∧ va_F (Ar g L) st t
def wy (y : MethodName) (cc : ByteArray) (nL : Nat) (ret : Option FieldType) : List Cond := .code y cc nL ret :: lw_g
def CT (l : Launch) (g : GP) (L : LY) (y : MethodName) (cc : ByteArray) (nL : Nat) (ret : Option FieldType) (rm : Room) (as : List Value) (V : Mem) (r : Option Value) (V' : Mem) : Prop :=
  Met l y (wy y cc nL ret) rm (va_Pc as (RG g L V)) (QQ g L r V') 0 0 (Ar g L)
def BX (p : Program) (s : State) (m : MethodId) (args : Array Value) (meth : Method) (c : Code) (g : GP) (L : LY) (cc : ByteArray) (nL : Nat) (own : String) (ret : Option FieldType) : Prop :=
  p.tables.exec = Jvm.exec ∧ c.code = cc ∧ c.maxLocals = nL ∧ s.vm.findClass own = some m.cls ∧ (∀ w ∈ lw_g, w.before args s = true) ∧ meth.sig.returnType = ret ∧ meth.locks = false ∧ va_K g.1 zcls (ztys (ac g)) s ∧ IJ g L ∧ ZS g (Ar g L) s s.heap ∧ NW s
def OK (g : GP) (L : LY) (V : Mem) (s : State) (H : Heap) (locs : List Loc) : Prop := va_P g.1 zcls (zW g L V) H ∧ va_S (Ar g L) s.heap H locs
theorem ZS.moved {g : GP} {A : Nat → Prop} {u U : State} {H : Heap} (hvm : u.vm.Alike U.vm) (h : ZS g A u H) : ZS g A U H := fun k hk => ⟨(h k hk).1.moved hvm, (h k hk).2.moved hvm⟩
theorem ZS.kept {g : GP} {A : Nat → Prop} {U : State} {H H1 : Heap} (h : ZS g A U H) (hq : ∀ a : Nat, a < H.size → ¬ A a → H1[a]? = H[a]?) : ZS g A U H1 := fun k hk => ⟨(h k hk).1.kept hq, (h k hk).2.kept hq⟩
theorem RG.calling {g : GP} {L : LY} {V : Mem} {a : Array Value} {U : State} {f : JFrame} {mk : MethodId} (h : RG g L V U) : RG g L V (U.calling f mk a) :=
  ⟨h.1, va_K.moved (u := U) (U := U.calling f mk a) (Vm.Alike.refl U.vm) h.2.1, h.2.2.1, ZS.moved (u := U) (U := U.calling f mk a) (Vm.Alike.refl U.vm) h.2.2.2.1, NW.same (U := U.calling f mk a) rfl h.2.2.2.2⟩
theorem gi_wy {y : MethodName} {cc : ByteArray} {nL : Nat} {ret : Option FieldType} (h : Cond.code y cc nL ret ∈ lw_g) : GoodIn lw_g (wy y cc nL ret) := by
  intro w hw
  have hm : w ∈ lw_g := by
    rcases List.mem_cons.mp hw with e | e
    · rw [e]; exact h
    · exact e
  exact ⟨hm, good_of_word (List.mem_filter.mp hm).2⟩
section BASE
variable {p : Program} {l : Launch} {e : Env} {R : Room} {s : State} {m : MethodId} {args : Array Value} {below : List Frame} {meth : Method} {c : Code} {H : Heap} {locs : List Loc} {Q : State → Prop}
variable {cc : ByteArray} {pc : Nat} {ls : Array Slot} {rest : List Value} {g : GP} {L : LY} {V : Mem} {nL : Nat} {own : String} {ret : Option FieldType}
theorem ct_of {y : MethodName} {rm : Room} {as : List Value} {r : Option Value} {V' : Mem} (hy : plainName y.cls = true) (hn : (lg_sl as).length ≤ nL)
    (h : ∀ (p : Program) (e : Env) (s : State) (m : MethodId) (args : Array Value) (below : List Frame) (meth : Method) (c : Code) (ls : Array Slot), BX p s m args meth c g L cc nL y.cls ret → OK g L V s s.heap [] → lv_has ls nL (lv_args 0 as) →
      W p l e rm s m args below meth c s.heap [] 0 0 (MQ below (QQ g L r V') args s 0 0 (Ar g L)) (F0 m 0 ls [])) : CT l g L y cc nL ret rm as V r V' := by
  refine Met.ofW (cc := cc) (maxL := nL) (ret := ret) hy rfl ?_
  intro p e s m args below meth c s₁ B hml hv
  obtain ⟨hargs, hP, hK, hJ, hZ, hN⟩ := hv
  subst hargs
  have hts := atoms_spec (ws := wy y cc nL ret) B.pre
  have hown : s.vm.findClass y.cls = some m.cls := findClass_of_methodNamed B.named
  have hl := lv_entry as (n := nL) hn
  rw [lg_entry_eq]
  exact h p e s m _ below meth c _ ⟨B.exec, B.bytes, hml, hown, fun w hw => hts w (List.mem_cons_of_mem _ hw), B.returns, B.notSynchronized, hK, hJ, hZ, hN⟩ ⟨hP, va_S.rf⟩ hl
theorem x_bind {α β : Type} {x : Option α} {f : α → Option β} {o : β} (h : x.bind f = some o) : ∃ a, x = some a ∧ f a = some o := by
  cases x with
  | none => cases h
  | some a => exact ⟨a, rfl, h⟩
theorem x_chk {α : Type} {b : Bool} {A : Option α} {o : α} (h : (if b = true then A else none) = some o) : b = true ∧ A = some o := by
  cases b with
  | false => cases h
  | true => exact ⟨rfl, h⟩
theorem x_ne0 {α β : Type} [DecidableEq β] {y z : β} {A : Option α} {o : α} (h : (if y = z then none else A) = some o) : ¬ y = z ∧ A = some o := by
  by_cases e : y = z
  · rw [if_pos e] at h; cases h
  · rw [if_neg e] at h; exact ⟨e, h⟩
theorem x_if {α : Type} {P : Prop} [Decidable P] {A : Option α} {o : α} (h : (if P then A else none) = some o) : P ∧ A = some o := by
  by_cases e : P
  · rw [if_pos e] at h; exact ⟨e, h⟩
  · rw [if_neg e] at h; cases h
theorem x_RG (hB : BX p s m args meth c g L cc nL own ret) (hz : OK g L V s H locs) {t : State} (ht : t.heap = H) (hW : s.WarmedH t.vm) : RG g L V t ∧ va_F (Ar g L) s t := by
  obtain ⟨hx, hb, hml, hown, hT, hr, hlk, hK, hJ, hZ, hN⟩ := hB
  refine ⟨⟨by rw [ht]; exact hz.1, va_K.moved hW.alike hK, hJ, ?_, hN.warm hW⟩, hz.2.F ht⟩
  rw [ht]
  exact (hZ.kept hz.2.2.1).moved hW.alike
theorem x_iret {o : Int32 × Mem} {v : Int32} (hB : BX p s m args meth c g L cc nL own (some .int)) (hz : OK g L V s H locs) (hE : some (v, V) = some o) (hd : decode cc pc = .ok (.ireturn, 1)) :
    W p l e R s m args below meth c H locs 0 0 (MQ below (QQ g L (some (.int o.1)) o.2) args s 0 0 (Ar g L)) (F0 m pc ls [.int v]) := by
  cases hE
  have hlocks : meth.locks = false := hB.2.2.2.2.2.2.1
  exact W.iret hB.1 hB.2.1 hB.2.2.2.2.2.1 (fun t ht hW => ⟨.inr (.inl ⟨_, rfl⟩), rfl, x_RG hB hz ht hW⟩) hz.2.2.2 hd
theorem x_zret {o : Int32 × Mem} {v : Int32} (hB : BX p s m args meth c g L cc nL own (some .boolean)) (hz : OK g L V s H locs) (hE : some (v, V) = some o) (hv : v &&& 1 = v) (hd : decode cc pc = .ok (.ireturn, 1)) :
    W p l e R s m args below meth c H locs 0 0 (MQ below (QQ g L (some (.int o.1)) o.2) args s 0 0 (Ar g L)) (F0 m pc ls [.int v]) := by
  cases hE
  have hlocks : meth.locks = false := hB.2.2.2.2.2.2.1
  exact W.zret hB.1 hB.2.1 hB.2.2.2.2.2.1 (show Value.int (v &&& 1) = .int v by rw [hv]) (fun t ht hW => ⟨.inr (.inl ⟨_, rfl⟩), rfl, x_RG hB hz ht hW⟩) hz.2.2.2 hd
theorem x_lret {o : Int64 × Mem} {v : Int64} (hB : BX p s m args meth c g L cc nL own (some .long)) (hz : OK g L V s H locs) (hE : some (v, V) = some o) (hd : decode cc pc = .ok (.lreturn, 1)) :
    W p l e R s m args below meth c H locs 0 0 (MQ below (QQ g L (some (.long o.1)) o.2) args s 0 0 (Ar g L)) (F0 m pc ls [.long v]) := by
  cases hE
  have hlocks : meth.locks = false := hB.2.2.2.2.2.2.1
  exact W.lret hB.1 hB.2.1 hB.2.2.2.2.2.1 (fun t ht hW => ⟨.inr (.inr (.inl ⟨_, rfl⟩)), rfl, x_RG hB hz ht hW⟩) hz.2.2.2 hd
theorem x_vret {o : Mem} (hB : BX p s m args meth c g L cc nL own none) (hz : OK g L V s H locs) (hE : some V = some o) (hd : decode cc pc = .ok (.return_, 1)) :
    W p l e R s m args below meth c H locs 0 0 (MQ below (QQ g L none o) args s 0 0 (Ar g L)) (F0 m pc ls []) := by
  cases hE
  have hlocks : meth.locks = false := hB.2.2.2.2.2.2.1
  exact W.vret hB.1 hB.2.1 hB.2.2.2.2.2.1 (fun t ht hW => ⟨.inl rfl, rfl, x_RG hB hz ht hW⟩) hz.2.2.2 hd
theorem x_aret {o : Nat × Mem} {i : Nat} {ty : FieldType} (hB : BX p s m args meth c g L cc nL own (some (.array ty))) (hz : OK g L V s H locs) (hE : some (i, V) = some o) (hd : decode cc pc = .ok (.areturn, 1)) :
    W p l e R s m args below meth c H locs 0 0 (MQ below (QQ g L (some (.ref (ad g o.1))) o.2) args s 0 0 (Ar g L)) (F0 m pc ls [.ref (ad g i)]) := by
  cases hE
  have hlocks : meth.locks = false := hB.2.2.2.2.2.2.1
  exact W.aret hB.1 hB.2.1 hB.2.2.2.2.2.1 (Or.inr ⟨_, rfl⟩) (Or.inr ⟨_, rfl⟩) (fun t ht hW => ⟨.inr (.inr (.inr ⟨_, rfl⟩)), rfl, x_RG hB hz ht hW⟩) hz.2.2.2 hd
/-- a field is read -/
theorem x_get {C : String} {T : u_T} {N ci i index : Nat} (hB : BX p s m args meth c g L cc nL own ret) (hz : OK g L V s H locs) (hk : KD L i ci) (hc : zcls[ci]? = some (C, T, N)) (hin : ∀ w ∈ u_ws C T N, w ∈ lw_g) {fs : List Value} (he : EK g ci i (V i) = .inr (ci, fs)) (k : Nat) (hkN : k < N)
    (hl : Cond.fieldLink own index (T k).1 (T k).2.1 (T k).2.2.1 ∈ lw_g) {v : Value} (hv : fs[k]? = some v) (hdg : decode cc pc = .ok (.getfield index, 3))
    (kk : W p l e R s m args below meth c H locs 0 0 Q (F0 m (pc + 3) ls (v :: rest))) : W p l e R s m args below meth c H locs 0 0 Q (F0 m pc ls (.ref (ad g i) :: rest)) := by
  obtain ⟨hx, hb, hml, hown, hT, hr, hlk, hK, hJ, hZ, hN⟩ := hB
  exact va_get (D := g.1) hx hb hT hin hown hK hz.1 i (by rw [zW_k hk, he]) hc k hkN (hT _ hl) (fun _ h9 => h9) hv hdg kk
/-- an int field is written -/
theorem x_put {C : String} {T : u_T} {N ci i index : Nat} (hB : BX p s m args meth c g L cc nL own ret) (hz : OK g L V s H locs) (hk : KD L i ci) (hc : zcls[ci]? = some (C, T, N)) (hin : ∀ w ∈ u_ws C T N, w ∈ lw_g) (ty0 : Nat → FieldType) (hty : ∀ k, k < N → parseFieldDescriptor (T k).2.2.1 = some (ty0 k)) (hnm : ∀ a, a < N → ∀ b, b < N → a ≠ b → (T a).2.1 ≠ (T b).2.1)
    {fs : List Value} (he : EK g ci i (V i) = .inr (ci, fs)) (k : Nat) (hkN : k < N) {x : Int32} (hs : EK g ci i (upd (V i) k x) = .inr (ci, fs.set k (.int x))) (hlen : k < fs.length)
    (hl : Cond.fieldLink own index (T k).1 (T k).2.1 (T k).2.2.1 ∈ lw_g) (hfin : (T k).2.2.2 = false) (hi : parseFieldDescriptor (T k).2.2.1 = some .int) (hdg : decode cc pc = .ok (.putfield index, 3))
    (kk : ∀ (H1 : Heap) (locs1 : List Loc), OK g L (st V i k x) s H1 locs1 → W p l e R s m args below meth c H1 locs1 0 0 Q (F0 m (pc + 3) ls rest)) : W p l e R s m args below meth c H locs 0 0 Q (F0 m pc ls (.int x :: .ref (ad g i) :: rest)) := by
  obtain ⟨hx, hb, hml, hown, hT, hr, hlk, hK, hJ, hZ, hN⟩ := hB
  refine va_put (D := g.1) (ty := .int) hx hb hT hin ty0 hty hnm hown hK hz.1 (zW_D hJ) hz.2 i (by rw [zW_k hk, he]) hc k hkN (hT _ hl) (fun _ h9 => h9) hfin hi rfl rfl hlen hdg (fun H1 locs1 hP hD hS => kk H1 locs1 ⟨?_, hS⟩)
  rw [← hs, zW_set hk] at hP
  exact hP
theorem x_iald {i n : Nat} {j : Int32} (hB : BX p s m args meth c g L cc nL own ret) (hz : OK g L V s H locs) (hk : KD L i (n + 16)) (hin : ib j n = true) (hdg : decode cc pc = .ok (.iaload, 1))
    (kk : W p l e R s m args below meth c H locs 0 0 Q (F0 m (pc + 1) ls (.int (V i j.toNatClampNeg) :: rest))) : W p l e R s m args below meth c H locs 0 0 Q (F0 m pc ls (.int j :: .ref (ad g i) :: rest)) := by
  obtain ⟨hx, hb, hml, hown, hT, hr, hlk, hK, hJ, hZ, hN⟩ := hB
  exact va_iald (D := g.1) hx hb hK hz.1 i 0 (zW_k hk) rfl (ib_in hin) hdg kk
theorem x_cald {i : Nat} {j : Int32} (hB : BX p s m args meth c g L cc nL own ret) (hz : OK g L V s H locs) (hk : KD L i 7) (hin : ib j 23 = true) (hdg : decode cc pc = .ok (.caload, 1))
    (kk : W p l e R s m args below meth c H locs 0 0 Q (F0 m (pc + 1) ls (.int (V i j.toNatClampNeg) :: rest))) : W p l e R s m args below meth c H locs 0 0 Q (F0 m pc ls (.int j :: .ref (ad g i) :: rest)) := by
  obtain ⟨hx, hb, hml, hown, hT, hr, hlk, hK, hJ, hZ, hN⟩ := hB
  exact va_cald (D := g.1) hx hb hK hz.1 i 1 (zW_k hk) rfl (ib_in hin) hdg kk
theorem x_zald {i : Nat} {j : Int32} (hB : BX p s m args meth c g L cc nL own ret) (hz : OK g L V s H locs) (hk : KD L i 8) (hin : ib j 2 = true) (hdg : decode cc pc = .ok (.baload, 1))
    (kk : W p l e R s m args below meth c H locs 0 0 Q (F0 m (pc + 1) ls (.int (V i j.toNatClampNeg) :: rest))) : W p l e R s m args below meth c H locs 0 0 Q (F0 m pc ls (.int j :: .ref (ad g i) :: rest)) := by
  obtain ⟨hx, hb, hml, hown, hT, hr, hlk, hK, hJ, hZ, hN⟩ := hB
  exact va_zald (D := g.1) hx hb hK hz.1 i 2 (zW_k hk) rfl (ib_in hin) hdg kk
theorem x_iast {i n : Nat} {j x : Int32} (hB : BX p s m args meth c g L cc nL own ret) (hz : OK g L V s H locs) (hk : KD L i (n + 16)) (hin : ib j n = true) (hdg : decode cc pc = .ok (.iastore, 1))
    (kk : ∀ (H1 : Heap) (locs1 : List Loc), OK g L (st V i j.toNatClampNeg x) s H1 locs1 → W p l e R s m args below meth c H1 locs1 0 0 Q (F0 m (pc + 1) ls rest)) : W p l e R s m args below meth c H locs 0 0 Q (F0 m pc ls (.int x :: .int j :: .ref (ad g i) :: rest)) := by
  obtain ⟨hx, hb, hml, hown, hT, hr, hlk, hK, hJ, hZ, hN⟩ := hB
  refine va_iast (D := g.1) hx hb hK hz.1 (zW_D hJ) hz.2 i 0 (zW_k hk) rfl (ib_in hin) hdg (fun H1 locs1 hP hD hS => kk H1 locs1 ⟨?_, hS⟩)
  have h2 := zW_set (g := g) (V := V) (f := upd (V i) j.toNatClampNeg x) hk
  exact h2 ▸ hP
theorem x_cast {i : Nat} {j x : Int32} (hB : BX p s m args meth c g L cc nL own ret) (hz : OK g L V s H locs) (hk : KD L i 7) (hin : ib j 23 = true) (hdg : decode cc pc = .ok (.castore, 1))
    (kk : ∀ (H1 : Heap) (locs1 : List Loc), OK g L (st V i j.toNatClampNeg (vp_nar .char x)) s H1 locs1 → W p l e R s m args below meth c H1 locs1 0 0 Q (F0 m (pc + 1) ls rest)) : W p l e R s m args below meth c H locs 0 0 Q (F0 m pc ls (.int x :: .int j :: .ref (ad g i) :: rest)) := by
  obtain ⟨hx, hb, hml, hown, hT, hr, hlk, hK, hJ, hZ, hN⟩ := hB
  refine va_cast (D := g.1) hx hb hK hz.1 (zW_D hJ) hz.2 i 1 (zW_k hk) rfl (ib_in hin) hdg (fun H1 locs1 hP hD hS => kk H1 locs1 ⟨?_, hS⟩)
  have h2 := zW_set (g := g) (V := V) (f := upd (V i) j.toNatClampNeg (vp_nar .char x)) hk
  exact h2 ▸ hP
theorem x_zast {i : Nat} {j x : Int32} (hB : BX p s m args meth c g L cc nL own ret) (hz : OK g L V s H locs) (hk : KD L i 8) (hin : ib j 2 = true) (hdg : decode cc pc = .ok (.bastore, 1))
    (kk : ∀ (H1 : Heap) (locs1 : List Loc), OK g L (st V i j.toNatClampNeg (vp_nar .boolean x)) s H1 locs1 → W p l e R s m args below meth c H1 locs1 0 0 Q (F0 m (pc + 1) ls rest)) : W p l e R s m args below meth c H locs 0 0 Q (F0 m pc ls (.int x :: .int j :: .ref (ad g i) :: rest)) := by
  obtain ⟨hx, hb, hml, hown, hT, hr, hlk, hK, hJ, hZ, hN⟩ := hB
  refine va_zast (D := g.1) hx hb hK hz.1 (zW_D hJ) hz.2 i 2 (zW_k hk) rfl (ib_in hin) hdg (fun H1 locs1 hP hD hS => kk H1 locs1 ⟨?_, hS⟩)
  have h2 := zW_set (g := g) (V := V) (f := upd (V i) j.toNatClampNeg (vp_nar .boolean x)) hk
  exact h2 ▸ hP
theorem x_alen {i n : Nat} (hB : BX p s m args meth c g L cc nL own ret) (hz : OK g L V s H locs) (hk : KD L i (n + 16)) {v : Int32} (hv : Int32.ofNat n = v) (hdg : decode cc pc = .ok (.arraylength, 1))
    (kk : W p l e R s m args below meth c H locs 0 0 Q (F0 m (pc + 1) ls (.int v :: rest))) : W p l e R s m args below meth c H locs 0 0 Q (F0 m pc ls (.ref (ad g i) :: rest)) := by
  obtain ⟨hx, hb, hml, hown, hT, hr, hlk, hK, hJ, hZ, hN⟩ := hB
  exact va_alen (D := g.1) hx hb hK hz.1 i 0 (cA := ac g 0) (x := (n, .inl (V i))) (zW_k hk) rfl hv hdg kk
theorem x_clen {i : Nat} (hB : BX p s m args meth c g L cc nL own ret) (hz : OK g L V s H locs) (hk : KD L i 7) (hdg : decode cc pc = .ok (.arraylength, 1))
    (kk : W p l e R s m args below meth c H locs 0 0 Q (F0 m (pc + 1) ls (.int 23 :: rest))) : W p l e R s m args below meth c H locs 0 0 Q (F0 m pc ls (.ref (ad g i) :: rest)) := by
  obtain ⟨hx, hb, hml, hown, hT, hr, hlk, hK, hJ, hZ, hN⟩ := hB
  exact va_alen (D := g.1) hx hb hK hz.1 i 1 (cA := ac g 1) (x := (23, .inl (V i))) (zW_k hk) rfl rfl hdg kk
theorem x_aalR {i : Nat} {j : Int32} (hB : BX p s m args meth c g L cc nL own ret) (hz : OK g L V s H locs) (hk : KD L i 11) (hin : ib j 8 = true) (hdg : decode cc pc = .ok (.aaload, 1))
    (kk : W p l e R s m args below meth c H locs 0 0 Q (F0 m (pc + 1) ls (.ref (ad g (99 + 2 * j.toNatClampNeg)) :: rest))) : W p l e R s m args below meth c H locs 0 0 Q (F0 m pc ls (.int j :: .ref (ad g i) :: rest)) := by
  obtain ⟨hx, hb, hml, hown, hT, hr, hlk, hK, hJ, hZ, hN⟩ := hB
  exact va_aldq (D := g.1) (f := fun j => some (ad g (99 + 2 * j))) hx hb hK hz.1 i 4 (zW_k hk) rfl (ib_in hin) hdg kk
theorem x_aalI {i : Nat} {j : Int32} (hB : BX p s m args meth c g L cc nL own ret) (hz : OK g L V s H locs) (hk : KD L i 12) (hin : ib j 2 = true) (hdg : decode cc pc = .ok (.aaload, 1))
    (kk : W p l e R s m args below meth c H locs 0 0 Q (F0 m (pc + 1) ls (.ref (ad g (115 + 31 * j.toNatClampNeg)) :: rest))) : W p l e R s m args below meth c H locs 0 0 Q (F0 m pc ls (.int j :: .ref (ad g i) :: rest)) := by
  obtain ⟨hx, hb, hml, hown, hT, hr, hlk, hK, hJ, hZ, hN⟩ := hB
  exact va_aldq (D := g.1) (f := fun j => some (ad g (115 + 31 * j))) hx hb hK hz.1 i 5 (zW_k hk) rfl (ib_in hin) hdg kk
theorem x_aalS {i : Nat} {j : Int32} (hB : BX p s m args meth c g L cc nL own ret) (hz : OK g L V s H locs) (hk : KD L i 13) (hin : ib j 24 = true) (hdg : decode cc pc = .ok (.aaload, 1))
    (kk : W p l e R s m args below meth c H locs 0 0 Q (F0 m (pc + 1) ls (.ref (ad g (177 + 2 * j.toNatClampNeg)) :: rest))) : W p l e R s m args below meth c H locs 0 0 Q (F0 m pc ls (.int j :: .ref (ad g i) :: rest)) := by
  obtain ⟨hx, hb, hml, hown, hT, hr, hlk, hK, hJ, hZ, hN⟩ := hB
  exact va_aldq (D := g.1) (f := fun j => some (ad g (177 + 2 * j))) hx hb hK hz.1 i 6 (zW_k hk) rfl (ib_in hin) hdg kk
theorem x_aalG {i a n : Nat} {f : Nat → Option Nat} {j : Int32} (hB : BX p s m args meth c g L cc nL own ret) (hz : OK g L V s H locs) (he : (zW g L V)[i]? = some (a, .inl (ac g 3, n, .inr (.inr (.inr (.inr f)))))) (hin : ib j n = true) (hdg : decode cc pc = .ok (.aaload, 1))
    (kk : W p l e R s m args below meth c H locs 0 0 Q (F0 m (pc + 1) ls (va_rf (f j.toNatClampNeg) :: rest))) : W p l e R s m args below meth c H locs 0 0 Q (F0 m pc ls (.int j :: .ref a :: rest)) := by
  obtain ⟨hx, hb, hml, hown, hT, hr, hlk, hK, hJ, hZ, hN⟩ := hB
  let row : Cell := vp_cell (ac g 3) (n, .inr (.inr (.inr (.inr f))))
  have len : row.slots.size = n := arrV_size (ac g 3) n _
  have isArr : s.isArrayOf row (.array .int) := (hK.2 3 (ac g 3, .array .int) rfl).1 n _
  have inside : ¬ (j < 0 ∨ row.slots.size ≤ j.toNatClampNeg) := len ▸ ib_in hin
  have holds : row.slots[j.toNatClampNeg]? = some (va_rf (f j.toNatClampNeg)) := arrV_read (ac g 3) _ (by omega)
  exact W.aald hx hb (hz.1 i _ he) isArr rfl nofun inside holds rfl rfl hdg kk
theorem x_aalC {i : Nat} {j : Int32} (hB : BX p s m args meth c g L cc nL own ret) (hz : OK g L V s H locs) (hk : KD L i 9) (hin : ib j 25 = true) (hdg : decode cc pc = .ok (.aaload, 1))
    (kk : W p l e R s m args below meth c H locs 0 0 Q (F0 m (pc + 1) ls (.ref (ad g (i + 1 + j.toNatClampNeg)) :: rest))) : W p l e R s m args below meth c H locs 0 0 Q (F0 m pc ls (.int j :: .ref (ad g i) :: rest)) := x_aalG (f := fun j => some (ad g (i + 1 + j))) hB hz (zW_k hk) hin hdg kk
theorem x_aalK {i : Nat} {j : Int32} (hB : BX p s m args meth c g L cc nL own ret) (hz : OK g L V s H locs) (hk : KD L i 10) (hin : ib j 24 = true) (hdg : decode cc pc = .ok (.aaload, 1))
    (kk : W p l e R s m args below meth c H locs 0 0 Q (F0 m (pc + 1) ls (.ref (ad g (i + 1 + j.toNatClampNeg)) :: rest))) : W p l e R s m args below meth c H locs 0 0 Q (F0 m pc ls (.int j :: .ref (ad g i) :: rest)) := x_aalG (f := fun j => some (ad g (i + 1 + j))) hB hz (zW_k hk) hin hdg kk
theorem x_copy {i0 i n0 n1 index : Nat} {sp dp n : Int32} (hB : BX p s m args meth c g L cc nL own ret) (hz : OK g L V s H locs) (hk0 : KD L i0 (n0 + 16)) (hk : KD L i (n1 + 16)) (hin : cok sp dp n n0 n1 = true) (hsz : ls.size = nL)
    (hl : Cond.methodLink own index arraycopyName ∈ lw_g) (hnat : Cond.native arraycopyName ∈ lw_g) (hstat : Cond.static arraycopyName ∈ lw_g) (hini : Cond.initialized "java/lang/System" ∈ lw_g)
    (hframes : 1 ≤ R.frames) (hlocals : (rest.map fun v => v.category).sum + (nativeFrameWords "java/lang/System" "arraycopy" 5 + 11) ≤ R.locals) (hdg : decode cc pc = .ok (.invokestatic index, 3))
    (kk : ∀ (H1 : Heap) (locs1 : List Loc), OK g L (cp V i0 i sp.toNatClampNeg dp.toNatClampNeg n.toNatClampNeg) s H1 locs1 → W p l e R s m args below meth c H1 locs1 0 0 Q (F0 m (pc + 3) ls rest)) : W p l e R s m args below meth c H locs 0 0 Q (F0 m pc ls (.int n :: .int dp :: .ref (ad g i) :: .int sp :: .ref (ad g i0) :: rest)) := by
  obtain ⟨hx, hb, hml, hown, hT, hr, hlk, hK, hJ, hZ, hN⟩ := hB
  simp only [cok, Bool.and_eq_true, Bool.not_eq_true', Bool.or_eq_false_iff, decide_eq_false_iff_not, decide_eq_true_eq] at hin
  obtain ⟨⟨⟨⟨h1, h2⟩, h3⟩, h4⟩, h5⟩ := hin
  refine va_copyi (D := g.1) (ty := .int) hx hb (hml.trans hsz.symm) hown (hT _ hl) (hT _ hnat) (hT _ hstat) (hT _ hini) hK hz.1 (zW_D hJ) hz.2 i0 i 0 0 (zW_k hk0) (zW_k hk) rfl rfl rfl h1 h2 h3 h4 h5 (fun _ _ => rfl) hframes hlocals hdg (fun H1 locs1 hP hD hS => kk H1 locs1 ⟨?_, hS⟩)
  have h9 := zW_set (g := g) (V := V) (f := va_cpy (V i0) (V i) sp.toNatClampNeg dp.toNatClampNeg n.toNatClampNeg) hk
  exact h9 ▸ hP
/-- a static table's address -/
theorem x_gst {k index : Nat} (hk : k < 7) (hB : BX p s m args meth c g L cc nL own ret) (hz : OK g L V s H locs) (hl : Cond.fieldLink own index "CountedLists" (tbn k).1 (tbn k).2.1 ∈ lw_g) (hdg : decode cc pc = .ok (.getstatic index, 3))
    (kk : W p l e R s m args below meth c H locs 0 0 Q (F0 m (pc + 3) ls (.ref (sa g k) :: rest))) : W p l e R s m args below meth c H locs 0 0 Q (F0 m pc ls rest) := by
  obtain ⟨hx, hb, hml, hown, hT, hr, hlk, hK, hJ, hZ, hN⟩ := hB
  exact va_gets hx hb (hZ k hk).1 hz.2 hown (hT _ hl) (fun _ h => h) hdg kk
theorem x_gstN {k index : Nat} (hk : k < 7) (hB : BX p s m args meth c g L cc nL own ret) (hz : OK g L V s H locs) (hq : (own, index, (tbn k).1) ∈ nsw) (hd : nsd (tbn k).1 = (tbn k).2.1) (hdg : decode cc pc = .ok (.getstatic index, 3))
    (kk : W p l e R s m args below meth c H locs 0 0 Q (F0 m (pc + 3) ls (.ref (sa g k) :: rest))) : W p l e R s m args below meth c H locs 0 0 Q (F0 m pc ls rest) := by
  obtain ⟨hx, hb, hml, hown, hT, hr, hlk, hK, hJ, hZ, hN⟩ := hB
  have hl := va_Nw.use (A := args) rfl (hN _ hq)
  simp only [nsc, hd] at hl
  exact va_getsN hx hb (hZ k hk).1 hz.2 hown hl (fun _ h => h) hdg kk
theorem x_sti {k : Nat} {j : Int32} (hk : k < 7) (ht : (tbn k).2.2 = .int) (hB : BX p s m args meth c g L cc nL own ret) (hz : OK g L V s H locs) (hin : ib j (tbl k).length = true) (hdg : decode cc pc = .ok (.iaload, 1))
    (kk : W p l e R s m args below meth c H locs 0 0 Q (F0 m (pc + 1) ls (.int (tba k j.toNatClampNeg) :: rest))) : W p l e R s m args below meth c H locs 0 0 Q (F0 m pc ls (.int j :: .ref (sa g k) :: rest)) := by
  obtain ⟨hx, hb, hml, hown, hT, hr, hlk, hK, hJ, hZ, hN⟩ := hB
  exact va_ti hx hb (ht ▸ (hZ k hk).2) hz.2 (ib_in hin) rfl hdg kk
theorem x_stc {k : Nat} {j : Int32} (hk : k < 7) (ht : (tbn k).2.2 = .char) (hB : BX p s m args meth c g L cc nL own ret) (hz : OK g L V s H locs) (hin : ib j (tbl k).length = true) (hdg : decode cc pc = .ok (.caload, 1))
    (kk : W p l e R s m args below meth c H locs 0 0 Q (F0 m (pc + 1) ls (.int (tba k j.toNatClampNeg) :: rest))) : W p l e R s m args below meth c H locs 0 0 Q (F0 m pc ls (.int j :: .ref (sa g k) :: rest)) := by
  obtain ⟨hx, hb, hml, hown, hT, hr, hlk, hK, hJ, hZ, hN⟩ := hB
  exact va_tc hx hb (ht ▸ (hZ k hk).2) hz.2 (ib_in hin) rfl hdg kk
theorem x_slen {k : Nat} {v : Int32} (hk : k < 7) (hv : Int32.ofNat (tbl k).length = v) (hB : BX p s m args meth c g L cc nL own ret) (hz : OK g L V s H locs) (hdg : decode cc pc = .ok (.arraylength, 1))
    (kk : W p l e R s m args below meth c H locs 0 0 Q (F0 m (pc + 1) ls (.int v :: rest))) : W p l e R s m args below meth c H locs 0 0 Q (F0 m pc ls (.ref (sa g k) :: rest)) := by
  obtain ⟨hx, hb, hml, hown, hT, hr, hlk, hK, hJ, hZ, hN⟩ := hB
  obtain ⟨cell, h1, h2, h3, h4, h5, h6, h7⟩ := (hZ k hk).2
  exact W.alen hx hb (by rw [hz.2.2.1 _ (Array.getElem?_eq_some_iff.mp h1).1 h7]; exact h1) h2 (h5.trans hv) rfl rfl hdg kk
/-- a run's answer, told weaker -/
theorem run_le {cells slots mc ms : Nat} {f : JFrame} {P P' : State → Outcome → State → Prop} {free : Addr → Prop} (hr : va_Run p l e R s m args below meth c H locs cells slots mc ms f rest P free) (h : ∀ a o b, P a o b → P' a o b) : va_Run p l e R s m args below meth c H locs cells slots mc ms f rest P' free := by
  intro U hU Y
  refine (hr U hU Y).imp fun v => Exists.imp fun a => Exists.imp fun b => Exists.imp fun U' => Exists.imp fun M w => ?_
  exact ⟨w.1, w.2.1, w.2.2.1, w.2.2.2.1, w.2.2.2.2.1, h _ _ _ w.2.2.2.2.2.1, w.2.2.2.2.2.2⟩
/-- behind a call: the kit's rule for each sort of answer -/
theorem x_back {cells slots : Nat} {as : Array Value} {r : Option Value} {V1 : Mem} {st0 : List Value} {A : Nat → Prop} {H0 : Heap} (hr : va_Run p l e R s m args below meth c H locs cells slots 0 0 (F0 m pc ls st0) rest (QQ g L r V1 as) (Ar g L)) (hS : va_S A H0 H locs) (hA : ∀ q, Ar g L q → A q)
    (kk : ∀ (H1 : Heap) (locs1 : List Loc), va_P g.1 zcls (zW g L V1) H1 → (∀ q, q < H.size → ¬ Ar g L q → H1[q]? = H[q]?) → va_S A H0 H1 locs1 → W p l e R s m args below meth c H1 locs1 cells slots Q (F0 m (pc + 3) ls (r.toList ++ rest))) : W p l e R s m args below meth c H locs cells slots Q (F0 m pc ls st0) := by
  intro U hU Y
  have hk : AK r := (hr U hU Y).elim fun _ ⟨_, _, _, _, _, _, _, _, _, q, _⟩ => q.1
  refine (show W p l e R s m args below meth c H locs cells slots Q (F0 m pc ls st0) from ?_) U hU Y
  rcases hk with h | ⟨v, h⟩ | ⟨v, h⟩ | ⟨a, h⟩ <;> subst h
  · exact va_callv (S := Unit) (post := fun _ => True) (B := fun _ t => RG g L V1 t) (A1 := Ar g L) (a := as) (run_le hr fun _ _ _ q => ⟨⟨(), q.2.1, trivial, q.2.2.1⟩, q.2.2.2⟩) hS (fun q _ => hA q) hA (fun _ _ H1 locs1 ht _ _ hG _ hq hS1 => kk H1 locs1 (ht ▸ hG.1) hq hS1)
  · exact va_calli (S := Unit) (post := fun x _ => x = v) (B := fun _ t => RG g L V1 t) (A1 := Ar g L) (a := as) (run_le hr fun _ _ _ q => ⟨⟨v, (), q.2.1, rfl, q.2.2.1⟩, q.2.2.2⟩) hS (fun q _ => hA q) hA (fun x _ _ H1 locs1 ht _ hx hG _ hq hS1 => hx ▸ kk H1 locs1 (ht ▸ hG.1) hq hS1)
  · exact va_calll (S := Unit) (post := fun x _ => x = v) (B := fun _ t => RG g L V1 t) (A1 := Ar g L) (a := as) (run_le hr fun _ _ _ q => ⟨⟨v, (), q.2.1, rfl, q.2.2.1⟩, q.2.2.2⟩) hS (fun q _ => hA q) hA (fun x _ _ H1 locs1 ht _ hx hG _ hq hS1 => hx ▸ kk H1 locs1 (ht ▸ hG.1) hq hS1)
  · exact va_callr (S := Unit) (post := fun _ => True) (B := fun _ x t => x = a ∧ RG g L V1 t) (A1 := Ar g L) (a := as) (run_le hr fun _ _ _ q => ⟨⟨(), a, q.2.1, trivial, rfl, q.2.2.1⟩, q.2.2.2⟩) hS (fun q _ => hA q) hA (fun _ x _ H1 locs1 ht _ _ hG _ hq hS1 => hG.1 ▸ kk H1 locs1 (ht ▸ hG.2.1) hq hS1)
theorem x_run {y : MethodName} {c1 : ByteArray} {n1 : Nat} {r1 : Option FieldType} {rm : Room} {as : List Value} {r : Option Value} {V1 : Mem} {st0 : List Value} (hz : OK g L V s H locs)
    (hr : va_Run p l e R s m args below meth c H locs 0 0 0 0 (F0 m pc ls st0) rest (QQ g L r V1 as.toArray) (Ar g L))
    (kk : ∀ (H1 : Heap) (locs1 : List Loc), OK g L V1 s H1 locs1 → W p l e R s m args below meth c H1 locs1 0 0 Q (F0 m (pc + 3) ls (r.toList ++ rest))) : W p l e R s m args below meth c H locs 0 0 Q (F0 m pc ls st0) :=
  x_back hr hz.2 (fun _ h => h) fun H1 locs1 hP _ hS => kk H1 locs1 ⟨hP, hS⟩
theorem x_pre (hB : BX p s m args meth c g L cc nL own ret) (hz : OK g L V s H locs) {as : List Value} (U : State) (hU : U.heap = H) (hW : s.WarmedH U.vm) : va_Pc as (RG g L V) as.toArray U := ⟨rfl, (x_RG hB hz hU hW).1⟩
theorem x_cv {y : MethodName} {c1 : ByteArray} {n1 n index i ci N : Nat} {r1 : Option FieldType} {rm : Room} {As : List Value} {r : Option Value} {V1 : Mem} {T : u_T} {fs : List Value} (hB : BX p s m args meth c g L cc nL own ret) (hz : OK g L V s H locs)
    (hM : CT l g L y c1 n1 r1 rm (.ref (ad g i) :: As) V r V1) (hk : KD L i ci) (hci : zcls[ci]? = some (y.cls, T, N)) (he : EK g ci i (V i) = .inr (ci, fs)) (hrc : rm.cells = 0) (hrs : rm.slots = 0)
    (w1 : Cond.code y c1 n1 r1 ∈ lw_g) (w2 : Cond.initialized y.cls ∈ lw_g) (w3 : Cond.methodLink own index y ∈ lw_g) (w4 : Cond.instanceMethod y ∈ lw_g) (w5 : Cond.selects y.cls y y ∈ lw_g)
    (hd : y.cls ≠ "java/lang/invoke/MethodHandle" ∧ y.cls ≠ "java/lang/invoke/VarHandle" ∧ (parseMethodDescriptor y.desc).map (fun d => d.parameters.length) = some n) (hn : As.length = n)
    (hR : rm.frames + 1 ≤ R.frames ∧ 8 + (n1 + 11) + rm.locals ≤ R.locals) (hsz : ls.size = nL) (hrest : (rest.map fun v => v.category).sum ≤ 8) (hdg : decode cc pc = .ok (.invokevirtual index, 3))
    (kk : ∀ (H1 : Heap) (locs1 : List Loc), OK g L V1 s H1 locs1 → W p l e R s m args below meth c H1 locs1 0 0 Q (F0 m (pc + 3) ls (r.toList ++ rest))) : W p l e R s m args below meth c H locs 0 0 Q (F0 m pc ls (As.reverse ++ .ref (ad g i) :: rest)) := by
  obtain ⟨hx, hb, hml, hown, hT, hr, hlk, hK, hJ, hZ, hN⟩ := id hB
  have hrec := va_recv (q := (y.cls, T, N)) hK hz.1 hci (q0 := i) (by rw [zW_k hk, he])
  exact x_run (y := y) (c1 := c1) (n1 := n1) (r1 := r1) (rm := rm) hz (va_runV (C := y.cls) ⟨hx, hb, hml, hown, hT⟩ hM ⟨callB_of n hT (gi_wy w1) rfl hrc hrs (hT _ w2) (hT _ w3) hd hR, hT _ w4, hT _ w5⟩ ⟨fun a U f mk q => ⟨q.1, q.2.calling⟩, hrec, fun U hU hW => x_pre hB hz U hU hW⟩ rfl hn hsz rfl (lv_room hrest) hdg ⟨Nat.zero_le _, Nat.zero_le _⟩) kk
theorem x_cs {y : MethodName} {c1 : ByteArray} {n1 n index : Nat} {r1 : Option FieldType} {rm : Room} {As : List Value} {r : Option Value} {V1 : Mem} (hB : BX p s m args meth c g L cc nL own ret) (hz : OK g L V s H locs)
    (hM : CT l g L y c1 n1 r1 rm As V r V1) (hrc : rm.cells = 0) (hrs : rm.slots = 0)
    (w1 : Cond.code y c1 n1 r1 ∈ lw_g) (w2 : Cond.initialized y.cls ∈ lw_g) (w3 : Cond.methodLink own index y ∈ lw_g) (w4 : Cond.static y ∈ lw_g)
    (hd : y.cls ≠ "java/lang/invoke/MethodHandle" ∧ y.cls ≠ "java/lang/invoke/VarHandle" ∧ (parseMethodDescriptor y.desc).map (fun d => d.parameters.length) = some n) (hn : As.length = n)
    (hR : rm.frames + 1 ≤ R.frames ∧ 8 + (n1 + 11) + rm.locals ≤ R.locals) (hsz : ls.size = nL) (hrest : (rest.map fun v => v.category).sum ≤ 8) (hdg : decode cc pc = .ok (.invokestatic index, 3))
    (kk : ∀ (H1 : Heap) (locs1 : List Loc), OK g L V1 s H1 locs1 → W p l e R s m args below meth c H1 locs1 0 0 Q (F0 m (pc + 3) ls (r.toList ++ rest))) : W p l e R s m args below meth c H locs 0 0 Q (F0 m pc ls (As.reverse ++ rest)) := by
  obtain ⟨hx, hb, hml, hown, hT, hr, hlk, hK, hJ, hZ, hN⟩ := id hB
  exact x_run (y := y) (c1 := c1) (n1 := n1) (r1 := r1) (rm := rm) hz (va_runS ⟨hx, hb, hml, hown, hT⟩ hM ⟨callB_of n hT (gi_wy w1) rfl hrc hrs (hT _ w2) (hT _ w3) hd hR, hT _ w4⟩ ⟨fun a U f mk q => ⟨q.1, q.2.calling⟩, fun U hU hW => x_pre hB hz U hU hW⟩ rfl hn hsz rfl (lv_room hrest) hdg ⟨Nat.zero_le _, Nat.zero_le _⟩) kk
end BASE

/-! THE CLAIM OUT OF ONE WALK OF THE LAW'S BODY. Your part is whole_start (and what it stands on); all else here is the same for every law, but numbers. -/
def R_law : String := "CountedListsLaw"
def lw_P (b : Addr) (xs : List Int32) (args : Array Value) (s : State) : Prop := args = #[.ref b] ∧ s.IntsAt b xs ∧ xs.length ≤ 3072 ∧ (Jvm.Cond.and given_1 narrow_1).before args s = true
def lw_Q (_ : Array Value) (s : State) (o : Outcome) (t : State) : Prop := o = .returned (some (.int 1)) ∧ Framed s o t [] 600000 7302250
def lw_Z (below : List Frame) (a : Array Value) (s : State) : State → Prop := fun t => ∃ o, t.status = .running ∧ Ended t below o ∧ lw_Q a s o t
/-- the law's own end, with 1 on the stack, nothing written that was there before, its room as the claim has it -/
theorem lw_ret {p : Program} {l : Launch} {e : Env} {s : State} {m : MethodId} {below : List Frame} {meth : Method} {c : Code} {b : Nat} (hx : p.tables.exec = Jvm.exec) (hb : c.code = code) (hr : meth.sig.returnType = ret) (hlocks : meth.locks = false) {pc : Nat} {H : Heap} {ls : Array Slot} (hdg : decode code pc = .ok (.ireturn, 1)) : W p l e room_1 s m #[Value.ref b] below meth c H [] 600000 7302250 (lw_Z below #[Value.ref b] s) (F0 m pc ls [.int 1]) := by
  intro T hT X
  obtain ⟨fs, hret, hrun, hended, hW, hframe⟩ := X.leave (v := some (.int 1)) (hlocks := hlocks) (fun h => by rw [hr] at h; cases h)
  have hmeth' : T.vm.method? m = some meth := X.method'
  refine ⟨T.setFrames fs, ?_, .returned (some (.int 1)), hrun, hended, rfl, ⟨_, rfl⟩, hW, hframe⟩
  jvm_step X.here [X.here.top, hx, hb, hdg, hmeth', hr, ret, narrow_b1]
  (try refine ⟨rfl, ?_⟩); (try refine ⟨rfl, ?_⟩)
  first | (intro acts; rw [hret _ acts rfl rfl rfl]) | rw [hret _ _ rfl rfl rfl]
  exact Steps.refl _
/-- what holds at the law's entry: the machine, the code, the tables' words (any of lw_tbl by 'hts w (by decide +kernel)'), the script of L ints xs at the cell b, what the Statement gives of the start (any of its parts by flat_of_before) -/
def lw_At (p : Program) (s : State) (m : MethodId) (meth : Method) (c : Code) (b L : Nat) (xs : Nat → Int32) : Prop :=
  p.tables.exec = Jvm.exec ∧ c.code = code ∧ meth.sig.returnType = ret ∧ c.maxLocals = 4 ∧ s.vm.findClass R_law = some m.cls ∧ (∀ w ∈ lw_tbl, w.before #[Value.ref b] s = true) ∧ va_X b L xs s s.heap ∧ b < s.heap.size ∧ meth.locks = false ∧ (Jvm.Cond.and given_1 narrow_1).before #[Value.ref b] s = true
/-! The law's own walk: two worlds, the class's and the reference's. -/
def AL (s : State) : Nat → Prop := fun q => s.heap.size ≤ q
def LB (p : Program) (s : State) (m : MethodId) (args : Array Value) (c : Code) (gX gM : GP) (b L : Nat) (xs : Nat → Int32) : Prop :=
  p.tables.exec = Jvm.exec ∧ c.code = code ∧ c.maxLocals = 4 ∧ s.vm.findClass RL = some m.cls ∧ (∀ w ∈ lw_g, w.before args s = true) ∧ (va_K gX.1 zcls (ztys (ac gX)) s ∧ IJ gX LX ∧ ZS gX (AL s) s s.heap ∧ ∀ i, i < 225 → s.heap.size ≤ ad gX i) ∧ (va_K gM.1 zcls (ztys (ac gM)) s ∧ IJ gM LM ∧ ZS gM (AL s) s s.heap ∧ ∀ i, i < 17 → s.heap.size ≤ ad gM i) ∧ NW s ∧ (∀ i j, i < 225 → j < 17 → ad gX i ≠ ad gM j) ∧ va_X b L xs s s.heap ∧ b < s.heap.size
def LK (gX gM : GP) (V U : Mem) (s : State) (H : Heap) (locs : List Loc) : Prop := va_P gX.1 zcls (zW gX LX V) H ∧ va_P gM.1 zcls (zW gM LM U) H ∧ va_S (AL s) s.heap H locs
theorem ZS.narrow {g : GP} {A B : Nat → Prop} {U : State} {H : Heap} (h : ZS g A U H) (hAB : ∀ q, B q → A q) : ZS g B U H := fun k hk => ⟨(h k hk).1.narrow hAB, (h k hk).2.narrow hAB⟩
theorem zW_ad {g : GP} {L : LY} {V : Mem} {k : Nat} {q : Nat × va_E} (h : (zW g L V)[k]? = some q) : k < L.2 ∧ q.1 = ad g k := by
  have hi : k < L.2 := by
    have := (List.getElem?_eq_some_iff.mp h).1
    simpa [zW] using this
  refine ⟨hi, ?_⟩
  have h2 : (zW g L V)[k]? = some (ad g k, EK g (L.1 k) k (V k)) := zW_k ⟨hi, rfl⟩
  rw [h2] at h
  cases h
  rfl
section LAWB
variable {p : Program} {l : Launch} {e : Env} {R : Room} {s : State} {m : MethodId} {args : Array Value} {below : List Frame} {meth : Method} {c : Code} {H : Heap} {locs : List Loc} {Q : State → Prop} {cells slots : Nat}
variable {cc : ByteArray} {pc : Nat} {ls : Array Slot} {rest : List Value} {g : GP} {L : LY} {V : Mem} {nL : Nat} {own : String}
theorem y_cv {y : MethodName} {c1 : ByteArray} {n1 n index i ci N : Nat} {r1 : Option FieldType} {rm : Room} {As : List Value} {r : Option Value} {V1 : Mem} {T : u_T} {fs : List Value} (hx : p.tables.exec = Jvm.exec) (hb : c.code = cc) (hml : c.maxLocals = nL) (hown : s.vm.findClass own = some m.cls) (hT : ∀ w ∈ lw_g, w.before args s = true)
    (hG : va_K g.1 zcls (ztys (ac g)) s ∧ IJ g L ∧ ZS g (AL s) s s.heap ∧ ∀ i, i < L.2 → s.heap.size ≤ ad g i) (hN : NW s) (hP : va_P g.1 zcls (zW g L V) H) (hS : va_S (AL s) s.heap H locs)
    (hM : CT l g L y c1 n1 r1 rm (.ref (ad g i) :: As) V r V1) (hk : KD L i ci) (hci : zcls[ci]? = some (y.cls, T, N)) (he : EK g ci i (V i) = .inr (ci, fs)) (hrc : rm.cells = 0) (hrs : rm.slots = 0)
    (w1 : Cond.code y c1 n1 r1 ∈ lw_g) (w2 : Cond.initialized y.cls ∈ lw_g) (w3 : Cond.methodLink own index y ∈ lw_g) (w4 : Cond.instanceMethod y ∈ lw_g) (w5 : Cond.selects y.cls y y ∈ lw_g)
    (hd : y.cls ≠ "java/lang/invoke/MethodHandle" ∧ y.cls ≠ "java/lang/invoke/VarHandle" ∧ (parseMethodDescriptor y.desc).map (fun d => d.parameters.length) = some n) (hn : As.length = n)
    (hR : rm.frames + 1 ≤ R.frames ∧ 8 + (n1 + 11) + rm.locals ≤ R.locals) (hcs : cells ≤ R.cells ∧ slots ≤ R.slots) (hsz : ls.size = nL) (hrest : (rest.map fun v => v.category).sum ≤ 8) (hdg : decode cc pc = .ok (.invokevirtual index, 3))
    (kk : ∀ (H1 : Heap) (locs1 : List Loc), va_P g.1 zcls (zW g L V1) H1 → (∀ q, q < H.size → ¬ Ar g L q → H1[q]? = H[q]?) → va_S (AL s) s.heap H1 locs1 → W p l e R s m args below meth c H1 locs1 cells slots Q (F0 m (pc + 3) ls (r.toList ++ rest))) : W p l e R s m args below meth c H locs cells slots Q (F0 m pc ls (As.reverse ++ .ref (ad g i) :: rest)) := by
  obtain ⟨hK, hJ, hZ, hA⟩ := hG
  have hAr : ∀ q, Ar g L q → AL s q := fun q h => by
    obtain ⟨j, h1, h2⟩ := h
    rw [h2]
    exact hA j h1
  have hrec := va_recv (q := (y.cls, T, N)) hK hP hci (q0 := i) (by rw [zW_k hk, he])
  have hpre : ∀ U : State, U.heap = H → s.WarmedH U.vm → va_Pc (.ref (ad g i) :: As) (RG g L V) (Value.ref (ad g i) :: As).toArray U := fun U hU hW => by
    refine ⟨rfl, by rw [hU]; exact hP, va_K.moved hW.alike hK, hJ, ?_, hN.warm hW⟩
    rw [hU]
    exact ((hZ.narrow hAr).kept (fun a h1 _ => hS.2.1 a h1 (Nat.not_le.mpr h1))).moved hW.alike
  have hr := va_runV (C := y.cls) (R := R) (below := below) (meth := meth) (e := e) (locs := locs) (cells := cells) (slots := slots) (g := F0 m pc ls (As.reverse ++ .ref (ad g i) :: rest)) (rest := rest) ⟨hx, hb, hml, hown, hT⟩ hM ⟨callB_of n hT (gi_wy w1) rfl hrc hrs (hT _ w2) (hT _ w3) hd hR, hT _ w4, hT _ w5⟩ ⟨fun a U f mk q => ⟨q.1, q.2.calling⟩, hrec, hpre⟩ rfl hn hsz rfl (lv_room hrest) hdg hcs
  exact x_back hr hS hAr kk
theorem lk_x {gX gM : GP} {V U V1 : Mem} {H1 : Heap} {locs1 : List Loc} {b L : Nat} {xs : Nat → Int32} (hB : LB p s m args c gX gM b L xs) (hz : LK gX gM V U s H locs) (h1 : va_P gX.1 zcls (zW gX LX V1) H1) (h2 : ∀ q, q < H.size → ¬ Ar gX LX q → H1[q]? = H[q]?) (h3 : va_S (AL s) s.heap H1 locs1) : LK gX gM V1 U s H1 locs1 := by
  refine ⟨h1, hz.2.1.kept (fun k q hq => h2 _ ((hz.2.1 k q hq).lt) ?_), h3⟩
  obtain ⟨g1, g2⟩ := zW_ad hq
  rintro ⟨j, j1, j2⟩
  exact hB.2.2.2.2.2.2.2.2.1 j k j1 g1 (by rw [← j2, ← g2])
theorem lk_m {gX gM : GP} {V U U1 : Mem} {H1 : Heap} {locs1 : List Loc} {b L : Nat} {xs : Nat → Int32} (hB : LB p s m args c gX gM b L xs) (hz : LK gX gM V U s H locs) (h1 : va_P gM.1 zcls (zW gM LM U1) H1) (h2 : ∀ q, q < H.size → ¬ Ar gM LM q → H1[q]? = H[q]?) (h3 : va_S (AL s) s.heap H1 locs1) : LK gX gM V U1 s H1 locs1 := by
  refine ⟨hz.1.kept (fun k q hq => h2 _ ((hz.1 k q hq).lt) ?_), h1, h3⟩
  obtain ⟨g1, g2⟩ := zW_ad hq
  rintro ⟨j, j1, j2⟩
  exact hB.2.2.2.2.2.2.2.2.1 k j g1 j1 (by rw [← j2, ← g2])
theorem law_in {L i : Nat} (h : ¬ (Int32.ofNat L - 6 < nI i)) (hL : L ≤ 3072) (hi : i ≤ L) : i + 6 ≤ L := by
  have e1 : (Int32.ofNat L - 6).toInt = (L : Int) - 6 := pk_sub_toInt (a := L) (b := 6) (by omega) (by decide)
  have e2 : (nI i).toInt = (i : Int) := nI_toInt (by omega)
  rw [Int32.lt_iff_toInt_lt, e1, e2] at h
  omega
theorem law_ix {L i : Nat} (k : Nat) (hk : k < 6) (h : i + 6 ≤ L) (hL : L ≤ 3072) : vp_in (nI i + nI k) L := by
  rw [nI_add]
  exact vp_in_nI (by omega) (by omega)
end LAWB
set_option maxHeartbeats 4000000 in
set_option maxRecDepth 100000 in
theorem lc_row {p : Program} {l : Launch} {e : Env} {s : State} {m : MethodId} {args : Array Value} {below : List Frame} {meth : Method} {c : Code} {H : Heap} {locs : List Loc} {Q : State → Prop} {cells slots : Nat} {ls : Array Slot} {gX gM : GP} {b L : Nat} {xs : Nat → Int32} {I : Mem → Mem → Prop} (hS : S_row I) (hB : LB p s m args c gX gM b L xs) (hcs : cells ≤ room_1.cells ∧ slots ≤ room_1.slots) {i3 : Int32} (hi : vp_in (i3 + 1) L ∧ vp_in (i3 + 2) L ∧ vp_in (i3 + 3) L ∧ vp_in (i3 + 4) L ∧ vp_in (i3 + 5) L) {V U : Mem} (hVU : I V U) (hz : LK gX gM V U s H locs) (hl : lv_has ls 4 [(0, .ref b), (1, .ref (ad gX 0)), (2, .ref (ad gM 0)), (3, .int i3)])
    (kk : ∀ (V U : Mem) (H : Heap) (locs : List Loc), I V U → LK gX gM V U s H locs → W p l e room_1 s m args below meth c H locs cells slots Q (F0 m 1307 ls [])) : W p l e room_1 s m args below meth c H locs cells slots Q (F0 m 184 ls []) := by
  obtain ⟨hx, hb, hml, hown, hT, hGX, hGM, hN, hdj, hX, hbl⟩ := id hB
  obtain ⟨h1, h2, h3, h4, h5⟩ := hi
  obtain ⟨q, r, hq, hr, he, hI2⟩ := hS (xs (i3 + (1 : Int32)).toNatClampNeg) (xs (i3 + (2 : Int32)).toNatClampNeg) (xs (i3 + (3 : Int32)).toNatClampNeg) V U hVU
  refine lv_aload_n hx hb dL_law_184 rfl (lv_at hl 1 rfl) ?_
  refine lv_aload_n hx hb dL_law_185 rfl (lv_at hl 0 rfl) ?_
  refine lv_iload_n hx hb dL_law_186 rfl (lv_at hl 3 rfl) ?_
  refine lv_iconst (v := (1 : Int32)) hx hb dL_law_187 (by decide) ?_
  refine lv_iadd hx hb dL_law_188 ?_
  refine va_sld (A := AL s) hx hb hX hbl (Nat.not_le.mpr hbl) hz.2.2 h1 dL_law_189 ?_
  refine lv_aload_n hx hb dL_law_190 rfl (lv_at hl 0 rfl) ?_
  refine lv_iload_n hx hb dL_law_191 rfl (lv_at hl 3 rfl) ?_
  refine lv_iconst (v := (2 : Int32)) hx hb dL_law_192 (by decide) ?_
  refine lv_iadd hx hb dL_law_193 ?_
  refine va_sld (A := AL s) hx hb hX hbl (Nat.not_le.mpr hbl) hz.2.2 h2 dL_law_194 ?_
  refine lv_aload_n hx hb dL_law_195 rfl (lv_at hl 0 rfl) ?_
  refine lv_iload_n hx hb dL_law_196 rfl (lv_at hl 3 rfl) ?_
  refine lv_iconst (v := (3 : Int32)) hx hb dL_law_197 (by decide) ?_
  refine lv_iadd hx hb dL_law_198 ?_
  refine va_sld (A := AL s) hx hb hX hbl (Nat.not_le.mpr hbl) hz.2.2 h3 dL_law_199 ?_
  refine y_cv (g := gX) (L := LX) (As := [.int (xs (i3 + (1 : Int32)).toNatClampNeg), .int (xs (i3 + (2 : Int32)).toNatClampNeg), .int (xs (i3 + (3 : Int32)).toNatClampNeg)]) (n := 3) (T := TX6) (N := 14) (rest := []) hx hb hml hown hT hGX hN hz.1 hz.2.2 (c_X6_row l gX hq) kdX_0 rfl rfl rfl rfl kw_257 kw_62 kw_254 kw_255 kw_256 (by decide +kernel) rfl ⟨(Nat.le_of_ble_eq_true rfl), (Nat.le_of_ble_eq_true rfl)⟩ hcs hl.1 (Nat.le_of_ble_eq_true rfl) dL_law_200 (fun H1 locs1 z1 z2 z3 => ?_)
  have hz := lk_x hB hz z1 z2 z3
  refine lv_aload_n hx hb dL_law_203 rfl (lv_at hl 2 rfl) ?_
  refine lv_aload_n hx hb dL_law_204 rfl (lv_at hl 0 rfl) ?_
  refine lv_iload_n hx hb dL_law_205 rfl (lv_at hl 3 rfl) ?_
  refine lv_iconst (v := (1 : Int32)) hx hb dL_law_206 (by decide) ?_
  refine lv_iadd hx hb dL_law_207 ?_
  refine va_sld (A := AL s) hx hb hX hbl (Nat.not_le.mpr hbl) hz.2.2 h1 dL_law_208 ?_
  refine lv_aload_n hx hb dL_law_209 rfl (lv_at hl 0 rfl) ?_
  refine lv_iload_n hx hb dL_law_210 rfl (lv_at hl 3 rfl) ?_
  refine lv_iconst (v := (2 : Int32)) hx hb dL_law_211 (by decide) ?_
  refine lv_iadd hx hb dL_law_212 ?_
  refine va_sld (A := AL s) hx hb hX hbl (Nat.not_le.mpr hbl) hz.2.2 h2 dL_law_213 ?_
  refine lv_aload_n hx hb dL_law_214 rfl (lv_at hl 0 rfl) ?_
  refine lv_iload_n hx hb dL_law_215 rfl (lv_at hl 3 rfl) ?_
  refine lv_iconst (v := (3 : Int32)) hx hb dL_law_216 (by decide) ?_
  refine lv_iadd hx hb dL_law_217 ?_
  refine va_sld (A := AL s) hx hb hX hbl (Nat.not_le.mpr hbl) hz.2.2 h3 dL_law_218 ?_
  refine y_cv (g := gM) (L := LM) (As := [.int (xs (i3 + (1 : Int32)).toNatClampNeg), .int (xs (i3 + (2 : Int32)).toNatClampNeg), .int (xs (i3 + (3 : Int32)).toNatClampNeg)]) (n := 3) (T := TX7) (N := 30) (rest := [.int q.1]) hx hb hml hown hT hGM hN hz.2.1 hz.2.2 (c_X7_row l gM hr) kdM_0 rfl rfl rfl rfl kw_817 kw_68 kw_814 kw_815 kw_816 (by decide +kernel) rfl ⟨(Nat.le_of_ble_eq_true rfl), (Nat.le_of_ble_eq_true rfl)⟩ hcs hl.1 (Nat.le_of_ble_eq_true rfl) dL_law_219 (fun H1 locs1 z1 z2 z3 => ?_)
  have hz := lk_m hB hz z1 z2 z3
  refine lv_icmp_eq (tgt := 1307) hx hb dL_law_222 (by decide) (fun c9 => ?_) (fun c9 => absurd he c9)
  exact kk q.2 r.2 _ _ hI2 hz
set_option maxHeartbeats 4000000 in
set_option maxRecDepth 100000 in
theorem lc_set {p : Program} {l : Launch} {e : Env} {s : State} {m : MethodId} {args : Array Value} {below : List Frame} {meth : Method} {c : Code} {H : Heap} {locs : List Loc} {Q : State → Prop} {cells slots : Nat} {ls : Array Slot} {gX gM : GP} {b L : Nat} {xs : Nat → Int32} {I : Mem → Mem → Prop} (hS : S_set I) (hB : LB p s m args c gX gM b L xs) (hcs : cells ≤ room_1.cells ∧ slots ≤ room_1.slots) {i3 : Int32} (hi : vp_in (i3 + 1) L ∧ vp_in (i3 + 2) L ∧ vp_in (i3 + 3) L ∧ vp_in (i3 + 4) L ∧ vp_in (i3 + 5) L) {V U : Mem} (hVU : I V U) (hz : LK gX gM V U s H locs) (hl : lv_has ls 4 [(0, .ref b), (1, .ref (ad gX 0)), (2, .ref (ad gM 0)), (3, .int i3)])
    (kk : ∀ (V U : Mem) (H : Heap) (locs : List Loc), I V U → LK gX gM V U s H locs → W p l e room_1 s m args below meth c H locs cells slots Q (F0 m 1307 ls [])) : W p l e room_1 s m args below meth c H locs cells slots Q (F0 m 227 ls []) := by
  obtain ⟨hx, hb, hml, hown, hT, hGX, hGM, hN, hdj, hX, hbl⟩ := id hB
  obtain ⟨h1, h2, h3, h4, h5⟩ := hi
  obtain ⟨q, r, hq, hr, he, hI2⟩ := hS (xs (i3 + (1 : Int32)).toNatClampNeg) (xs (i3 + (2 : Int32)).toNatClampNeg) (xs (i3 + (3 : Int32)).toNatClampNeg) V U hVU
  refine lv_aload_n hx hb dL_law_227 rfl (lv_at hl 1 rfl) ?_
  refine lv_aload_n hx hb dL_law_228 rfl (lv_at hl 0 rfl) ?_
  refine lv_iload_n hx hb dL_law_229 rfl (lv_at hl 3 rfl) ?_
  refine lv_iconst (v := (1 : Int32)) hx hb dL_law_230 (by decide) ?_
  refine lv_iadd hx hb dL_law_231 ?_
  refine va_sld (A := AL s) hx hb hX hbl (Nat.not_le.mpr hbl) hz.2.2 h1 dL_law_232 ?_
  refine lv_aload_n hx hb dL_law_233 rfl (lv_at hl 0 rfl) ?_
  refine lv_iload_n hx hb dL_law_234 rfl (lv_at hl 3 rfl) ?_
  refine lv_iconst (v := (2 : Int32)) hx hb dL_law_235 (by decide) ?_
  refine lv_iadd hx hb dL_law_236 ?_
  refine va_sld (A := AL s) hx hb hX hbl (Nat.not_le.mpr hbl) hz.2.2 h2 dL_law_237 ?_
  refine lv_aload_n hx hb dL_law_238 rfl (lv_at hl 0 rfl) ?_
  refine lv_iload_n hx hb dL_law_239 rfl (lv_at hl 3 rfl) ?_
  refine lv_iconst (v := (3 : Int32)) hx hb dL_law_240 (by decide) ?_
  refine lv_iadd hx hb dL_law_241 ?_
  refine va_sld (A := AL s) hx hb hX hbl (Nat.not_le.mpr hbl) hz.2.2 h3 dL_law_242 ?_
  refine y_cv (g := gX) (L := LX) (As := [.int (xs (i3 + (1 : Int32)).toNatClampNeg), .int (xs (i3 + (2 : Int32)).toNatClampNeg), .int (xs (i3 + (3 : Int32)).toNatClampNeg)]) (n := 3) (T := TX6) (N := 14) (rest := []) hx hb hml hown hT hGX hN hz.1 hz.2.2 (c_X6_set l gX hq) kdX_0 rfl rfl rfl rfl kw_284 kw_62 kw_281 kw_282 kw_283 (by decide +kernel) rfl ⟨(Nat.le_of_ble_eq_true rfl), (Nat.le_of_ble_eq_true rfl)⟩ hcs hl.1 (Nat.le_of_ble_eq_true rfl) dL_law_243 (fun H1 locs1 z1 z2 z3 => ?_)
  have hz := lk_x hB hz z1 z2 z3
  refine lv_aload_n hx hb dL_law_246 rfl (lv_at hl 2 rfl) ?_
  refine lv_aload_n hx hb dL_law_247 rfl (lv_at hl 0 rfl) ?_
  refine lv_iload_n hx hb dL_law_248 rfl (lv_at hl 3 rfl) ?_
  refine lv_iconst (v := (1 : Int32)) hx hb dL_law_249 (by decide) ?_
  refine lv_iadd hx hb dL_law_250 ?_
  refine va_sld (A := AL s) hx hb hX hbl (Nat.not_le.mpr hbl) hz.2.2 h1 dL_law_251 ?_
  refine lv_aload_n hx hb dL_law_252 rfl (lv_at hl 0 rfl) ?_
  refine lv_iload_n hx hb dL_law_253 rfl (lv_at hl 3 rfl) ?_
  refine lv_iconst (v := (2 : Int32)) hx hb dL_law_254 (by decide) ?_
  refine lv_iadd hx hb dL_law_255 ?_
  refine va_sld (A := AL s) hx hb hX hbl (Nat.not_le.mpr hbl) hz.2.2 h2 dL_law_256 ?_
  refine lv_aload_n hx hb dL_law_257 rfl (lv_at hl 0 rfl) ?_
  refine lv_iload_n hx hb dL_law_258 rfl (lv_at hl 3 rfl) ?_
  refine lv_iconst (v := (3 : Int32)) hx hb dL_law_259 (by decide) ?_
  refine lv_iadd hx hb dL_law_260 ?_
  refine va_sld (A := AL s) hx hb hX hbl (Nat.not_le.mpr hbl) hz.2.2 h3 dL_law_261 ?_
  refine y_cv (g := gM) (L := LM) (As := [.int (xs (i3 + (1 : Int32)).toNatClampNeg), .int (xs (i3 + (2 : Int32)).toNatClampNeg), .int (xs (i3 + (3 : Int32)).toNatClampNeg)]) (n := 3) (T := TX7) (N := 30) (rest := [.int q.1]) hx hb hml hown hT hGM hN hz.2.1 hz.2.2 (c_X7_set l gM hr) kdM_0 rfl rfl rfl rfl kw_835 kw_68 kw_832 kw_833 kw_834 (by decide +kernel) rfl ⟨(Nat.le_of_ble_eq_true rfl), (Nat.le_of_ble_eq_true rfl)⟩ hcs hl.1 (Nat.le_of_ble_eq_true rfl) dL_law_262 (fun H1 locs1 z1 z2 z3 => ?_)
  have hz := lk_m hB hz z1 z2 z3
  refine lv_icmp_eq (tgt := 1307) hx hb dL_law_265 (by decide) (fun c9 => ?_) (fun c9 => absurd he c9)
  exact kk q.2 r.2 _ _ hI2 hz
set_option maxHeartbeats 4000000 in
set_option maxRecDepth 100000 in
theorem lc_copy {p : Program} {l : Launch} {e : Env} {s : State} {m : MethodId} {args : Array Value} {below : List Frame} {meth : Method} {c : Code} {H : Heap} {locs : List Loc} {Q : State → Prop} {cells slots : Nat} {ls : Array Slot} {gX gM : GP} {b L : Nat} {xs : Nat → Int32} {I : Mem → Mem → Prop} (hS : S_copy I) (hB : LB p s m args c gX gM b L xs) (hcs : cells ≤ room_1.cells ∧ slots ≤ room_1.slots) {i3 : Int32} (hi : vp_in (i3 + 1) L ∧ vp_in (i3 + 2) L ∧ vp_in (i3 + 3) L ∧ vp_in (i3 + 4) L ∧ vp_in (i3 + 5) L) {V U : Mem} (hVU : I V U) (hz : LK gX gM V U s H locs) (hl : lv_has ls 4 [(0, .ref b), (1, .ref (ad gX 0)), (2, .ref (ad gM 0)), (3, .int i3)])
    (kk : ∀ (V U : Mem) (H : Heap) (locs : List Loc), I V U → LK gX gM V U s H locs → W p l e room_1 s m args below meth c H locs cells slots Q (F0 m 1307 ls [])) : W p l e room_1 s m args below meth c H locs cells slots Q (F0 m 270 ls []) := by
  obtain ⟨hx, hb, hml, hown, hT, hGX, hGM, hN, hdj, hX, hbl⟩ := id hB
  obtain ⟨h1, h2, h3, h4, h5⟩ := hi
  obtain ⟨q, r, hq, hr, he, hI2⟩ := hS (xs (i3 + (1 : Int32)).toNatClampNeg) (xs (i3 + (2 : Int32)).toNatClampNeg) (xs (i3 + (3 : Int32)).toNatClampNeg) (xs (i3 + (4 : Int32)).toNatClampNeg) (xs (i3 + (5 : Int32)).toNatClampNeg) V U hVU
  refine lv_aload_n hx hb dL_law_270 rfl (lv_at hl 1 rfl) ?_
  refine lv_aload_n hx hb dL_law_271 rfl (lv_at hl 0 rfl) ?_
  refine lv_iload_n hx hb dL_law_272 rfl (lv_at hl 3 rfl) ?_
  refine lv_iconst (v := (1 : Int32)) hx hb dL_law_273 (by decide) ?_
  refine lv_iadd hx hb dL_law_274 ?_
  refine va_sld (A := AL s) hx hb hX hbl (Nat.not_le.mpr hbl) hz.2.2 h1 dL_law_275 ?_
  refine lv_aload_n hx hb dL_law_276 rfl (lv_at hl 0 rfl) ?_
  refine lv_iload_n hx hb dL_law_277 rfl (lv_at hl 3 rfl) ?_
  refine lv_iconst (v := (2 : Int32)) hx hb dL_law_278 (by decide) ?_
  refine lv_iadd hx hb dL_law_279 ?_
  refine va_sld (A := AL s) hx hb hX hbl (Nat.not_le.mpr hbl) hz.2.2 h2 dL_law_280 ?_
  refine lv_aload_n hx hb dL_law_281 rfl (lv_at hl 0 rfl) ?_
  refine lv_iload_n hx hb dL_law_282 rfl (lv_at hl 3 rfl) ?_
  refine lv_iconst (v := (3 : Int32)) hx hb dL_law_283 (by decide) ?_
  refine lv_iadd hx hb dL_law_284 ?_
  refine va_sld (A := AL s) hx hb hX hbl (Nat.not_le.mpr hbl) hz.2.2 h3 dL_law_285 ?_
  refine lv_aload_n hx hb dL_law_286 rfl (lv_at hl 0 rfl) ?_
  refine lv_iload_n hx hb dL_law_287 rfl (lv_at hl 3 rfl) ?_
  refine lv_iconst (v := (4 : Int32)) hx hb dL_law_288 (by decide) ?_
  refine lv_iadd hx hb dL_law_289 ?_
  refine va_sld (A := AL s) hx hb hX hbl (Nat.not_le.mpr hbl) hz.2.2 h4 dL_law_290 ?_
  refine lv_aload_n hx hb dL_law_291 rfl (lv_at hl 0 rfl) ?_
  refine lv_iload_n hx hb dL_law_292 rfl (lv_at hl 3 rfl) ?_
  refine lv_iconst (v := (5 : Int32)) hx hb dL_law_293 (by decide) ?_
  refine lv_iadd hx hb dL_law_294 ?_
  refine va_sld (A := AL s) hx hb hX hbl (Nat.not_le.mpr hbl) hz.2.2 h5 dL_law_295 ?_
  refine y_cv (g := gX) (L := LX) (As := [.int (xs (i3 + (1 : Int32)).toNatClampNeg), .int (xs (i3 + (2 : Int32)).toNatClampNeg), .int (xs (i3 + (3 : Int32)).toNatClampNeg), .int (xs (i3 + (4 : Int32)).toNatClampNeg), .int (xs (i3 + (5 : Int32)).toNatClampNeg)]) (n := 5) (T := TX6) (N := 14) (rest := []) hx hb hml hown hT hGX hN hz.1 hz.2.2 (c_X6_copy l gX hq) kdX_0 rfl rfl rfl rfl kw_304 kw_62 kw_301 kw_302 kw_303 (by decide +kernel) rfl ⟨(Nat.le_of_ble_eq_true rfl), (Nat.le_of_ble_eq_true rfl)⟩ hcs hl.1 (Nat.le_of_ble_eq_true rfl) dL_law_296 (fun H1 locs1 z1 z2 z3 => ?_)
  have hz := lk_x hB hz z1 z2 z3
  refine lv_aload_n hx hb dL_law_299 rfl (lv_at hl 2 rfl) ?_
  refine lv_aload_n hx hb dL_law_300 rfl (lv_at hl 0 rfl) ?_
  refine lv_iload_n hx hb dL_law_301 rfl (lv_at hl 3 rfl) ?_
  refine lv_iconst (v := (1 : Int32)) hx hb dL_law_302 (by decide) ?_
  refine lv_iadd hx hb dL_law_303 ?_
  refine va_sld (A := AL s) hx hb hX hbl (Nat.not_le.mpr hbl) hz.2.2 h1 dL_law_304 ?_
  refine lv_aload_n hx hb dL_law_305 rfl (lv_at hl 0 rfl) ?_
  refine lv_iload_n hx hb dL_law_306 rfl (lv_at hl 3 rfl) ?_
  refine lv_iconst (v := (2 : Int32)) hx hb dL_law_307 (by decide) ?_
  refine lv_iadd hx hb dL_law_308 ?_
  refine va_sld (A := AL s) hx hb hX hbl (Nat.not_le.mpr hbl) hz.2.2 h2 dL_law_309 ?_
  refine lv_aload_n hx hb dL_law_310 rfl (lv_at hl 0 rfl) ?_
  refine lv_iload_n hx hb dL_law_311 rfl (lv_at hl 3 rfl) ?_
  refine lv_iconst (v := (3 : Int32)) hx hb dL_law_312 (by decide) ?_
  refine lv_iadd hx hb dL_law_313 ?_
  refine va_sld (A := AL s) hx hb hX hbl (Nat.not_le.mpr hbl) hz.2.2 h3 dL_law_314 ?_
  refine lv_aload_n hx hb dL_law_315 rfl (lv_at hl 0 rfl) ?_
  refine lv_iload_n hx hb dL_law_316 rfl (lv_at hl 3 rfl) ?_
  refine lv_iconst (v := (4 : Int32)) hx hb dL_law_317 (by decide) ?_
  refine lv_iadd hx hb dL_law_318 ?_
  refine va_sld (A := AL s) hx hb hX hbl (Nat.not_le.mpr hbl) hz.2.2 h4 dL_law_319 ?_
  refine lv_aload_n hx hb dL_law_320 rfl (lv_at hl 0 rfl) ?_
  refine lv_iload_n hx hb dL_law_321 rfl (lv_at hl 3 rfl) ?_
  refine lv_iconst (v := (5 : Int32)) hx hb dL_law_322 (by decide) ?_
  refine lv_iadd hx hb dL_law_323 ?_
  refine va_sld (A := AL s) hx hb hX hbl (Nat.not_le.mpr hbl) hz.2.2 h5 dL_law_324 ?_
  refine y_cv (g := gM) (L := LM) (As := [.int (xs (i3 + (1 : Int32)).toNatClampNeg), .int (xs (i3 + (2 : Int32)).toNatClampNeg), .int (xs (i3 + (3 : Int32)).toNatClampNeg), .int (xs (i3 + (4 : Int32)).toNatClampNeg), .int (xs (i3 + (5 : Int32)).toNatClampNeg)]) (n := 5) (T := TX7) (N := 30) (rest := [.int q.1]) hx hb hml hown hT hGM hN hz.2.1 hz.2.2 (c_X7_copy l gM hr) kdM_0 rfl rfl rfl rfl kw_839 kw_68 kw_836 kw_837 kw_838 (by decide +kernel) rfl ⟨(Nat.le_of_ble_eq_true rfl), (Nat.le_of_ble_eq_true rfl)⟩ hcs hl.1 (Nat.le_of_ble_eq_true rfl) dL_law_325 (fun H1 locs1 z1 z2 z3 => ?_)
  have hz := lk_m hB hz z1 z2 z3
  refine lv_icmp_eq (tgt := 1307) hx hb dL_law_328 (by decide) (fun c9 => ?_) (fun c9 => absurd he c9)
  exact kk q.2 r.2 _ _ hI2 hz
set_option maxHeartbeats 4000000 in
set_option maxRecDepth 100000 in
theorem lc_drop {p : Program} {l : Launch} {e : Env} {s : State} {m : MethodId} {args : Array Value} {below : List Frame} {meth : Method} {c : Code} {H : Heap} {locs : List Loc} {Q : State → Prop} {cells slots : Nat} {ls : Array Slot} {gX gM : GP} {b L : Nat} {xs : Nat → Int32} {I : Mem → Mem → Prop} (hS : S_drop I) (hB : LB p s m args c gX gM b L xs) (hcs : cells ≤ room_1.cells ∧ slots ≤ room_1.slots) {i3 : Int32} (hi : vp_in (i3 + 1) L ∧ vp_in (i3 + 2) L ∧ vp_in (i3 + 3) L ∧ vp_in (i3 + 4) L ∧ vp_in (i3 + 5) L) {V U : Mem} (hVU : I V U) (hz : LK gX gM V U s H locs) (hl : lv_has ls 4 [(0, .ref b), (1, .ref (ad gX 0)), (2, .ref (ad gM 0)), (3, .int i3)])
    (kk : ∀ (V U : Mem) (H : Heap) (locs : List Loc), I V U → LK gX gM V U s H locs → W p l e room_1 s m args below meth c H locs cells slots Q (F0 m 1307 ls [])) : W p l e room_1 s m args below meth c H locs cells slots Q (F0 m 333 ls []) := by
  obtain ⟨hx, hb, hml, hown, hT, hGX, hGM, hN, hdj, hX, hbl⟩ := id hB
  obtain ⟨h1, h2, h3, h4, h5⟩ := hi
  obtain ⟨q, r, hq, hr, he, hI2⟩ := hS (xs (i3 + (1 : Int32)).toNatClampNeg) V U hVU
  refine lv_aload_n hx hb dL_law_333 rfl (lv_at hl 1 rfl) ?_
  refine lv_aload_n hx hb dL_law_334 rfl (lv_at hl 0 rfl) ?_
  refine lv_iload_n hx hb dL_law_335 rfl (lv_at hl 3 rfl) ?_
  refine lv_iconst (v := (1 : Int32)) hx hb dL_law_336 (by decide) ?_
  refine lv_iadd hx hb dL_law_337 ?_
  refine va_sld (A := AL s) hx hb hX hbl (Nat.not_le.mpr hbl) hz.2.2 h1 dL_law_338 ?_
  refine y_cv (g := gX) (L := LX) (As := [.int (xs (i3 + (1 : Int32)).toNatClampNeg)]) (n := 1) (T := TX6) (N := 14) (rest := []) hx hb hml hown hT hGX hN hz.1 hz.2.2 (c_X6_drop l gX hq) kdX_0 rfl rfl rfl rfl kw_313 kw_62 kw_310 kw_311 kw_312 (by decide +kernel) rfl ⟨(Nat.le_of_ble_eq_true rfl), (Nat.le_of_ble_eq_true rfl)⟩ hcs hl.1 (Nat.le_of_ble_eq_true rfl) dL_law_339 (fun H1 locs1 z1 z2 z3 => ?_)
  have hz := lk_x hB hz z1 z2 z3
  refine lv_aload_n hx hb dL_law_342 rfl (lv_at hl 2 rfl) ?_
  refine lv_aload_n hx hb dL_law_343 rfl (lv_at hl 0 rfl) ?_
  refine lv_iload_n hx hb dL_law_344 rfl (lv_at hl 3 rfl) ?_
  refine lv_iconst (v := (1 : Int32)) hx hb dL_law_345 (by decide) ?_
  refine lv_iadd hx hb dL_law_346 ?_
  refine va_sld (A := AL s) hx hb hX hbl (Nat.not_le.mpr hbl) hz.2.2 h1 dL_law_347 ?_
  refine y_cv (g := gM) (L := LM) (As := [.int (xs (i3 + (1 : Int32)).toNatClampNeg)]) (n := 1) (T := TX7) (N := 30) (rest := [.int q.1]) hx hb hml hown hT hGM hN hz.2.1 hz.2.2 (c_X7_drop l gM hr) kdM_0 rfl rfl rfl rfl kw_843 kw_68 kw_840 kw_841 kw_842 (by decide +kernel) rfl ⟨(Nat.le_of_ble_eq_true rfl), (Nat.le_of_ble_eq_true rfl)⟩ hcs hl.1 (Nat.le_of_ble_eq_true rfl) dL_law_348 (fun H1 locs1 z1 z2 z3 => ?_)
  have hz := lk_m hB hz z1 z2 z3
  refine lv_icmp_eq (tgt := 1307) hx hb dL_law_351 (by decide) (fun c9 => ?_) (fun c9 => absurd he c9)
  exact kk q.2 r.2 _ _ hI2 hz
set_option maxHeartbeats 4000000 in
set_option maxRecDepth 100000 in
theorem lc_feed {p : Program} {l : Launch} {e : Env} {s : State} {m : MethodId} {args : Array Value} {below : List Frame} {meth : Method} {c : Code} {H : Heap} {locs : List Loc} {Q : State → Prop} {cells slots : Nat} {ls : Array Slot} {gX gM : GP} {b L : Nat} {xs : Nat → Int32} {I : Mem → Mem → Prop} (hS : S_feed I) (hB : LB p s m args c gX gM b L xs) (hcs : cells ≤ room_1.cells ∧ slots ≤ room_1.slots) {i3 : Int32} (hi : vp_in (i3 + 1) L ∧ vp_in (i3 + 2) L ∧ vp_in (i3 + 3) L ∧ vp_in (i3 + 4) L ∧ vp_in (i3 + 5) L) {V U : Mem} (hVU : I V U) (hz : LK gX gM V U s H locs) (hl : lv_has ls 4 [(0, .ref b), (1, .ref (ad gX 0)), (2, .ref (ad gM 0)), (3, .int i3)])
    (kk : ∀ (V U : Mem) (H : Heap) (locs : List Loc), I V U → LK gX gM V U s H locs → W p l e room_1 s m args below meth c H locs cells slots Q (F0 m 1307 ls [])) : W p l e room_1 s m args below meth c H locs cells slots Q (F0 m 356 ls []) := by
  obtain ⟨hx, hb, hml, hown, hT, hGX, hGM, hN, hdj, hX, hbl⟩ := id hB
  obtain ⟨h1, h2, h3, h4, h5⟩ := hi
  obtain ⟨q, r, hq, hr, he, hI2⟩ := hS (xs (i3 + (1 : Int32)).toNatClampNeg) V U hVU
  refine lv_aload_n hx hb dL_law_356 rfl (lv_at hl 1 rfl) ?_
  refine lv_aload_n hx hb dL_law_357 rfl (lv_at hl 0 rfl) ?_
  refine lv_iload_n hx hb dL_law_358 rfl (lv_at hl 3 rfl) ?_
  refine lv_iconst (v := (1 : Int32)) hx hb dL_law_359 (by decide) ?_
  refine lv_iadd hx hb dL_law_360 ?_
  refine va_sld (A := AL s) hx hb hX hbl (Nat.not_le.mpr hbl) hz.2.2 h1 dL_law_361 ?_
  refine y_cv (g := gX) (L := LX) (As := [.int (xs (i3 + (1 : Int32)).toNatClampNeg)]) (n := 1) (T := TX6) (N := 14) (rest := []) hx hb hml hown hT hGX hN hz.1 hz.2.2 (c_X6_feed l gX hq) kdX_0 rfl rfl rfl rfl kw_317 kw_62 kw_314 kw_315 kw_316 (by decide +kernel) rfl ⟨(Nat.le_of_ble_eq_true rfl), (Nat.le_of_ble_eq_true rfl)⟩ hcs hl.1 (Nat.le_of_ble_eq_true rfl) dL_law_362 (fun H1 locs1 z1 z2 z3 => ?_)
  have hz := lk_x hB hz z1 z2 z3
  refine lv_aload_n hx hb dL_law_365 rfl (lv_at hl 2 rfl) ?_
  refine lv_aload_n hx hb dL_law_366 rfl (lv_at hl 0 rfl) ?_
  refine lv_iload_n hx hb dL_law_367 rfl (lv_at hl 3 rfl) ?_
  refine lv_iconst (v := (1 : Int32)) hx hb dL_law_368 (by decide) ?_
  refine lv_iadd hx hb dL_law_369 ?_
  refine va_sld (A := AL s) hx hb hX hbl (Nat.not_le.mpr hbl) hz.2.2 h1 dL_law_370 ?_
  refine y_cv (g := gM) (L := LM) (As := [.int (xs (i3 + (1 : Int32)).toNatClampNeg)]) (n := 1) (T := TX7) (N := 30) (rest := [.int q.1]) hx hb hml hown hT hGM hN hz.2.1 hz.2.2 (c_X7_feed l gM hr) kdM_0 rfl rfl rfl rfl kw_847 kw_68 kw_844 kw_845 kw_846 (by decide +kernel) rfl ⟨(Nat.le_of_ble_eq_true rfl), (Nat.le_of_ble_eq_true rfl)⟩ hcs hl.1 (Nat.le_of_ble_eq_true rfl) dL_law_371 (fun H1 locs1 z1 z2 z3 => ?_)
  have hz := lk_m hB hz z1 z2 z3
  refine lv_icmp_eq (tgt := 1307) hx hb dL_law_374 (by decide) (fun c9 => ?_) (fun c9 => absurd he c9)
  exact kk q.2 r.2 _ _ hI2 hz
set_option maxHeartbeats 4000000 in
set_option maxRecDepth 100000 in
theorem lc_sheet {p : Program} {l : Launch} {e : Env} {s : State} {m : MethodId} {args : Array Value} {below : List Frame} {meth : Method} {c : Code} {H : Heap} {locs : List Loc} {Q : State → Prop} {cells slots : Nat} {ls : Array Slot} {gX gM : GP} {b L : Nat} {xs : Nat → Int32} {I : Mem → Mem → Prop} (hS : S_sheet I) (hB : LB p s m args c gX gM b L xs) (hcs : cells ≤ room_1.cells ∧ slots ≤ room_1.slots) {i3 : Int32} (hi : vp_in (i3 + 1) L ∧ vp_in (i3 + 2) L ∧ vp_in (i3 + 3) L ∧ vp_in (i3 + 4) L ∧ vp_in (i3 + 5) L) {V U : Mem} (hVU : I V U) (hz : LK gX gM V U s H locs) (hl : lv_has ls 4 [(0, .ref b), (1, .ref (ad gX 0)), (2, .ref (ad gM 0)), (3, .int i3)])
    (kk : ∀ (V U : Mem) (H : Heap) (locs : List Loc), I V U → LK gX gM V U s H locs → W p l e room_1 s m args below meth c H locs cells slots Q (F0 m 1307 ls [])) : W p l e room_1 s m args below meth c H locs cells slots Q (F0 m 379 ls []) := by
  obtain ⟨hx, hb, hml, hown, hT, hGX, hGM, hN, hdj, hX, hbl⟩ := id hB
  obtain ⟨h1, h2, h3, h4, h5⟩ := hi
  obtain ⟨q, r, hq, hr, he, hI2⟩ := hS  V U hVU
  refine lv_aload_n hx hb dL_law_379 rfl (lv_at hl 1 rfl) ?_
  refine y_cv (g := gX) (L := LX) (As := []) (n := 0) (T := TX6) (N := 14) (rest := []) hx hb hml hown hT hGX hN hz.1 hz.2.2 (c_X6_sheet l gX hq) kdX_0 rfl rfl rfl rfl kw_322 kw_62 kw_319 kw_320 kw_321 (by decide +kernel) rfl ⟨(Nat.le_of_ble_eq_true rfl), (Nat.le_of_ble_eq_true rfl)⟩ hcs hl.1 (Nat.le_of_ble_eq_true rfl) dL_law_380 (fun H1 locs1 z1 z2 z3 => ?_)
  have hz := lk_x hB hz z1 z2 z3
  refine lv_aload_n hx hb dL_law_383 rfl (lv_at hl 2 rfl) ?_
  refine y_cv (g := gM) (L := LM) (As := []) (n := 0) (T := TX7) (N := 30) (rest := [.int q.1]) hx hb hml hown hT hGM hN hz.2.1 hz.2.2 (c_X7_sheet l gM hr) kdM_0 rfl rfl rfl rfl kw_857 kw_68 kw_854 kw_855 kw_856 (by decide +kernel) rfl ⟨(Nat.le_of_ble_eq_true rfl), (Nat.le_of_ble_eq_true rfl)⟩ hcs hl.1 (Nat.le_of_ble_eq_true rfl) dL_law_384 (fun H1 locs1 z1 z2 z3 => ?_)
  have hz := lk_m hB hz z1 z2 z3
  refine lv_icmp_eq (tgt := 1307) hx hb dL_law_387 (by decide) (fun c9 => ?_) (fun c9 => absurd he c9)
  exact kk q.2 r.2 _ _ hI2 hz
set_option maxHeartbeats 4000000 in
set_option maxRecDepth 100000 in
theorem lc_fault {p : Program} {l : Launch} {e : Env} {s : State} {m : MethodId} {args : Array Value} {below : List Frame} {meth : Method} {c : Code} {H : Heap} {locs : List Loc} {Q : State → Prop} {cells slots : Nat} {ls : Array Slot} {gX gM : GP} {b L : Nat} {xs : Nat → Int32} {I : Mem → Mem → Prop} (hS : S_fault I) (hB : LB p s m args c gX gM b L xs) (hcs : cells ≤ room_1.cells ∧ slots ≤ room_1.slots) {i3 : Int32} (hi : vp_in (i3 + 1) L ∧ vp_in (i3 + 2) L ∧ vp_in (i3 + 3) L ∧ vp_in (i3 + 4) L ∧ vp_in (i3 + 5) L) {V U : Mem} (hVU : I V U) (hz : LK gX gM V U s H locs) (hl : lv_has ls 4 [(0, .ref b), (1, .ref (ad gX 0)), (2, .ref (ad gM 0)), (3, .int i3)])
    (kk : ∀ (V U : Mem) (H : Heap) (locs : List Loc), I V U → LK gX gM V U s H locs → W p l e room_1 s m args below meth c H locs cells slots Q (F0 m 1307 ls [])) : W p l e room_1 s m args below meth c H locs cells slots Q (F0 m 392 ls []) := by
  obtain ⟨hx, hb, hml, hown, hT, hGX, hGM, hN, hdj, hX, hbl⟩ := id hB
  obtain ⟨h1, h2, h3, h4, h5⟩ := hi
  obtain ⟨q, r, hq, hr, he, hI2⟩ := hS  V U hVU
  refine lv_aload_n hx hb dL_law_392 rfl (lv_at hl 1 rfl) ?_
  refine y_cv (g := gX) (L := LX) (As := []) (n := 0) (T := TX6) (N := 14) (rest := []) hx hb hml hown hT hGX hN hz.1 hz.2.2 (c_X6_fault l gX hq) kdX_0 rfl rfl rfl rfl kw_396 kw_62 kw_393 kw_394 kw_395 (by decide +kernel) rfl ⟨(Nat.le_of_ble_eq_true rfl), (Nat.le_of_ble_eq_true rfl)⟩ hcs hl.1 (Nat.le_of_ble_eq_true rfl) dL_law_393 (fun H1 locs1 z1 z2 z3 => ?_)
  have hz := lk_x hB hz z1 z2 z3
  refine lv_aload_n hx hb dL_law_396 rfl (lv_at hl 2 rfl) ?_
  refine y_cv (g := gM) (L := LM) (As := []) (n := 0) (T := TX7) (N := 30) (rest := [.int q.1]) hx hb hml hown hT hGM hN hz.2.1 hz.2.2 (c_X7_fault l gM hr) kdM_0 rfl rfl rfl rfl kw_853 kw_68 kw_850 kw_851 kw_852 (by decide +kernel) rfl ⟨(Nat.le_of_ble_eq_true rfl), (Nat.le_of_ble_eq_true rfl)⟩ hcs hl.1 (Nat.le_of_ble_eq_true rfl) dL_law_397 (fun H1 locs1 z1 z2 z3 => ?_)
  have hz := lk_m hB hz z1 z2 z3
  refine lv_icmp_eq (tgt := 1307) hx hb dL_law_400 (by decide) (fun c9 => ?_) (fun c9 => absurd he c9)
  exact kk q.2 r.2 _ _ hI2 hz
set_option maxHeartbeats 4000000 in
set_option maxRecDepth 100000 in
theorem lc_undo {p : Program} {l : Launch} {e : Env} {s : State} {m : MethodId} {args : Array Value} {below : List Frame} {meth : Method} {c : Code} {H : Heap} {locs : List Loc} {Q : State → Prop} {cells slots : Nat} {ls : Array Slot} {gX gM : GP} {b L : Nat} {xs : Nat → Int32} {I : Mem → Mem → Prop} (hS : S_undo I) (hB : LB p s m args c gX gM b L xs) (hcs : cells ≤ room_1.cells ∧ slots ≤ room_1.slots) {i3 : Int32} (hi : vp_in (i3 + 1) L ∧ vp_in (i3 + 2) L ∧ vp_in (i3 + 3) L ∧ vp_in (i3 + 4) L ∧ vp_in (i3 + 5) L) {V U : Mem} (hVU : I V U) (hz : LK gX gM V U s H locs) (hl : lv_has ls 4 [(0, .ref b), (1, .ref (ad gX 0)), (2, .ref (ad gM 0)), (3, .int i3)])
    (kk : ∀ (V U : Mem) (H : Heap) (locs : List Loc), I V U → LK gX gM V U s H locs → W p l e room_1 s m args below meth c H locs cells slots Q (F0 m 1307 ls [])) : W p l e room_1 s m args below meth c H locs cells slots Q (F0 m 405 ls []) := by
  obtain ⟨hx, hb, hml, hown, hT, hGX, hGM, hN, hdj, hX, hbl⟩ := id hB
  obtain ⟨h1, h2, h3, h4, h5⟩ := hi
  obtain ⟨q, r, hq, hr, he, hI2⟩ := hS  V U hVU
  refine lv_aload_n hx hb dL_law_405 rfl (lv_at hl 1 rfl) ?_
  refine y_cv (g := gX) (L := LX) (As := []) (n := 0) (T := TX6) (N := 14) (rest := []) hx hb hml hown hT hGX hN hz.1 hz.2.2 (c_X6_undo l gX hq) kdX_0 rfl rfl rfl rfl kw_400 kw_62 kw_397 kw_398 kw_399 (by decide +kernel) rfl ⟨(Nat.le_of_ble_eq_true rfl), (Nat.le_of_ble_eq_true rfl)⟩ hcs hl.1 (Nat.le_of_ble_eq_true rfl) dL_law_406 (fun H1 locs1 z1 z2 z3 => ?_)
  have hz := lk_x hB hz z1 z2 z3
  refine lv_aload_n hx hb dL_law_409 rfl (lv_at hl 2 rfl) ?_
  refine y_cv (g := gM) (L := LM) (As := []) (n := 0) (T := TX7) (N := 30) (rest := [.int q.1]) hx hb hml hown hT hGM hN hz.2.1 hz.2.2 (c_X7_undo l gM hr) kdM_0 rfl rfl rfl rfl kw_964 kw_68 kw_961 kw_962 kw_963 (by decide +kernel) rfl ⟨(Nat.le_of_ble_eq_true rfl), (Nat.le_of_ble_eq_true rfl)⟩ hcs hl.1 (Nat.le_of_ble_eq_true rfl) dL_law_410 (fun H1 locs1 z1 z2 z3 => ?_)
  have hz := lk_m hB hz z1 z2 z3
  refine lv_icmp_eq (tgt := 1307) hx hb dL_law_413 (by decide) (fun c9 => ?_) (fun c9 => absurd he c9)
  exact kk q.2 r.2 _ _ hI2 hz
set_option maxHeartbeats 4000000 in
set_option maxRecDepth 100000 in
theorem lc_put {p : Program} {l : Launch} {e : Env} {s : State} {m : MethodId} {args : Array Value} {below : List Frame} {meth : Method} {c : Code} {H : Heap} {locs : List Loc} {Q : State → Prop} {cells slots : Nat} {ls : Array Slot} {gX gM : GP} {b L : Nat} {xs : Nat → Int32} {I : Mem → Mem → Prop} (hS : S_put I) (hB : LB p s m args c gX gM b L xs) (hcs : cells ≤ room_1.cells ∧ slots ≤ room_1.slots) {i3 : Int32} (hi : vp_in (i3 + 1) L ∧ vp_in (i3 + 2) L ∧ vp_in (i3 + 3) L ∧ vp_in (i3 + 4) L ∧ vp_in (i3 + 5) L) {V U : Mem} (hVU : I V U) (hz : LK gX gM V U s H locs) (hl : lv_has ls 4 [(0, .ref b), (1, .ref (ad gX 0)), (2, .ref (ad gM 0)), (3, .int i3)])
    (kk : ∀ (V U : Mem) (H : Heap) (locs : List Loc), I V U → LK gX gM V U s H locs → W p l e room_1 s m args below meth c H locs cells slots Q (F0 m 1307 ls [])) : W p l e room_1 s m args below meth c H locs cells slots Q (F0 m 418 ls []) := by
  obtain ⟨hx, hb, hml, hown, hT, hGX, hGM, hN, hdj, hX, hbl⟩ := id hB
  obtain ⟨h1, h2, h3, h4, h5⟩ := hi
  obtain ⟨q, r, hq, hr, he, hI2⟩ := hS (xs (i3 + (1 : Int32)).toNatClampNeg) (xs (i3 + (2 : Int32)).toNatClampNeg) (xs (i3 + (3 : Int32)).toNatClampNeg) (xs (i3 + (4 : Int32)).toNatClampNeg) V U hVU
  refine lv_aload_n hx hb dL_law_418 rfl (lv_at hl 1 rfl) ?_
  refine lv_aload_n hx hb dL_law_419 rfl (lv_at hl 0 rfl) ?_
  refine lv_iload_n hx hb dL_law_420 rfl (lv_at hl 3 rfl) ?_
  refine lv_iconst (v := (1 : Int32)) hx hb dL_law_421 (by decide) ?_
  refine lv_iadd hx hb dL_law_422 ?_
  refine va_sld (A := AL s) hx hb hX hbl (Nat.not_le.mpr hbl) hz.2.2 h1 dL_law_423 ?_
  refine lv_aload_n hx hb dL_law_424 rfl (lv_at hl 0 rfl) ?_
  refine lv_iload_n hx hb dL_law_425 rfl (lv_at hl 3 rfl) ?_
  refine lv_iconst (v := (2 : Int32)) hx hb dL_law_426 (by decide) ?_
  refine lv_iadd hx hb dL_law_427 ?_
  refine va_sld (A := AL s) hx hb hX hbl (Nat.not_le.mpr hbl) hz.2.2 h2 dL_law_428 ?_
  refine lv_aload_n hx hb dL_law_429 rfl (lv_at hl 0 rfl) ?_
  refine lv_iload_n hx hb dL_law_430 rfl (lv_at hl 3 rfl) ?_
  refine lv_iconst (v := (3 : Int32)) hx hb dL_law_431 (by decide) ?_
  refine lv_iadd hx hb dL_law_432 ?_
  refine va_sld (A := AL s) hx hb hX hbl (Nat.not_le.mpr hbl) hz.2.2 h3 dL_law_433 ?_
  refine lv_aload_n hx hb dL_law_434 rfl (lv_at hl 0 rfl) ?_
  refine lv_iload_n hx hb dL_law_435 rfl (lv_at hl 3 rfl) ?_
  refine lv_iconst (v := (4 : Int32)) hx hb dL_law_436 (by decide) ?_
  refine lv_iadd hx hb dL_law_437 ?_
  refine va_sld (A := AL s) hx hb hX hbl (Nat.not_le.mpr hbl) hz.2.2 h4 dL_law_438 ?_
  refine y_cv (g := gX) (L := LX) (As := [.int (xs (i3 + (1 : Int32)).toNatClampNeg), .int (xs (i3 + (2 : Int32)).toNatClampNeg), .int (xs (i3 + (3 : Int32)).toNatClampNeg), .int (xs (i3 + (4 : Int32)).toNatClampNeg)]) (n := 4) (T := TX6) (N := 14) (rest := []) hx hb hml hown hT hGX hN hz.1 hz.2.2 (c_X6_put l gX hq) kdX_0 rfl rfl rfl rfl kw_421 kw_62 kw_418 kw_419 kw_420 (by decide +kernel) rfl ⟨(Nat.le_of_ble_eq_true rfl), (Nat.le_of_ble_eq_true rfl)⟩ hcs hl.1 (Nat.le_of_ble_eq_true rfl) dL_law_439 (fun H1 locs1 z1 z2 z3 => ?_)
  have hz := lk_x hB hz z1 z2 z3
  refine lv_aload_n hx hb dL_law_442 rfl (lv_at hl 2 rfl) ?_
  refine lv_aload_n hx hb dL_law_443 rfl (lv_at hl 0 rfl) ?_
  refine lv_iload_n hx hb dL_law_444 rfl (lv_at hl 3 rfl) ?_
  refine lv_iconst (v := (1 : Int32)) hx hb dL_law_445 (by decide) ?_
  refine lv_iadd hx hb dL_law_446 ?_
  refine va_sld (A := AL s) hx hb hX hbl (Nat.not_le.mpr hbl) hz.2.2 h1 dL_law_447 ?_
  refine lv_aload_n hx hb dL_law_448 rfl (lv_at hl 0 rfl) ?_
  refine lv_iload_n hx hb dL_law_449 rfl (lv_at hl 3 rfl) ?_
  refine lv_iconst (v := (2 : Int32)) hx hb dL_law_450 (by decide) ?_
  refine lv_iadd hx hb dL_law_451 ?_
  refine va_sld (A := AL s) hx hb hX hbl (Nat.not_le.mpr hbl) hz.2.2 h2 dL_law_452 ?_
  refine lv_aload_n hx hb dL_law_453 rfl (lv_at hl 0 rfl) ?_
  refine lv_iload_n hx hb dL_law_454 rfl (lv_at hl 3 rfl) ?_
  refine lv_iconst (v := (3 : Int32)) hx hb dL_law_455 (by decide) ?_
  refine lv_iadd hx hb dL_law_456 ?_
  refine va_sld (A := AL s) hx hb hX hbl (Nat.not_le.mpr hbl) hz.2.2 h3 dL_law_457 ?_
  refine lv_aload_n hx hb dL_law_458 rfl (lv_at hl 0 rfl) ?_
  refine lv_iload_n hx hb dL_law_459 rfl (lv_at hl 3 rfl) ?_
  refine lv_iconst (v := (4 : Int32)) hx hb dL_law_460 (by decide) ?_
  refine lv_iadd hx hb dL_law_461 ?_
  refine va_sld (A := AL s) hx hb hX hbl (Nat.not_le.mpr hbl) hz.2.2 h4 dL_law_462 ?_
  refine y_cv (g := gM) (L := LM) (As := [.int (xs (i3 + (1 : Int32)).toNatClampNeg), .int (xs (i3 + (2 : Int32)).toNatClampNeg), .int (xs (i3 + (3 : Int32)).toNatClampNeg), .int (xs (i3 + (4 : Int32)).toNatClampNeg)]) (n := 4) (T := TX7) (N := 30) (rest := [.int q.1]) hx hb hml hown hT hGM hN hz.2.1 hz.2.2 (c_X7_put l gM hr) kdM_0 rfl rfl rfl rfl kw_913 kw_68 kw_910 kw_911 kw_912 (by decide +kernel) rfl ⟨(Nat.le_of_ble_eq_true rfl), (Nat.le_of_ble_eq_true rfl)⟩ hcs hl.1 (Nat.le_of_ble_eq_true rfl) dL_law_463 (fun H1 locs1 z1 z2 z3 => ?_)
  have hz := lk_m hB hz z1 z2 z3
  refine lv_icmp_eq (tgt := 1307) hx hb dL_law_466 (by decide) (fun c9 => ?_) (fun c9 => absurd he c9)
  exact kk q.2 r.2 _ _ hI2 hz
set_option maxHeartbeats 4000000 in
set_option maxRecDepth 100000 in
theorem lc_take {p : Program} {l : Launch} {e : Env} {s : State} {m : MethodId} {args : Array Value} {below : List Frame} {meth : Method} {c : Code} {H : Heap} {locs : List Loc} {Q : State → Prop} {cells slots : Nat} {ls : Array Slot} {gX gM : GP} {b L : Nat} {xs : Nat → Int32} {I : Mem → Mem → Prop} (hS : S_take I) (hB : LB p s m args c gX gM b L xs) (hcs : cells ≤ room_1.cells ∧ slots ≤ room_1.slots) {i3 : Int32} (hi : vp_in (i3 + 1) L ∧ vp_in (i3 + 2) L ∧ vp_in (i3 + 3) L ∧ vp_in (i3 + 4) L ∧ vp_in (i3 + 5) L) {V U : Mem} (hVU : I V U) (hz : LK gX gM V U s H locs) (hl : lv_has ls 4 [(0, .ref b), (1, .ref (ad gX 0)), (2, .ref (ad gM 0)), (3, .int i3)])
    (kk : ∀ (V U : Mem) (H : Heap) (locs : List Loc), I V U → LK gX gM V U s H locs → W p l e room_1 s m args below meth c H locs cells slots Q (F0 m 1307 ls [])) : W p l e room_1 s m args below meth c H locs cells slots Q (F0 m 471 ls []) := by
  obtain ⟨hx, hb, hml, hown, hT, hGX, hGM, hN, hdj, hX, hbl⟩ := id hB
  obtain ⟨h1, h2, h3, h4, h5⟩ := hi
  obtain ⟨q, r, hq, hr, he, hI2⟩ := hS (xs (i3 + (1 : Int32)).toNatClampNeg) V U hVU
  refine lv_aload_n hx hb dL_law_471 rfl (lv_at hl 1 rfl) ?_
  refine lv_aload_n hx hb dL_law_472 rfl (lv_at hl 0 rfl) ?_
  refine lv_iload_n hx hb dL_law_473 rfl (lv_at hl 3 rfl) ?_
  refine lv_iconst (v := (1 : Int32)) hx hb dL_law_474 (by decide) ?_
  refine lv_iadd hx hb dL_law_475 ?_
  refine va_sld (A := AL s) hx hb hX hbl (Nat.not_le.mpr hbl) hz.2.2 h1 dL_law_476 ?_
  refine y_cv (g := gX) (L := LX) (As := [.int (xs (i3 + (1 : Int32)).toNatClampNeg)]) (n := 1) (T := TX6) (N := 14) (rest := []) hx hb hml hown hT hGX hN hz.1 hz.2.2 (c_X6_take l gX hq) kdX_0 rfl rfl rfl rfl kw_440 kw_62 kw_437 kw_438 kw_439 (by decide +kernel) rfl ⟨(Nat.le_of_ble_eq_true rfl), (Nat.le_of_ble_eq_true rfl)⟩ hcs hl.1 (Nat.le_of_ble_eq_true rfl) dL_law_477 (fun H1 locs1 z1 z2 z3 => ?_)
  have hz := lk_x hB hz z1 z2 z3
  refine lv_aload_n hx hb dL_law_480 rfl (lv_at hl 2 rfl) ?_
  refine lv_aload_n hx hb dL_law_481 rfl (lv_at hl 0 rfl) ?_
  refine lv_iload_n hx hb dL_law_482 rfl (lv_at hl 3 rfl) ?_
  refine lv_iconst (v := (1 : Int32)) hx hb dL_law_483 (by decide) ?_
  refine lv_iadd hx hb dL_law_484 ?_
  refine va_sld (A := AL s) hx hb hX hbl (Nat.not_le.mpr hbl) hz.2.2 h1 dL_law_485 ?_
  refine y_cv (g := gM) (L := LM) (As := [.int (xs (i3 + (1 : Int32)).toNatClampNeg)]) (n := 1) (T := TX7) (N := 30) (rest := [.int q.1]) hx hb hml hown hT hGM hN hz.2.1 hz.2.2 (c_X7_take l gM hr) kdM_0 rfl rfl rfl rfl kw_937 kw_68 kw_934 kw_935 kw_936 (by decide +kernel) rfl ⟨(Nat.le_of_ble_eq_true rfl), (Nat.le_of_ble_eq_true rfl)⟩ hcs hl.1 (Nat.le_of_ble_eq_true rfl) dL_law_486 (fun H1 locs1 z1 z2 z3 => ?_)
  have hz := lk_m hB hz z1 z2 z3
  refine lv_icmp_eq (tgt := 1307) hx hb dL_law_489 (by decide) (fun c9 => ?_) (fun c9 => absurd he c9)
  exact kk q.2 r.2 _ _ hI2 hz
set_option maxHeartbeats 4000000 in
set_option maxRecDepth 100000 in
theorem lc_move {p : Program} {l : Launch} {e : Env} {s : State} {m : MethodId} {args : Array Value} {below : List Frame} {meth : Method} {c : Code} {H : Heap} {locs : List Loc} {Q : State → Prop} {cells slots : Nat} {ls : Array Slot} {gX gM : GP} {b L : Nat} {xs : Nat → Int32} {I : Mem → Mem → Prop} (hS : S_move I) (hB : LB p s m args c gX gM b L xs) (hcs : cells ≤ room_1.cells ∧ slots ≤ room_1.slots) {i3 : Int32} (hi : vp_in (i3 + 1) L ∧ vp_in (i3 + 2) L ∧ vp_in (i3 + 3) L ∧ vp_in (i3 + 4) L ∧ vp_in (i3 + 5) L) {V U : Mem} (hVU : I V U) (hz : LK gX gM V U s H locs) (hl : lv_has ls 4 [(0, .ref b), (1, .ref (ad gX 0)), (2, .ref (ad gM 0)), (3, .int i3)])
    (kk : ∀ (V U : Mem) (H : Heap) (locs : List Loc), I V U → LK gX gM V U s H locs → W p l e room_1 s m args below meth c H locs cells slots Q (F0 m 1307 ls [])) : W p l e room_1 s m args below meth c H locs cells slots Q (F0 m 494 ls []) := by
  obtain ⟨hx, hb, hml, hown, hT, hGX, hGM, hN, hdj, hX, hbl⟩ := id hB
  obtain ⟨h1, h2, h3, h4, h5⟩ := hi
  obtain ⟨q, r, hq, hr, he, hI2⟩ := hS (xs (i3 + (1 : Int32)).toNatClampNeg) (xs (i3 + (2 : Int32)).toNatClampNeg) V U hVU
  refine lv_aload_n hx hb dL_law_494 rfl (lv_at hl 1 rfl) ?_
  refine lv_aload_n hx hb dL_law_495 rfl (lv_at hl 0 rfl) ?_
  refine lv_iload_n hx hb dL_law_496 rfl (lv_at hl 3 rfl) ?_
  refine lv_iconst (v := (1 : Int32)) hx hb dL_law_497 (by decide) ?_
  refine lv_iadd hx hb dL_law_498 ?_
  refine va_sld (A := AL s) hx hb hX hbl (Nat.not_le.mpr hbl) hz.2.2 h1 dL_law_499 ?_
  refine lv_aload_n hx hb dL_law_500 rfl (lv_at hl 0 rfl) ?_
  refine lv_iload_n hx hb dL_law_501 rfl (lv_at hl 3 rfl) ?_
  refine lv_iconst (v := (2 : Int32)) hx hb dL_law_502 (by decide) ?_
  refine lv_iadd hx hb dL_law_503 ?_
  refine va_sld (A := AL s) hx hb hX hbl (Nat.not_le.mpr hbl) hz.2.2 h2 dL_law_504 ?_
  refine y_cv (g := gX) (L := LX) (As := [.int (xs (i3 + (1 : Int32)).toNatClampNeg), .int (xs (i3 + (2 : Int32)).toNatClampNeg)]) (n := 2) (T := TX6) (N := 14) (rest := []) hx hb hml hown hT hGX hN hz.1 hz.2.2 (c_X6_move l gX hq) kdX_0 rfl rfl rfl rfl kw_450 kw_62 kw_447 kw_448 kw_449 (by decide +kernel) rfl ⟨(Nat.le_of_ble_eq_true rfl), (Nat.le_of_ble_eq_true rfl)⟩ hcs hl.1 (Nat.le_of_ble_eq_true rfl) dL_law_505 (fun H1 locs1 z1 z2 z3 => ?_)
  have hz := lk_x hB hz z1 z2 z3
  refine lv_aload_n hx hb dL_law_508 rfl (lv_at hl 2 rfl) ?_
  refine lv_aload_n hx hb dL_law_509 rfl (lv_at hl 0 rfl) ?_
  refine lv_iload_n hx hb dL_law_510 rfl (lv_at hl 3 rfl) ?_
  refine lv_iconst (v := (1 : Int32)) hx hb dL_law_511 (by decide) ?_
  refine lv_iadd hx hb dL_law_512 ?_
  refine va_sld (A := AL s) hx hb hX hbl (Nat.not_le.mpr hbl) hz.2.2 h1 dL_law_513 ?_
  refine lv_aload_n hx hb dL_law_514 rfl (lv_at hl 0 rfl) ?_
  refine lv_iload_n hx hb dL_law_515 rfl (lv_at hl 3 rfl) ?_
  refine lv_iconst (v := (2 : Int32)) hx hb dL_law_516 (by decide) ?_
  refine lv_iadd hx hb dL_law_517 ?_
  refine va_sld (A := AL s) hx hb hX hbl (Nat.not_le.mpr hbl) hz.2.2 h2 dL_law_518 ?_
  refine y_cv (g := gM) (L := LM) (As := [.int (xs (i3 + (1 : Int32)).toNatClampNeg), .int (xs (i3 + (2 : Int32)).toNatClampNeg)]) (n := 2) (T := TX7) (N := 30) (rest := [.int q.1]) hx hb hml hown hT hGM hN hz.2.1 hz.2.2 (c_X7_move l gM hr) kdM_0 rfl rfl rfl rfl kw_948 kw_68 kw_945 kw_946 kw_947 (by decide +kernel) rfl ⟨(Nat.le_of_ble_eq_true rfl), (Nat.le_of_ble_eq_true rfl)⟩ hcs hl.1 (Nat.le_of_ble_eq_true rfl) dL_law_519 (fun H1 locs1 z1 z2 z3 => ?_)
  have hz := lk_m hB hz z1 z2 z3
  refine lv_icmp_eq (tgt := 1307) hx hb dL_law_522 (by decide) (fun c9 => ?_) (fun c9 => absurd he c9)
  exact kk q.2 r.2 _ _ hI2 hz
set_option maxHeartbeats 4000000 in
set_option maxRecDepth 100000 in
theorem lc_change {p : Program} {l : Launch} {e : Env} {s : State} {m : MethodId} {args : Array Value} {below : List Frame} {meth : Method} {c : Code} {H : Heap} {locs : List Loc} {Q : State → Prop} {cells slots : Nat} {ls : Array Slot} {gX gM : GP} {b L : Nat} {xs : Nat → Int32} {I : Mem → Mem → Prop} (hS : S_change I) (hB : LB p s m args c gX gM b L xs) (hcs : cells ≤ room_1.cells ∧ slots ≤ room_1.slots) {i3 : Int32} (hi : vp_in (i3 + 1) L ∧ vp_in (i3 + 2) L ∧ vp_in (i3 + 3) L ∧ vp_in (i3 + 4) L ∧ vp_in (i3 + 5) L) {V U : Mem} (hVU : I V U) (hz : LK gX gM V U s H locs) (hl : lv_has ls 4 [(0, .ref b), (1, .ref (ad gX 0)), (2, .ref (ad gM 0)), (3, .int i3)])
    (kk : ∀ (V U : Mem) (H : Heap) (locs : List Loc), I V U → LK gX gM V U s H locs → W p l e room_1 s m args below meth c H locs cells slots Q (F0 m 1307 ls [])) : W p l e room_1 s m args below meth c H locs cells slots Q (F0 m 527 ls []) := by
  obtain ⟨hx, hb, hml, hown, hT, hGX, hGM, hN, hdj, hX, hbl⟩ := id hB
  obtain ⟨h1, h2, h3, h4, h5⟩ := hi
  obtain ⟨q, r, hq, hr, he, hI2⟩ := hS (xs (i3 + (1 : Int32)).toNatClampNeg) (xs (i3 + (2 : Int32)).toNatClampNeg) (xs (i3 + (3 : Int32)).toNatClampNeg) (xs (i3 + (4 : Int32)).toNatClampNeg) V U hVU
  refine lv_aload_n hx hb dL_law_527 rfl (lv_at hl 1 rfl) ?_
  refine lv_aload_n hx hb dL_law_528 rfl (lv_at hl 0 rfl) ?_
  refine lv_iload_n hx hb dL_law_529 rfl (lv_at hl 3 rfl) ?_
  refine lv_iconst (v := (1 : Int32)) hx hb dL_law_530 (by decide) ?_
  refine lv_iadd hx hb dL_law_531 ?_
  refine va_sld (A := AL s) hx hb hX hbl (Nat.not_le.mpr hbl) hz.2.2 h1 dL_law_532 ?_
  refine lv_aload_n hx hb dL_law_533 rfl (lv_at hl 0 rfl) ?_
  refine lv_iload_n hx hb dL_law_534 rfl (lv_at hl 3 rfl) ?_
  refine lv_iconst (v := (2 : Int32)) hx hb dL_law_535 (by decide) ?_
  refine lv_iadd hx hb dL_law_536 ?_
  refine va_sld (A := AL s) hx hb hX hbl (Nat.not_le.mpr hbl) hz.2.2 h2 dL_law_537 ?_
  refine lv_aload_n hx hb dL_law_538 rfl (lv_at hl 0 rfl) ?_
  refine lv_iload_n hx hb dL_law_539 rfl (lv_at hl 3 rfl) ?_
  refine lv_iconst (v := (3 : Int32)) hx hb dL_law_540 (by decide) ?_
  refine lv_iadd hx hb dL_law_541 ?_
  refine va_sld (A := AL s) hx hb hX hbl (Nat.not_le.mpr hbl) hz.2.2 h3 dL_law_542 ?_
  refine lv_aload_n hx hb dL_law_543 rfl (lv_at hl 0 rfl) ?_
  refine lv_iload_n hx hb dL_law_544 rfl (lv_at hl 3 rfl) ?_
  refine lv_iconst (v := (4 : Int32)) hx hb dL_law_545 (by decide) ?_
  refine lv_iadd hx hb dL_law_546 ?_
  refine va_sld (A := AL s) hx hb hX hbl (Nat.not_le.mpr hbl) hz.2.2 h4 dL_law_547 ?_
  refine y_cv (g := gX) (L := LX) (As := [.int (xs (i3 + (1 : Int32)).toNatClampNeg), .int (xs (i3 + (2 : Int32)).toNatClampNeg), .int (xs (i3 + (3 : Int32)).toNatClampNeg), .int (xs (i3 + (4 : Int32)).toNatClampNeg)]) (n := 4) (T := TX6) (N := 14) (rest := []) hx hb hml hown hT hGX hN hz.1 hz.2.2 (c_X6_change l gX hq) kdX_0 rfl rfl rfl rfl kw_455 kw_62 kw_452 kw_453 kw_454 (by decide +kernel) rfl ⟨(Nat.le_of_ble_eq_true rfl), (Nat.le_of_ble_eq_true rfl)⟩ hcs hl.1 (Nat.le_of_ble_eq_true rfl) dL_law_548 (fun H1 locs1 z1 z2 z3 => ?_)
  have hz := lk_x hB hz z1 z2 z3
  refine lv_aload_n hx hb dL_law_551 rfl (lv_at hl 2 rfl) ?_
  refine lv_aload_n hx hb dL_law_552 rfl (lv_at hl 0 rfl) ?_
  refine lv_iload_n hx hb dL_law_553 rfl (lv_at hl 3 rfl) ?_
  refine lv_iconst (v := (1 : Int32)) hx hb dL_law_554 (by decide) ?_
  refine lv_iadd hx hb dL_law_555 ?_
  refine va_sld (A := AL s) hx hb hX hbl (Nat.not_le.mpr hbl) hz.2.2 h1 dL_law_556 ?_
  refine lv_aload_n hx hb dL_law_557 rfl (lv_at hl 0 rfl) ?_
  refine lv_iload_n hx hb dL_law_558 rfl (lv_at hl 3 rfl) ?_
  refine lv_iconst (v := (2 : Int32)) hx hb dL_law_559 (by decide) ?_
  refine lv_iadd hx hb dL_law_560 ?_
  refine va_sld (A := AL s) hx hb hX hbl (Nat.not_le.mpr hbl) hz.2.2 h2 dL_law_561 ?_
  refine lv_aload_n hx hb dL_law_562 rfl (lv_at hl 0 rfl) ?_
  refine lv_iload_n hx hb dL_law_563 rfl (lv_at hl 3 rfl) ?_
  refine lv_iconst (v := (3 : Int32)) hx hb dL_law_564 (by decide) ?_
  refine lv_iadd hx hb dL_law_565 ?_
  refine va_sld (A := AL s) hx hb hX hbl (Nat.not_le.mpr hbl) hz.2.2 h3 dL_law_566 ?_
  refine lv_aload_n hx hb dL_law_567 rfl (lv_at hl 0 rfl) ?_
  refine lv_iload_n hx hb dL_law_568 rfl (lv_at hl 3 rfl) ?_
  refine lv_iconst (v := (4 : Int32)) hx hb dL_law_569 (by decide) ?_
  refine lv_iadd hx hb dL_law_570 ?_
  refine va_sld (A := AL s) hx hb hX hbl (Nat.not_le.mpr hbl) hz.2.2 h4 dL_law_571 ?_
  refine y_cv (g := gM) (L := LM) (As := [.int (xs (i3 + (1 : Int32)).toNatClampNeg), .int (xs (i3 + (2 : Int32)).toNatClampNeg), .int (xs (i3 + (3 : Int32)).toNatClampNeg), .int (xs (i3 + (4 : Int32)).toNatClampNeg)]) (n := 4) (T := TX7) (N := 30) (rest := [.int q.1]) hx hb hml hown hT hGM hN hz.2.1 hz.2.2 (c_X7_change l gM hr) kdM_0 rfl rfl rfl rfl kw_955 kw_68 kw_952 kw_953 kw_954 (by decide +kernel) rfl ⟨(Nat.le_of_ble_eq_true rfl), (Nat.le_of_ble_eq_true rfl)⟩ hcs hl.1 (Nat.le_of_ble_eq_true rfl) dL_law_572 (fun H1 locs1 z1 z2 z3 => ?_)
  have hz := lk_m hB hz z1 z2 z3
  refine lv_icmp_eq (tgt := 1307) hx hb dL_law_575 (by decide) (fun c9 => ?_) (fun c9 => absurd he c9)
  exact kk q.2 r.2 _ _ hI2 hz
set_option maxHeartbeats 4000000 in
set_option maxRecDepth 100000 in
theorem lc_style {p : Program} {l : Launch} {e : Env} {s : State} {m : MethodId} {args : Array Value} {below : List Frame} {meth : Method} {c : Code} {H : Heap} {locs : List Loc} {Q : State → Prop} {cells slots : Nat} {ls : Array Slot} {gX gM : GP} {b L : Nat} {xs : Nat → Int32} {I : Mem → Mem → Prop} (hS : S_style I) (hB : LB p s m args c gX gM b L xs) (hcs : cells ≤ room_1.cells ∧ slots ≤ room_1.slots) {i3 : Int32} (hi : vp_in (i3 + 1) L ∧ vp_in (i3 + 2) L ∧ vp_in (i3 + 3) L ∧ vp_in (i3 + 4) L ∧ vp_in (i3 + 5) L) {V U : Mem} (hVU : I V U) (hz : LK gX gM V U s H locs) (hl : lv_has ls 4 [(0, .ref b), (1, .ref (ad gX 0)), (2, .ref (ad gM 0)), (3, .int i3)])
    (kk : ∀ (V U : Mem) (H : Heap) (locs : List Loc), I V U → LK gX gM V U s H locs → W p l e room_1 s m args below meth c H locs cells slots Q (F0 m 1307 ls [])) : W p l e room_1 s m args below meth c H locs cells slots Q (F0 m 580 ls []) := by
  obtain ⟨hx, hb, hml, hown, hT, hGX, hGM, hN, hdj, hX, hbl⟩ := id hB
  obtain ⟨h1, h2, h3, h4, h5⟩ := hi
  obtain ⟨q, r, hq, hr, he, hI2⟩ := hS (xs (i3 + (1 : Int32)).toNatClampNeg) (xs (i3 + (2 : Int32)).toNatClampNeg) V U hVU
  refine lv_aload_n hx hb dL_law_580 rfl (lv_at hl 1 rfl) ?_
  refine lv_aload_n hx hb dL_law_581 rfl (lv_at hl 0 rfl) ?_
  refine lv_iload_n hx hb dL_law_582 rfl (lv_at hl 3 rfl) ?_
  refine lv_iconst (v := (1 : Int32)) hx hb dL_law_583 (by decide) ?_
  refine lv_iadd hx hb dL_law_584 ?_
  refine va_sld (A := AL s) hx hb hX hbl (Nat.not_le.mpr hbl) hz.2.2 h1 dL_law_585 ?_
  refine lv_aload_n hx hb dL_law_586 rfl (lv_at hl 0 rfl) ?_
  refine lv_iload_n hx hb dL_law_587 rfl (lv_at hl 3 rfl) ?_
  refine lv_iconst (v := (2 : Int32)) hx hb dL_law_588 (by decide) ?_
  refine lv_iadd hx hb dL_law_589 ?_
  refine va_sld (A := AL s) hx hb hX hbl (Nat.not_le.mpr hbl) hz.2.2 h2 dL_law_590 ?_
  refine y_cv (g := gX) (L := LX) (As := [.int (xs (i3 + (1 : Int32)).toNatClampNeg), .int (xs (i3 + (2 : Int32)).toNatClampNeg)]) (n := 2) (T := TX6) (N := 14) (rest := []) hx hb hml hown hT hGX hN hz.1 hz.2.2 (c_X6_style l gX hq) kdX_0 rfl rfl rfl rfl kw_460 kw_62 kw_457 kw_458 kw_459 (by decide +kernel) rfl ⟨(Nat.le_of_ble_eq_true rfl), (Nat.le_of_ble_eq_true rfl)⟩ hcs hl.1 (Nat.le_of_ble_eq_true rfl) dL_law_591 (fun H1 locs1 z1 z2 z3 => ?_)
  have hz := lk_x hB hz z1 z2 z3
  refine lv_aload_n hx hb dL_law_594 rfl (lv_at hl 2 rfl) ?_
  refine lv_aload_n hx hb dL_law_595 rfl (lv_at hl 0 rfl) ?_
  refine lv_iload_n hx hb dL_law_596 rfl (lv_at hl 3 rfl) ?_
  refine lv_iconst (v := (1 : Int32)) hx hb dL_law_597 (by decide) ?_
  refine lv_iadd hx hb dL_law_598 ?_
  refine va_sld (A := AL s) hx hb hX hbl (Nat.not_le.mpr hbl) hz.2.2 h1 dL_law_599 ?_
  refine lv_aload_n hx hb dL_law_600 rfl (lv_at hl 0 rfl) ?_
  refine lv_iload_n hx hb dL_law_601 rfl (lv_at hl 3 rfl) ?_
  refine lv_iconst (v := (2 : Int32)) hx hb dL_law_602 (by decide) ?_
  refine lv_iadd hx hb dL_law_603 ?_
  refine va_sld (A := AL s) hx hb hX hbl (Nat.not_le.mpr hbl) hz.2.2 h2 dL_law_604 ?_
  refine y_cv (g := gM) (L := LM) (As := [.int (xs (i3 + (1 : Int32)).toNatClampNeg), .int (xs (i3 + (2 : Int32)).toNatClampNeg)]) (n := 2) (T := TX7) (N := 30) (rest := [.int q.1]) hx hb hml hown hT hGM hN hz.2.1 hz.2.2 (c_X7_style l gM hr) kdM_0 rfl rfl rfl rfl kw_959 kw_68 kw_956 kw_957 kw_958 (by decide +kernel) rfl ⟨(Nat.le_of_ble_eq_true rfl), (Nat.le_of_ble_eq_true rfl)⟩ hcs hl.1 (Nat.le_of_ble_eq_true rfl) dL_law_605 (fun H1 locs1 z1 z2 z3 => ?_)
  have hz := lk_m hB hz z1 z2 z3
  refine lv_icmp_eq (tgt := 1307) hx hb dL_law_608 (by decide) (fun c9 => ?_) (fun c9 => absurd he c9)
  exact kk q.2 r.2 _ _ hI2 hz
set_option maxHeartbeats 4000000 in
set_option maxRecDepth 100000 in
theorem lc_paragraph {p : Program} {l : Launch} {e : Env} {s : State} {m : MethodId} {args : Array Value} {below : List Frame} {meth : Method} {c : Code} {H : Heap} {locs : List Loc} {Q : State → Prop} {cells slots : Nat} {ls : Array Slot} {gX gM : GP} {b L : Nat} {xs : Nat → Int32} {I : Mem → Mem → Prop} (hS : S_paragraph I) (hB : LB p s m args c gX gM b L xs) (hcs : cells ≤ room_1.cells ∧ slots ≤ room_1.slots) {i3 : Int32} (hi : vp_in (i3 + 1) L ∧ vp_in (i3 + 2) L ∧ vp_in (i3 + 3) L ∧ vp_in (i3 + 4) L ∧ vp_in (i3 + 5) L) {V U : Mem} (hVU : I V U) (hz : LK gX gM V U s H locs) (hl : lv_has ls 4 [(0, .ref b), (1, .ref (ad gX 0)), (2, .ref (ad gM 0)), (3, .int i3)])
    (kk : ∀ (V U : Mem) (H : Heap) (locs : List Loc), I V U → LK gX gM V U s H locs → W p l e room_1 s m args below meth c H locs cells slots Q (F0 m 1307 ls [])) : W p l e room_1 s m args below meth c H locs cells slots Q (F0 m 613 ls []) := by
  obtain ⟨hx, hb, hml, hown, hT, hGX, hGM, hN, hdj, hX, hbl⟩ := id hB
  obtain ⟨h1, h2, h3, h4, h5⟩ := hi
  obtain ⟨q, r, hq, hr, he, hI2⟩ := hS (xs (i3 + (1 : Int32)).toNatClampNeg) (xs (i3 + (2 : Int32)).toNatClampNeg) V U hVU
  refine lv_aload_n hx hb dL_law_613 rfl (lv_at hl 1 rfl) ?_
  refine lv_aload_n hx hb dL_law_614 rfl (lv_at hl 0 rfl) ?_
  refine lv_iload_n hx hb dL_law_615 rfl (lv_at hl 3 rfl) ?_
  refine lv_iconst (v := (1 : Int32)) hx hb dL_law_616 (by decide) ?_
  refine lv_iadd hx hb dL_law_617 ?_
  refine va_sld (A := AL s) hx hb hX hbl (Nat.not_le.mpr hbl) hz.2.2 h1 dL_law_618 ?_
  refine lv_aload_n hx hb dL_law_619 rfl (lv_at hl 0 rfl) ?_
  refine lv_iload_n hx hb dL_law_620 rfl (lv_at hl 3 rfl) ?_
  refine lv_iconst (v := (2 : Int32)) hx hb dL_law_621 (by decide) ?_
  refine lv_iadd hx hb dL_law_622 ?_
  refine va_sld (A := AL s) hx hb hX hbl (Nat.not_le.mpr hbl) hz.2.2 h2 dL_law_623 ?_
  refine y_cv (g := gX) (L := LX) (As := [.int (xs (i3 + (1 : Int32)).toNatClampNeg), .int (xs (i3 + (2 : Int32)).toNatClampNeg)]) (n := 2) (T := TX6) (N := 14) (rest := []) hx hb hml hown hT hGX hN hz.1 hz.2.2 (c_X6_paragraph l gX hq) kdX_0 rfl rfl rfl rfl kw_464 kw_62 kw_461 kw_462 kw_463 (by decide +kernel) rfl ⟨(Nat.le_of_ble_eq_true rfl), (Nat.le_of_ble_eq_true rfl)⟩ hcs hl.1 (Nat.le_of_ble_eq_true rfl) dL_law_624 (fun H1 locs1 z1 z2 z3 => ?_)
  have hz := lk_x hB hz z1 z2 z3
  refine lv_aload_n hx hb dL_law_627 rfl (lv_at hl 2 rfl) ?_
  refine lv_aload_n hx hb dL_law_628 rfl (lv_at hl 0 rfl) ?_
  refine lv_iload_n hx hb dL_law_629 rfl (lv_at hl 3 rfl) ?_
  refine lv_iconst (v := (1 : Int32)) hx hb dL_law_630 (by decide) ?_
  refine lv_iadd hx hb dL_law_631 ?_
  refine va_sld (A := AL s) hx hb hX hbl (Nat.not_le.mpr hbl) hz.2.2 h1 dL_law_632 ?_
  refine lv_aload_n hx hb dL_law_633 rfl (lv_at hl 0 rfl) ?_
  refine lv_iload_n hx hb dL_law_634 rfl (lv_at hl 3 rfl) ?_
  refine lv_iconst (v := (2 : Int32)) hx hb dL_law_635 (by decide) ?_
  refine lv_iadd hx hb dL_law_636 ?_
  refine va_sld (A := AL s) hx hb hX hbl (Nat.not_le.mpr hbl) hz.2.2 h2 dL_law_637 ?_
  refine y_cv (g := gM) (L := LM) (As := [.int (xs (i3 + (1 : Int32)).toNatClampNeg), .int (xs (i3 + (2 : Int32)).toNatClampNeg)]) (n := 2) (T := TX7) (N := 30) (rest := [.int q.1]) hx hb hml hown hT hGM hN hz.2.1 hz.2.2 (c_X7_paragraph l gM hr) kdM_0 rfl rfl rfl rfl kw_968 kw_68 kw_965 kw_966 kw_967 (by decide +kernel) rfl ⟨(Nat.le_of_ble_eq_true rfl), (Nat.le_of_ble_eq_true rfl)⟩ hcs hl.1 (Nat.le_of_ble_eq_true rfl) dL_law_638 (fun H1 locs1 z1 z2 z3 => ?_)
  have hz := lk_m hB hz z1 z2 z3
  refine lv_icmp_eq (tgt := 1307) hx hb dL_law_641 (by decide) (fun c9 => ?_) (fun c9 => absurd he c9)
  exact kk q.2 r.2 _ _ hI2 hz
set_option maxHeartbeats 4000000 in
set_option maxRecDepth 100000 in
theorem lc_label {p : Program} {l : Launch} {e : Env} {s : State} {m : MethodId} {args : Array Value} {below : List Frame} {meth : Method} {c : Code} {H : Heap} {locs : List Loc} {Q : State → Prop} {cells slots : Nat} {ls : Array Slot} {gX gM : GP} {b L : Nat} {xs : Nat → Int32} {I : Mem → Mem → Prop} (hS : S_label I) (hB : LB p s m args c gX gM b L xs) (hcs : cells ≤ room_1.cells ∧ slots ≤ room_1.slots) {i3 : Int32} (hi : vp_in (i3 + 1) L ∧ vp_in (i3 + 2) L ∧ vp_in (i3 + 3) L ∧ vp_in (i3 + 4) L ∧ vp_in (i3 + 5) L) {V U : Mem} (hVU : I V U) (hz : LK gX gM V U s H locs) (hl : lv_has ls 4 [(0, .ref b), (1, .ref (ad gX 0)), (2, .ref (ad gM 0)), (3, .int i3)])
    (kk : ∀ (V U : Mem) (H : Heap) (locs : List Loc), I V U → LK gX gM V U s H locs → W p l e room_1 s m args below meth c H locs cells slots Q (F0 m 1307 ls [])) : W p l e room_1 s m args below meth c H locs cells slots Q (F0 m 646 ls []) := by
  obtain ⟨hx, hb, hml, hown, hT, hGX, hGM, hN, hdj, hX, hbl⟩ := id hB
  obtain ⟨h1, h2, h3, h4, h5⟩ := hi
  obtain ⟨q, r, hq, hr, he, hI2⟩ := hS (xs (i3 + (1 : Int32)).toNatClampNeg) (xs (i3 + (2 : Int32)).toNatClampNeg) (xs (i3 + (3 : Int32)).toNatClampNeg) V U hVU
  refine lv_aload_n hx hb dL_law_646 rfl (lv_at hl 1 rfl) ?_
  refine lv_aload_n hx hb dL_law_647 rfl (lv_at hl 0 rfl) ?_
  refine lv_iload_n hx hb dL_law_648 rfl (lv_at hl 3 rfl) ?_
  refine lv_iconst (v := (1 : Int32)) hx hb dL_law_649 (by decide) ?_
  refine lv_iadd hx hb dL_law_650 ?_
  refine va_sld (A := AL s) hx hb hX hbl (Nat.not_le.mpr hbl) hz.2.2 h1 dL_law_651 ?_
  refine lv_aload_n hx hb dL_law_652 rfl (lv_at hl 0 rfl) ?_
  refine lv_iload_n hx hb dL_law_653 rfl (lv_at hl 3 rfl) ?_
  refine lv_iconst (v := (2 : Int32)) hx hb dL_law_654 (by decide) ?_
  refine lv_iadd hx hb dL_law_655 ?_
  refine va_sld (A := AL s) hx hb hX hbl (Nat.not_le.mpr hbl) hz.2.2 h2 dL_law_656 ?_
  refine lv_aload_n hx hb dL_law_657 rfl (lv_at hl 0 rfl) ?_
  refine lv_iload_n hx hb dL_law_658 rfl (lv_at hl 3 rfl) ?_
  refine lv_iconst (v := (3 : Int32)) hx hb dL_law_659 (by decide) ?_
  refine lv_iadd hx hb dL_law_660 ?_
  refine va_sld (A := AL s) hx hb hX hbl (Nat.not_le.mpr hbl) hz.2.2 h3 dL_law_661 ?_
  refine y_cv (g := gX) (L := LX) (As := [.int (xs (i3 + (1 : Int32)).toNatClampNeg), .int (xs (i3 + (2 : Int32)).toNatClampNeg), .int (xs (i3 + (3 : Int32)).toNatClampNeg)]) (n := 3) (T := TX6) (N := 14) (rest := []) hx hb hml hown hT hGX hN hz.1 hz.2.2 (c_X6_label l gX hq) kdX_0 rfl rfl rfl rfl kw_522 kw_62 kw_519 kw_520 kw_521 (by decide +kernel) rfl ⟨(Nat.le_of_ble_eq_true rfl), (Nat.le_of_ble_eq_true rfl)⟩ hcs hl.1 (Nat.le_of_ble_eq_true rfl) dL_law_662 (fun H1 locs1 z1 z2 z3 => ?_)
  have hz := lk_x hB hz z1 z2 z3
  refine lv_aload_n hx hb dL_law_665 rfl (lv_at hl 2 rfl) ?_
  refine lv_aload_n hx hb dL_law_666 rfl (lv_at hl 0 rfl) ?_
  refine lv_iload_n hx hb dL_law_667 rfl (lv_at hl 3 rfl) ?_
  refine lv_iconst (v := (1 : Int32)) hx hb dL_law_668 (by decide) ?_
  refine lv_iadd hx hb dL_law_669 ?_
  refine va_sld (A := AL s) hx hb hX hbl (Nat.not_le.mpr hbl) hz.2.2 h1 dL_law_670 ?_
  refine lv_aload_n hx hb dL_law_671 rfl (lv_at hl 0 rfl) ?_
  refine lv_iload_n hx hb dL_law_672 rfl (lv_at hl 3 rfl) ?_
  refine lv_iconst (v := (2 : Int32)) hx hb dL_law_673 (by decide) ?_
  refine lv_iadd hx hb dL_law_674 ?_
  refine va_sld (A := AL s) hx hb hX hbl (Nat.not_le.mpr hbl) hz.2.2 h2 dL_law_675 ?_
  refine lv_aload_n hx hb dL_law_676 rfl (lv_at hl 0 rfl) ?_
  refine lv_iload_n hx hb dL_law_677 rfl (lv_at hl 3 rfl) ?_
  refine lv_iconst (v := (3 : Int32)) hx hb dL_law_678 (by decide) ?_
  refine lv_iadd hx hb dL_law_679 ?_
  refine va_sld (A := AL s) hx hb hX hbl (Nat.not_le.mpr hbl) hz.2.2 h3 dL_law_680 ?_
  refine y_cv (g := gM) (L := LM) (As := [.int (xs (i3 + (1 : Int32)).toNatClampNeg), .int (xs (i3 + (2 : Int32)).toNatClampNeg), .int (xs (i3 + (3 : Int32)).toNatClampNeg)]) (n := 3) (T := TX7) (N := 30) (rest := [.int q.1]) hx hb hml hown hT hGM hN hz.2.1 hz.2.2 (c_X7_label l gM hr) kdM_0 rfl rfl rfl rfl kw_1011 kw_68 kw_1008 kw_1009 kw_1010 (by decide +kernel) rfl ⟨(Nat.le_of_ble_eq_true rfl), (Nat.le_of_ble_eq_true rfl)⟩ hcs hl.1 (Nat.le_of_ble_eq_true rfl) dL_law_681 (fun H1 locs1 z1 z2 z3 => ?_)
  have hz := lk_m hB hz z1 z2 z3
  refine lv_icmp_eq (tgt := 1307) hx hb dL_law_684 (by decide) (fun c9 => ?_) (fun c9 => absurd he c9)
  exact kk q.2 r.2 _ _ hI2 hz
set_option maxHeartbeats 4000000 in
set_option maxRecDepth 100000 in
theorem lc_called {p : Program} {l : Launch} {e : Env} {s : State} {m : MethodId} {args : Array Value} {below : List Frame} {meth : Method} {c : Code} {H : Heap} {locs : List Loc} {Q : State → Prop} {cells slots : Nat} {ls : Array Slot} {gX gM : GP} {b L : Nat} {xs : Nat → Int32} {I : Mem → Mem → Prop} (hS : S_called I) (hB : LB p s m args c gX gM b L xs) (hcs : cells ≤ room_1.cells ∧ slots ≤ room_1.slots) {i3 : Int32} (hi : vp_in (i3 + 1) L ∧ vp_in (i3 + 2) L ∧ vp_in (i3 + 3) L ∧ vp_in (i3 + 4) L ∧ vp_in (i3 + 5) L) {V U : Mem} (hVU : I V U) (hz : LK gX gM V U s H locs) (hl : lv_has ls 4 [(0, .ref b), (1, .ref (ad gX 0)), (2, .ref (ad gM 0)), (3, .int i3)])
    (kk : ∀ (V U : Mem) (H : Heap) (locs : List Loc), I V U → LK gX gM V U s H locs → W p l e room_1 s m args below meth c H locs cells slots Q (F0 m 1307 ls [])) : W p l e room_1 s m args below meth c H locs cells slots Q (F0 m 689 ls []) := by
  obtain ⟨hx, hb, hml, hown, hT, hGX, hGM, hN, hdj, hX, hbl⟩ := id hB
  obtain ⟨h1, h2, h3, h4, h5⟩ := hi
  obtain ⟨q, r, hq, hr, he, hI2⟩ := hS (xs (i3 + (1 : Int32)).toNatClampNeg) (xs (i3 + (2 : Int32)).toNatClampNeg) (xs (i3 + (3 : Int32)).toNatClampNeg) V U hVU
  refine lv_aload_n hx hb dL_law_689 rfl (lv_at hl 1 rfl) ?_
  refine lv_aload_n hx hb dL_law_690 rfl (lv_at hl 0 rfl) ?_
  refine lv_iload_n hx hb dL_law_691 rfl (lv_at hl 3 rfl) ?_
  refine lv_iconst (v := (1 : Int32)) hx hb dL_law_692 (by decide) ?_
  refine lv_iadd hx hb dL_law_693 ?_
  refine va_sld (A := AL s) hx hb hX hbl (Nat.not_le.mpr hbl) hz.2.2 h1 dL_law_694 ?_
  refine lv_aload_n hx hb dL_law_695 rfl (lv_at hl 0 rfl) ?_
  refine lv_iload_n hx hb dL_law_696 rfl (lv_at hl 3 rfl) ?_
  refine lv_iconst (v := (2 : Int32)) hx hb dL_law_697 (by decide) ?_
  refine lv_iadd hx hb dL_law_698 ?_
  refine va_sld (A := AL s) hx hb hX hbl (Nat.not_le.mpr hbl) hz.2.2 h2 dL_law_699 ?_
  refine lv_aload_n hx hb dL_law_700 rfl (lv_at hl 0 rfl) ?_
  refine lv_iload_n hx hb dL_law_701 rfl (lv_at hl 3 rfl) ?_
  refine lv_iconst (v := (3 : Int32)) hx hb dL_law_702 (by decide) ?_
  refine lv_iadd hx hb dL_law_703 ?_
  refine va_sld (A := AL s) hx hb hX hbl (Nat.not_le.mpr hbl) hz.2.2 h3 dL_law_704 ?_
  refine y_cv (g := gX) (L := LX) (As := [.int (xs (i3 + (1 : Int32)).toNatClampNeg), .int (xs (i3 + (2 : Int32)).toNatClampNeg), .int (xs (i3 + (3 : Int32)).toNatClampNeg)]) (n := 3) (T := TX6) (N := 14) (rest := []) hx hb hml hown hT hGX hN hz.1 hz.2.2 (c_X6_called l gX hq) kdX_0 rfl rfl rfl rfl kw_531 kw_62 kw_528 kw_529 kw_530 (by decide +kernel) rfl ⟨(Nat.le_of_ble_eq_true rfl), (Nat.le_of_ble_eq_true rfl)⟩ hcs hl.1 (Nat.le_of_ble_eq_true rfl) dL_law_705 (fun H1 locs1 z1 z2 z3 => ?_)
  have hz := lk_x hB hz z1 z2 z3
  refine lv_aload_n hx hb dL_law_708 rfl (lv_at hl 2 rfl) ?_
  refine lv_aload_n hx hb dL_law_709 rfl (lv_at hl 0 rfl) ?_
  refine lv_iload_n hx hb dL_law_710 rfl (lv_at hl 3 rfl) ?_
  refine lv_iconst (v := (1 : Int32)) hx hb dL_law_711 (by decide) ?_
  refine lv_iadd hx hb dL_law_712 ?_
  refine va_sld (A := AL s) hx hb hX hbl (Nat.not_le.mpr hbl) hz.2.2 h1 dL_law_713 ?_
  refine lv_aload_n hx hb dL_law_714 rfl (lv_at hl 0 rfl) ?_
  refine lv_iload_n hx hb dL_law_715 rfl (lv_at hl 3 rfl) ?_
  refine lv_iconst (v := (2 : Int32)) hx hb dL_law_716 (by decide) ?_
  refine lv_iadd hx hb dL_law_717 ?_
  refine va_sld (A := AL s) hx hb hX hbl (Nat.not_le.mpr hbl) hz.2.2 h2 dL_law_718 ?_
  refine lv_aload_n hx hb dL_law_719 rfl (lv_at hl 0 rfl) ?_
  refine lv_iload_n hx hb dL_law_720 rfl (lv_at hl 3 rfl) ?_
  refine lv_iconst (v := (3 : Int32)) hx hb dL_law_721 (by decide) ?_
  refine lv_iadd hx hb dL_law_722 ?_
  refine va_sld (A := AL s) hx hb hX hbl (Nat.not_le.mpr hbl) hz.2.2 h3 dL_law_723 ?_
  refine y_cv (g := gM) (L := LM) (As := [.int (xs (i3 + (1 : Int32)).toNatClampNeg), .int (xs (i3 + (2 : Int32)).toNatClampNeg), .int (xs (i3 + (3 : Int32)).toNatClampNeg)]) (n := 3) (T := TX7) (N := 30) (rest := [.int q.1]) hx hb hml hown hT hGM hN hz.2.1 hz.2.2 (c_X7_called l gM hr) kdM_0 rfl rfl rfl rfl kw_1019 kw_68 kw_1016 kw_1017 kw_1018 (by decide +kernel) rfl ⟨(Nat.le_of_ble_eq_true rfl), (Nat.le_of_ble_eq_true rfl)⟩ hcs hl.1 (Nat.le_of_ble_eq_true rfl) dL_law_724 (fun H1 locs1 z1 z2 z3 => ?_)
  have hz := lk_m hB hz z1 z2 z3
  refine lv_icmp_eq (tgt := 1307) hx hb dL_law_727 (by decide) (fun c9 => ?_) (fun c9 => absurd he c9)
  exact kk q.2 r.2 _ _ hI2 hz
set_option maxHeartbeats 4000000 in
set_option maxRecDepth 100000 in
theorem lc_span {p : Program} {l : Launch} {e : Env} {s : State} {m : MethodId} {args : Array Value} {below : List Frame} {meth : Method} {c : Code} {H : Heap} {locs : List Loc} {Q : State → Prop} {cells slots : Nat} {ls : Array Slot} {gX gM : GP} {b L : Nat} {xs : Nat → Int32} {I : Mem → Mem → Prop} (hS : S_span I) (hB : LB p s m args c gX gM b L xs) (hcs : cells ≤ room_1.cells ∧ slots ≤ room_1.slots) {i3 : Int32} (hi : vp_in (i3 + 1) L ∧ vp_in (i3 + 2) L ∧ vp_in (i3 + 3) L ∧ vp_in (i3 + 4) L ∧ vp_in (i3 + 5) L) {V U : Mem} (hVU : I V U) (hz : LK gX gM V U s H locs) (hl : lv_has ls 4 [(0, .ref b), (1, .ref (ad gX 0)), (2, .ref (ad gM 0)), (3, .int i3)])
    (kk : ∀ (V U : Mem) (H : Heap) (locs : List Loc), I V U → LK gX gM V U s H locs → W p l e room_1 s m args below meth c H locs cells slots Q (F0 m 1307 ls [])) : W p l e room_1 s m args below meth c H locs cells slots Q (F0 m 732 ls []) := by
  obtain ⟨hx, hb, hml, hown, hT, hGX, hGM, hN, hdj, hX, hbl⟩ := id hB
  obtain ⟨h1, h2, h3, h4, h5⟩ := hi
  obtain ⟨q, r, hq, hr, he, hI2⟩ := hS (xs (i3 + (1 : Int32)).toNatClampNeg) (xs (i3 + (2 : Int32)).toNatClampNeg) (xs (i3 + (3 : Int32)).toNatClampNeg) (xs (i3 + (4 : Int32)).toNatClampNeg) V U hVU
  refine lv_aload_n hx hb dL_law_732 rfl (lv_at hl 1 rfl) ?_
  refine lv_aload_n hx hb dL_law_733 rfl (lv_at hl 0 rfl) ?_
  refine lv_iload_n hx hb dL_law_734 rfl (lv_at hl 3 rfl) ?_
  refine lv_iconst (v := (1 : Int32)) hx hb dL_law_735 (by decide) ?_
  refine lv_iadd hx hb dL_law_736 ?_
  refine va_sld (A := AL s) hx hb hX hbl (Nat.not_le.mpr hbl) hz.2.2 h1 dL_law_737 ?_
  refine lv_aload_n hx hb dL_law_738 rfl (lv_at hl 0 rfl) ?_
  refine lv_iload_n hx hb dL_law_739 rfl (lv_at hl 3 rfl) ?_
  refine lv_iconst (v := (2 : Int32)) hx hb dL_law_740 (by decide) ?_
  refine lv_iadd hx hb dL_law_741 ?_
  refine va_sld (A := AL s) hx hb hX hbl (Nat.not_le.mpr hbl) hz.2.2 h2 dL_law_742 ?_
  refine lv_aload_n hx hb dL_law_743 rfl (lv_at hl 0 rfl) ?_
  refine lv_iload_n hx hb dL_law_744 rfl (lv_at hl 3 rfl) ?_
  refine lv_iconst (v := (3 : Int32)) hx hb dL_law_745 (by decide) ?_
  refine lv_iadd hx hb dL_law_746 ?_
  refine va_sld (A := AL s) hx hb hX hbl (Nat.not_le.mpr hbl) hz.2.2 h3 dL_law_747 ?_
  refine lv_aload_n hx hb dL_law_748 rfl (lv_at hl 0 rfl) ?_
  refine lv_iload_n hx hb dL_law_749 rfl (lv_at hl 3 rfl) ?_
  refine lv_iconst (v := (4 : Int32)) hx hb dL_law_750 (by decide) ?_
  refine lv_iadd hx hb dL_law_751 ?_
  refine va_sld (A := AL s) hx hb hX hbl (Nat.not_le.mpr hbl) hz.2.2 h4 dL_law_752 ?_
  refine y_cv (g := gX) (L := LX) (As := [.int (xs (i3 + (1 : Int32)).toNatClampNeg), .int (xs (i3 + (2 : Int32)).toNatClampNeg), .int (xs (i3 + (3 : Int32)).toNatClampNeg), .int (xs (i3 + (4 : Int32)).toNatClampNeg)]) (n := 4) (T := TX6) (N := 14) (rest := []) hx hb hml hown hT hGX hN hz.1 hz.2.2 (c_X6_span l gX hq) kdX_0 rfl rfl rfl rfl kw_535 kw_62 kw_532 kw_533 kw_534 (by decide +kernel) rfl ⟨(Nat.le_of_ble_eq_true rfl), (Nat.le_of_ble_eq_true rfl)⟩ hcs hl.1 (Nat.le_of_ble_eq_true rfl) dL_law_753 (fun H1 locs1 z1 z2 z3 => ?_)
  have hz := lk_x hB hz z1 z2 z3
  refine lv_aload_n hx hb dL_law_756 rfl (lv_at hl 2 rfl) ?_
  refine lv_aload_n hx hb dL_law_757 rfl (lv_at hl 0 rfl) ?_
  refine lv_iload_n hx hb dL_law_758 rfl (lv_at hl 3 rfl) ?_
  refine lv_iconst (v := (1 : Int32)) hx hb dL_law_759 (by decide) ?_
  refine lv_iadd hx hb dL_law_760 ?_
  refine va_sld (A := AL s) hx hb hX hbl (Nat.not_le.mpr hbl) hz.2.2 h1 dL_law_761 ?_
  refine lv_aload_n hx hb dL_law_762 rfl (lv_at hl 0 rfl) ?_
  refine lv_iload_n hx hb dL_law_763 rfl (lv_at hl 3 rfl) ?_
  refine lv_iconst (v := (2 : Int32)) hx hb dL_law_764 (by decide) ?_
  refine lv_iadd hx hb dL_law_765 ?_
  refine va_sld (A := AL s) hx hb hX hbl (Nat.not_le.mpr hbl) hz.2.2 h2 dL_law_766 ?_
  refine lv_aload_n hx hb dL_law_767 rfl (lv_at hl 0 rfl) ?_
  refine lv_iload_n hx hb dL_law_768 rfl (lv_at hl 3 rfl) ?_
  refine lv_iconst (v := (3 : Int32)) hx hb dL_law_769 (by decide) ?_
  refine lv_iadd hx hb dL_law_770 ?_
  refine va_sld (A := AL s) hx hb hX hbl (Nat.not_le.mpr hbl) hz.2.2 h3 dL_law_771 ?_
  refine lv_aload_n hx hb dL_law_772 rfl (lv_at hl 0 rfl) ?_
  refine lv_iload_n hx hb dL_law_773 rfl (lv_at hl 3 rfl) ?_
  refine lv_iconst (v := (4 : Int32)) hx hb dL_law_774 (by decide) ?_
  refine lv_iadd hx hb dL_law_775 ?_
  refine va_sld (A := AL s) hx hb hX hbl (Nat.not_le.mpr hbl) hz.2.2 h4 dL_law_776 ?_
  refine y_cv (g := gM) (L := LM) (As := [.int (xs (i3 + (1 : Int32)).toNatClampNeg), .int (xs (i3 + (2 : Int32)).toNatClampNeg), .int (xs (i3 + (3 : Int32)).toNatClampNeg), .int (xs (i3 + (4 : Int32)).toNatClampNeg)]) (n := 4) (T := TX7) (N := 30) (rest := [.int q.1]) hx hb hml hown hT hGM hN hz.2.1 hz.2.2 (c_X7_span l gM hr) kdM_0 rfl rfl rfl rfl kw_1023 kw_68 kw_1020 kw_1021 kw_1022 (by decide +kernel) rfl ⟨(Nat.le_of_ble_eq_true rfl), (Nat.le_of_ble_eq_true rfl)⟩ hcs hl.1 (Nat.le_of_ble_eq_true rfl) dL_law_777 (fun H1 locs1 z1 z2 z3 => ?_)
  have hz := lk_m hB hz z1 z2 z3
  refine lv_icmp_eq (tgt := 1307) hx hb dL_law_780 (by decide) (fun c9 => ?_) (fun c9 => absurd he c9)
  exact kk q.2 r.2 _ _ hI2 hz
set_option maxHeartbeats 4000000 in
set_option maxRecDepth 100000 in
theorem lc_register {p : Program} {l : Launch} {e : Env} {s : State} {m : MethodId} {args : Array Value} {below : List Frame} {meth : Method} {c : Code} {H : Heap} {locs : List Loc} {Q : State → Prop} {cells slots : Nat} {ls : Array Slot} {gX gM : GP} {b L : Nat} {xs : Nat → Int32} {I : Mem → Mem → Prop} (hS : S_register I) (hB : LB p s m args c gX gM b L xs) (hcs : cells ≤ room_1.cells ∧ slots ≤ room_1.slots) {i3 : Int32} (hi : vp_in (i3 + 1) L ∧ vp_in (i3 + 2) L ∧ vp_in (i3 + 3) L ∧ vp_in (i3 + 4) L ∧ vp_in (i3 + 5) L) {V U : Mem} (hVU : I V U) (hz : LK gX gM V U s H locs) (hl : lv_has ls 4 [(0, .ref b), (1, .ref (ad gX 0)), (2, .ref (ad gM 0)), (3, .int i3)])
    (kk : ∀ (V U : Mem) (H : Heap) (locs : List Loc), I V U → LK gX gM V U s H locs → W p l e room_1 s m args below meth c H locs cells slots Q (F0 m 1307 ls [])) : W p l e room_1 s m args below meth c H locs cells slots Q (F0 m 785 ls []) := by
  obtain ⟨hx, hb, hml, hown, hT, hGX, hGM, hN, hdj, hX, hbl⟩ := id hB
  obtain ⟨h1, h2, h3, h4, h5⟩ := hi
  obtain ⟨q, r, hq, hr, he, hI2⟩ := hS (xs (i3 + (1 : Int32)).toNatClampNeg) V U hVU
  refine lv_aload_n hx hb dL_law_785 rfl (lv_at hl 1 rfl) ?_
  refine lv_aload_n hx hb dL_law_786 rfl (lv_at hl 0 rfl) ?_
  refine lv_iload_n hx hb dL_law_787 rfl (lv_at hl 3 rfl) ?_
  refine lv_iconst (v := (1 : Int32)) hx hb dL_law_788 (by decide) ?_
  refine lv_iadd hx hb dL_law_789 ?_
  refine va_sld (A := AL s) hx hb hX hbl (Nat.not_le.mpr hbl) hz.2.2 h1 dL_law_790 ?_
  refine y_cv (g := gX) (L := LX) (As := [.int (xs (i3 + (1 : Int32)).toNatClampNeg)]) (n := 1) (T := TX6) (N := 14) (rest := []) hx hb hml hown hT hGX hN hz.1 hz.2.2 (c_X6_register l gX hq) kdX_0 rfl rfl rfl rfl kw_552 kw_62 kw_549 kw_550 kw_551 (by decide +kernel) rfl ⟨(Nat.le_of_ble_eq_true rfl), (Nat.le_of_ble_eq_true rfl)⟩ hcs hl.1 (Nat.le_of_ble_eq_true rfl) dL_law_791 (fun H1 locs1 z1 z2 z3 => ?_)
  have hz := lk_x hB hz z1 z2 z3
  refine lv_aload_n hx hb dL_law_794 rfl (lv_at hl 2 rfl) ?_
  refine lv_aload_n hx hb dL_law_795 rfl (lv_at hl 0 rfl) ?_
  refine lv_iload_n hx hb dL_law_796 rfl (lv_at hl 3 rfl) ?_
  refine lv_iconst (v := (1 : Int32)) hx hb dL_law_797 (by decide) ?_
  refine lv_iadd hx hb dL_law_798 ?_
  refine va_sld (A := AL s) hx hb hX hbl (Nat.not_le.mpr hbl) hz.2.2 h1 dL_law_799 ?_
  refine y_cv (g := gM) (L := LM) (As := [.int (xs (i3 + (1 : Int32)).toNatClampNeg)]) (n := 1) (T := TX7) (N := 30) (rest := [.int q.1]) hx hb hml hown hT hGM hN hz.2.1 hz.2.2 (c_X7_register l gM hr) kdM_0 rfl rfl rfl rfl kw_1027 kw_68 kw_1024 kw_1025 kw_1026 (by decide +kernel) rfl ⟨(Nat.le_of_ble_eq_true rfl), (Nat.le_of_ble_eq_true rfl)⟩ hcs hl.1 (Nat.le_of_ble_eq_true rfl) dL_law_800 (fun H1 locs1 z1 z2 z3 => ?_)
  have hz := lk_m hB hz z1 z2 z3
  refine lv_icmp_eq (tgt := 1307) hx hb dL_law_803 (by decide) (fun c9 => ?_) (fun c9 => absurd he c9)
  exact kk q.2 r.2 _ _ hI2 hz
set_option maxHeartbeats 4000000 in
set_option maxRecDepth 100000 in
theorem lc_bears {p : Program} {l : Launch} {e : Env} {s : State} {m : MethodId} {args : Array Value} {below : List Frame} {meth : Method} {c : Code} {H : Heap} {locs : List Loc} {Q : State → Prop} {cells slots : Nat} {ls : Array Slot} {gX gM : GP} {b L : Nat} {xs : Nat → Int32} {I : Mem → Mem → Prop} (hS : S_bears I) (hB : LB p s m args c gX gM b L xs) (hcs : cells ≤ room_1.cells ∧ slots ≤ room_1.slots) {i3 : Int32} (hi : vp_in (i3 + 1) L ∧ vp_in (i3 + 2) L ∧ vp_in (i3 + 3) L ∧ vp_in (i3 + 4) L ∧ vp_in (i3 + 5) L) {V U : Mem} (hVU : I V U) (hz : LK gX gM V U s H locs) (hl : lv_has ls 4 [(0, .ref b), (1, .ref (ad gX 0)), (2, .ref (ad gM 0)), (3, .int i3)])
    (kk : ∀ (V U : Mem) (H : Heap) (locs : List Loc), I V U → LK gX gM V U s H locs → W p l e room_1 s m args below meth c H locs cells slots Q (F0 m 1307 ls [])) : W p l e room_1 s m args below meth c H locs cells slots Q (F0 m 808 ls []) := by
  obtain ⟨hx, hb, hml, hown, hT, hGX, hGM, hN, hdj, hX, hbl⟩ := id hB
  obtain ⟨h1, h2, h3, h4, h5⟩ := hi
  obtain ⟨q, r, hq, hr, he, hI2⟩ := hS (xs (i3 + (1 : Int32)).toNatClampNeg) (xs (i3 + (2 : Int32)).toNatClampNeg) (xs (i3 + (3 : Int32)).toNatClampNeg) V U hVU
  refine lv_aload_n hx hb dL_law_808 rfl (lv_at hl 1 rfl) ?_
  refine lv_aload_n hx hb dL_law_809 rfl (lv_at hl 0 rfl) ?_
  refine lv_iload_n hx hb dL_law_810 rfl (lv_at hl 3 rfl) ?_
  refine lv_iconst (v := (1 : Int32)) hx hb dL_law_811 (by decide) ?_
  refine lv_iadd hx hb dL_law_812 ?_
  refine va_sld (A := AL s) hx hb hX hbl (Nat.not_le.mpr hbl) hz.2.2 h1 dL_law_813 ?_
  refine lv_aload_n hx hb dL_law_814 rfl (lv_at hl 0 rfl) ?_
  refine lv_iload_n hx hb dL_law_815 rfl (lv_at hl 3 rfl) ?_
  refine lv_iconst (v := (2 : Int32)) hx hb dL_law_816 (by decide) ?_
  refine lv_iadd hx hb dL_law_817 ?_
  refine va_sld (A := AL s) hx hb hX hbl (Nat.not_le.mpr hbl) hz.2.2 h2 dL_law_818 ?_
  refine lv_aload_n hx hb dL_law_819 rfl (lv_at hl 0 rfl) ?_
  refine lv_iload_n hx hb dL_law_820 rfl (lv_at hl 3 rfl) ?_
  refine lv_iconst (v := (3 : Int32)) hx hb dL_law_821 (by decide) ?_
  refine lv_iadd hx hb dL_law_822 ?_
  refine va_sld (A := AL s) hx hb hX hbl (Nat.not_le.mpr hbl) hz.2.2 h3 dL_law_823 ?_
  refine y_cv (g := gX) (L := LX) (As := [.int (xs (i3 + (1 : Int32)).toNatClampNeg), .int (xs (i3 + (2 : Int32)).toNatClampNeg), .int (xs (i3 + (3 : Int32)).toNatClampNeg)]) (n := 3) (T := TX6) (N := 14) (rest := []) hx hb hml hown hT hGX hN hz.1 hz.2.2 (c_X6_bears l gX hq) kdX_0 rfl rfl rfl rfl kw_566 kw_62 kw_563 kw_564 kw_565 (by decide +kernel) rfl ⟨(Nat.le_of_ble_eq_true rfl), (Nat.le_of_ble_eq_true rfl)⟩ hcs hl.1 (Nat.le_of_ble_eq_true rfl) dL_law_824 (fun H1 locs1 z1 z2 z3 => ?_)
  have hz := lk_x hB hz z1 z2 z3
  refine lv_aload_n hx hb dL_law_827 rfl (lv_at hl 2 rfl) ?_
  refine lv_aload_n hx hb dL_law_828 rfl (lv_at hl 0 rfl) ?_
  refine lv_iload_n hx hb dL_law_829 rfl (lv_at hl 3 rfl) ?_
  refine lv_iconst (v := (1 : Int32)) hx hb dL_law_830 (by decide) ?_
  refine lv_iadd hx hb dL_law_831 ?_
  refine va_sld (A := AL s) hx hb hX hbl (Nat.not_le.mpr hbl) hz.2.2 h1 dL_law_832 ?_
  refine lv_aload_n hx hb dL_law_833 rfl (lv_at hl 0 rfl) ?_
  refine lv_iload_n hx hb dL_law_834 rfl (lv_at hl 3 rfl) ?_
  refine lv_iconst (v := (2 : Int32)) hx hb dL_law_835 (by decide) ?_
  refine lv_iadd hx hb dL_law_836 ?_
  refine va_sld (A := AL s) hx hb hX hbl (Nat.not_le.mpr hbl) hz.2.2 h2 dL_law_837 ?_
  refine lv_aload_n hx hb dL_law_838 rfl (lv_at hl 0 rfl) ?_
  refine lv_iload_n hx hb dL_law_839 rfl (lv_at hl 3 rfl) ?_
  refine lv_iconst (v := (3 : Int32)) hx hb dL_law_840 (by decide) ?_
  refine lv_iadd hx hb dL_law_841 ?_
  refine va_sld (A := AL s) hx hb hX hbl (Nat.not_le.mpr hbl) hz.2.2 h3 dL_law_842 ?_
  refine y_cv (g := gM) (L := LM) (As := [.int (xs (i3 + (1 : Int32)).toNatClampNeg), .int (xs (i3 + (2 : Int32)).toNatClampNeg), .int (xs (i3 + (3 : Int32)).toNatClampNeg)]) (n := 3) (T := TX7) (N := 30) (rest := [.int q.1]) hx hb hml hown hT hGM hN hz.2.1 hz.2.2 (c_X7_bears l gM hr) kdM_0 rfl rfl rfl rfl kw_1039 kw_68 kw_1036 kw_1037 kw_1038 (by decide +kernel) rfl ⟨(Nat.le_of_ble_eq_true rfl), (Nat.le_of_ble_eq_true rfl)⟩ hcs hl.1 (Nat.le_of_ble_eq_true rfl) dL_law_843 (fun H1 locs1 z1 z2 z3 => ?_)
  have hz := lk_m hB hz z1 z2 z3
  refine lv_icmp_eq (tgt := 1307) hx hb dL_law_846 (by decide) (fun c9 => ?_) (fun c9 => absurd he c9)
  exact kk q.2 r.2 _ _ hI2 hz
set_option maxHeartbeats 4000000 in
set_option maxRecDepth 100000 in
theorem lc_changed {p : Program} {l : Launch} {e : Env} {s : State} {m : MethodId} {args : Array Value} {below : List Frame} {meth : Method} {c : Code} {H : Heap} {locs : List Loc} {Q : State → Prop} {cells slots : Nat} {ls : Array Slot} {gX gM : GP} {b L : Nat} {xs : Nat → Int32} {I : Mem → Mem → Prop} (hS : S_changed I) (hB : LB p s m args c gX gM b L xs) (hcs : cells ≤ room_1.cells ∧ slots ≤ room_1.slots) {i3 : Int32} (hi : vp_in (i3 + 1) L ∧ vp_in (i3 + 2) L ∧ vp_in (i3 + 3) L ∧ vp_in (i3 + 4) L ∧ vp_in (i3 + 5) L) {V U : Mem} (hVU : I V U) (hz : LK gX gM V U s H locs) (hl : lv_has ls 4 [(0, .ref b), (1, .ref (ad gX 0)), (2, .ref (ad gM 0)), (3, .int i3)])
    (kk : ∀ (V U : Mem) (H : Heap) (locs : List Loc), I V U → LK gX gM V U s H locs → W p l e room_1 s m args below meth c H locs cells slots Q (F0 m 1307 ls [])) : W p l e room_1 s m args below meth c H locs cells slots Q (F0 m 851 ls []) := by
  obtain ⟨hx, hb, hml, hown, hT, hGX, hGM, hN, hdj, hX, hbl⟩ := id hB
  obtain ⟨h1, h2, h3, h4, h5⟩ := hi
  obtain ⟨q, r, hq, hr, he, hI2⟩ := hS (xs (i3 + (1 : Int32)).toNatClampNeg) V U hVU
  refine lv_aload_n hx hb dL_law_851 rfl (lv_at hl 1 rfl) ?_
  refine lv_aload_n hx hb dL_law_852 rfl (lv_at hl 0 rfl) ?_
  refine lv_iload_n hx hb dL_law_853 rfl (lv_at hl 3 rfl) ?_
  refine lv_iconst (v := (1 : Int32)) hx hb dL_law_854 (by decide) ?_
  refine lv_iadd hx hb dL_law_855 ?_
  refine va_sld (A := AL s) hx hb hX hbl (Nat.not_le.mpr hbl) hz.2.2 h1 dL_law_856 ?_
  refine y_cv (g := gX) (L := LX) (As := [.int (xs (i3 + (1 : Int32)).toNatClampNeg)]) (n := 1) (T := TX6) (N := 14) (rest := []) hx hb hml hown hT hGX hN hz.1 hz.2.2 (c_X6_changed l gX hq) kdX_0 rfl rfl rfl rfl kw_574 kw_62 kw_571 kw_572 kw_573 (by decide +kernel) rfl ⟨(Nat.le_of_ble_eq_true rfl), (Nat.le_of_ble_eq_true rfl)⟩ hcs hl.1 (Nat.le_of_ble_eq_true rfl) dL_law_857 (fun H1 locs1 z1 z2 z3 => ?_)
  have hz := lk_x hB hz z1 z2 z3
  refine lv_aload_n hx hb dL_law_860 rfl (lv_at hl 2 rfl) ?_
  refine lv_aload_n hx hb dL_law_861 rfl (lv_at hl 0 rfl) ?_
  refine lv_iload_n hx hb dL_law_862 rfl (lv_at hl 3 rfl) ?_
  refine lv_iconst (v := (1 : Int32)) hx hb dL_law_863 (by decide) ?_
  refine lv_iadd hx hb dL_law_864 ?_
  refine va_sld (A := AL s) hx hb hX hbl (Nat.not_le.mpr hbl) hz.2.2 h1 dL_law_865 ?_
  refine y_cv (g := gM) (L := LM) (As := [.int (xs (i3 + (1 : Int32)).toNatClampNeg)]) (n := 1) (T := TX7) (N := 30) (rest := [.int q.1]) hx hb hml hown hT hGM hN hz.2.1 hz.2.2 (c_X7_changed l gM hr) kdM_0 rfl rfl rfl rfl kw_1048 kw_68 kw_1045 kw_1046 kw_1047 (by decide +kernel) rfl ⟨(Nat.le_of_ble_eq_true rfl), (Nat.le_of_ble_eq_true rfl)⟩ hcs hl.1 (Nat.le_of_ble_eq_true rfl) dL_law_866 (fun H1 locs1 z1 z2 z3 => ?_)
  have hz := lk_m hB hz z1 z2 z3
  refine lv_icmp_eq (tgt := 1307) hx hb dL_law_869 (by decide) (fun c9 => ?_) (fun c9 => absurd he c9)
  exact kk q.2 r.2 _ _ hI2 hz
set_option maxHeartbeats 4000000 in
set_option maxRecDepth 100000 in
theorem lc_nearest {p : Program} {l : Launch} {e : Env} {s : State} {m : MethodId} {args : Array Value} {below : List Frame} {meth : Method} {c : Code} {H : Heap} {locs : List Loc} {Q : State → Prop} {cells slots : Nat} {ls : Array Slot} {gX gM : GP} {b L : Nat} {xs : Nat → Int32} {I : Mem → Mem → Prop} (hS : S_nearest I) (hB : LB p s m args c gX gM b L xs) (hcs : cells ≤ room_1.cells ∧ slots ≤ room_1.slots) {i3 : Int32} (hi : vp_in (i3 + 1) L ∧ vp_in (i3 + 2) L ∧ vp_in (i3 + 3) L ∧ vp_in (i3 + 4) L ∧ vp_in (i3 + 5) L) {V U : Mem} (hVU : I V U) (hz : LK gX gM V U s H locs) (hl : lv_has ls 4 [(0, .ref b), (1, .ref (ad gX 0)), (2, .ref (ad gM 0)), (3, .int i3)])
    (kk : ∀ (V U : Mem) (H : Heap) (locs : List Loc), I V U → LK gX gM V U s H locs → W p l e room_1 s m args below meth c H locs cells slots Q (F0 m 1307 ls [])) : W p l e room_1 s m args below meth c H locs cells slots Q (F0 m 874 ls []) := by
  obtain ⟨hx, hb, hml, hown, hT, hGX, hGM, hN, hdj, hX, hbl⟩ := id hB
  obtain ⟨h1, h2, h3, h4, h5⟩ := hi
  obtain ⟨q, r, hq, hr, he, hI2⟩ := hS (xs (i3 + (1 : Int32)).toNatClampNeg) (xs (i3 + (2 : Int32)).toNatClampNeg) V U hVU
  refine lv_aload_n hx hb dL_law_874 rfl (lv_at hl 1 rfl) ?_
  refine lv_aload_n hx hb dL_law_875 rfl (lv_at hl 0 rfl) ?_
  refine lv_iload_n hx hb dL_law_876 rfl (lv_at hl 3 rfl) ?_
  refine lv_iconst (v := (1 : Int32)) hx hb dL_law_877 (by decide) ?_
  refine lv_iadd hx hb dL_law_878 ?_
  refine va_sld (A := AL s) hx hb hX hbl (Nat.not_le.mpr hbl) hz.2.2 h1 dL_law_879 ?_
  refine lv_aload_n hx hb dL_law_880 rfl (lv_at hl 0 rfl) ?_
  refine lv_iload_n hx hb dL_law_881 rfl (lv_at hl 3 rfl) ?_
  refine lv_iconst (v := (2 : Int32)) hx hb dL_law_882 (by decide) ?_
  refine lv_iadd hx hb dL_law_883 ?_
  refine va_sld (A := AL s) hx hb hX hbl (Nat.not_le.mpr hbl) hz.2.2 h2 dL_law_884 ?_
  refine y_cv (g := gX) (L := LX) (As := [.int (xs (i3 + (1 : Int32)).toNatClampNeg), .int (xs (i3 + (2 : Int32)).toNatClampNeg)]) (n := 2) (T := TX6) (N := 14) (rest := []) hx hb hml hown hT hGX hN hz.1 hz.2.2 (c_X6_nearest l gX hq) kdX_0 rfl rfl rfl rfl kw_578 kw_62 kw_575 kw_576 kw_577 (by decide +kernel) rfl ⟨(Nat.le_of_ble_eq_true rfl), (Nat.le_of_ble_eq_true rfl)⟩ hcs hl.1 (Nat.le_of_ble_eq_true rfl) dL_law_885 (fun H1 locs1 z1 z2 z3 => ?_)
  have hz := lk_x hB hz z1 z2 z3
  refine lv_aload_n hx hb dL_law_888 rfl (lv_at hl 2 rfl) ?_
  refine lv_aload_n hx hb dL_law_889 rfl (lv_at hl 0 rfl) ?_
  refine lv_iload_n hx hb dL_law_890 rfl (lv_at hl 3 rfl) ?_
  refine lv_iconst (v := (1 : Int32)) hx hb dL_law_891 (by decide) ?_
  refine lv_iadd hx hb dL_law_892 ?_
  refine va_sld (A := AL s) hx hb hX hbl (Nat.not_le.mpr hbl) hz.2.2 h1 dL_law_893 ?_
  refine lv_aload_n hx hb dL_law_894 rfl (lv_at hl 0 rfl) ?_
  refine lv_iload_n hx hb dL_law_895 rfl (lv_at hl 3 rfl) ?_
  refine lv_iconst (v := (2 : Int32)) hx hb dL_law_896 (by decide) ?_
  refine lv_iadd hx hb dL_law_897 ?_
  refine va_sld (A := AL s) hx hb hX hbl (Nat.not_le.mpr hbl) hz.2.2 h2 dL_law_898 ?_
  refine y_cv (g := gM) (L := LM) (As := [.int (xs (i3 + (1 : Int32)).toNatClampNeg), .int (xs (i3 + (2 : Int32)).toNatClampNeg)]) (n := 2) (T := TX7) (N := 30) (rest := [.int q.1]) hx hb hml hown hT hGM hN hz.2.1 hz.2.2 (c_X7_nearest l gM hr) kdM_0 rfl rfl rfl rfl kw_1060 kw_68 kw_1057 kw_1058 kw_1059 (by decide +kernel) rfl ⟨(Nat.le_of_ble_eq_true rfl), (Nat.le_of_ble_eq_true rfl)⟩ hcs hl.1 (Nat.le_of_ble_eq_true rfl) dL_law_899 (fun H1 locs1 z1 z2 z3 => ?_)
  have hz := lk_m hB hz z1 z2 z3
  refine lv_icmp_eq (tgt := 1307) hx hb dL_law_902 (by decide) (fun c9 => ?_) (fun c9 => absurd he c9)
  exact kk q.2 r.2 _ _ hI2 hz
set_option maxHeartbeats 4000000 in
set_option maxRecDepth 100000 in
theorem lc_sets {p : Program} {l : Launch} {e : Env} {s : State} {m : MethodId} {args : Array Value} {below : List Frame} {meth : Method} {c : Code} {H : Heap} {locs : List Loc} {Q : State → Prop} {cells slots : Nat} {ls : Array Slot} {gX gM : GP} {b L : Nat} {xs : Nat → Int32} {I : Mem → Mem → Prop} (hS : S_sets I) (hB : LB p s m args c gX gM b L xs) (hcs : cells ≤ room_1.cells ∧ slots ≤ room_1.slots) {i3 : Int32} (hi : vp_in (i3 + 1) L ∧ vp_in (i3 + 2) L ∧ vp_in (i3 + 3) L ∧ vp_in (i3 + 4) L ∧ vp_in (i3 + 5) L) {V U : Mem} (hVU : I V U) (hz : LK gX gM V U s H locs) (hl : lv_has ls 4 [(0, .ref b), (1, .ref (ad gX 0)), (2, .ref (ad gM 0)), (3, .int i3)])
    (kk : ∀ (V U : Mem) (H : Heap) (locs : List Loc), I V U → LK gX gM V U s H locs → W p l e room_1 s m args below meth c H locs cells slots Q (F0 m 1307 ls [])) : W p l e room_1 s m args below meth c H locs cells slots Q (F0 m 907 ls []) := by
  obtain ⟨hx, hb, hml, hown, hT, hGX, hGM, hN, hdj, hX, hbl⟩ := id hB
  obtain ⟨h1, h2, h3, h4, h5⟩ := hi
  obtain ⟨q, r, hq, hr, he, hI2⟩ := hS (xs (i3 + (1 : Int32)).toNatClampNeg) V U hVU
  refine lv_aload_n hx hb dL_law_907 rfl (lv_at hl 1 rfl) ?_
  refine lv_aload_n hx hb dL_law_908 rfl (lv_at hl 0 rfl) ?_
  refine lv_iload_n hx hb dL_law_909 rfl (lv_at hl 3 rfl) ?_
  refine lv_iconst (v := (1 : Int32)) hx hb dL_law_910 (by decide) ?_
  refine lv_iadd hx hb dL_law_911 ?_
  refine va_sld (A := AL s) hx hb hX hbl (Nat.not_le.mpr hbl) hz.2.2 h1 dL_law_912 ?_
  refine y_cv (g := gX) (L := LX) (As := [.int (xs (i3 + (1 : Int32)).toNatClampNeg)]) (n := 1) (T := TX6) (N := 14) (rest := []) hx hb hml hown hT hGX hN hz.1 hz.2.2 (c_X6_sets l gX hq) kdX_0 rfl rfl rfl rfl kw_587 kw_62 kw_584 kw_585 kw_586 (by decide +kernel) rfl ⟨(Nat.le_of_ble_eq_true rfl), (Nat.le_of_ble_eq_true rfl)⟩ hcs hl.1 (Nat.le_of_ble_eq_true rfl) dL_law_913 (fun H1 locs1 z1 z2 z3 => ?_)
  have hz := lk_x hB hz z1 z2 z3
  refine lv_aload_n hx hb dL_law_916 rfl (lv_at hl 2 rfl) ?_
  refine lv_aload_n hx hb dL_law_917 rfl (lv_at hl 0 rfl) ?_
  refine lv_iload_n hx hb dL_law_918 rfl (lv_at hl 3 rfl) ?_
  refine lv_iconst (v := (1 : Int32)) hx hb dL_law_919 (by decide) ?_
  refine lv_iadd hx hb dL_law_920 ?_
  refine va_sld (A := AL s) hx hb hX hbl (Nat.not_le.mpr hbl) hz.2.2 h1 dL_law_921 ?_
  refine y_cv (g := gM) (L := LM) (As := [.int (xs (i3 + (1 : Int32)).toNatClampNeg)]) (n := 1) (T := TX7) (N := 30) (rest := [.int q.1]) hx hb hml hown hT hGM hN hz.2.1 hz.2.2 (c_X7_sets l gM hr) kdM_0 rfl rfl rfl rfl kw_1072 kw_68 kw_1069 kw_1070 kw_1071 (by decide +kernel) rfl ⟨(Nat.le_of_ble_eq_true rfl), (Nat.le_of_ble_eq_true rfl)⟩ hcs hl.1 (Nat.le_of_ble_eq_true rfl) dL_law_922 (fun H1 locs1 z1 z2 z3 => ?_)
  have hz := lk_m hB hz z1 z2 z3
  refine lv_icmp_eq (tgt := 1307) hx hb dL_law_925 (by decide) (fun c9 => ?_) (fun c9 => absurd he c9)
  exact kk q.2 r.2 _ _ hI2 hz
set_option maxHeartbeats 4000000 in
set_option maxRecDepth 100000 in
theorem lc_deepest {p : Program} {l : Launch} {e : Env} {s : State} {m : MethodId} {args : Array Value} {below : List Frame} {meth : Method} {c : Code} {H : Heap} {locs : List Loc} {Q : State → Prop} {cells slots : Nat} {ls : Array Slot} {gX gM : GP} {b L : Nat} {xs : Nat → Int32} {I : Mem → Mem → Prop} (hS : S_deepest I) (hB : LB p s m args c gX gM b L xs) (hcs : cells ≤ room_1.cells ∧ slots ≤ room_1.slots) {i3 : Int32} (hi : vp_in (i3 + 1) L ∧ vp_in (i3 + 2) L ∧ vp_in (i3 + 3) L ∧ vp_in (i3 + 4) L ∧ vp_in (i3 + 5) L) {V U : Mem} (hVU : I V U) (hz : LK gX gM V U s H locs) (hl : lv_has ls 4 [(0, .ref b), (1, .ref (ad gX 0)), (2, .ref (ad gM 0)), (3, .int i3)])
    (kk : ∀ (V U : Mem) (H : Heap) (locs : List Loc), I V U → LK gX gM V U s H locs → W p l e room_1 s m args below meth c H locs cells slots Q (F0 m 1307 ls [])) : W p l e room_1 s m args below meth c H locs cells slots Q (F0 m 930 ls []) := by
  obtain ⟨hx, hb, hml, hown, hT, hGX, hGM, hN, hdj, hX, hbl⟩ := id hB
  obtain ⟨h1, h2, h3, h4, h5⟩ := hi
  obtain ⟨q, r, hq, hr, he, hI2⟩ := hS (xs (i3 + (1 : Int32)).toNatClampNeg) V U hVU
  refine lv_aload_n hx hb dL_law_930 rfl (lv_at hl 1 rfl) ?_
  refine lv_aload_n hx hb dL_law_931 rfl (lv_at hl 0 rfl) ?_
  refine lv_iload_n hx hb dL_law_932 rfl (lv_at hl 3 rfl) ?_
  refine lv_iconst (v := (1 : Int32)) hx hb dL_law_933 (by decide) ?_
  refine lv_iadd hx hb dL_law_934 ?_
  refine va_sld (A := AL s) hx hb hX hbl (Nat.not_le.mpr hbl) hz.2.2 h1 dL_law_935 ?_
  refine y_cv (g := gX) (L := LX) (As := [.int (xs (i3 + (1 : Int32)).toNatClampNeg)]) (n := 1) (T := TX6) (N := 14) (rest := []) hx hb hml hown hT hGX hN hz.1 hz.2.2 (c_X6_deepest l gX hq) kdX_0 rfl rfl rfl rfl kw_595 kw_62 kw_592 kw_593 kw_594 (by decide +kernel) rfl ⟨(Nat.le_of_ble_eq_true rfl), (Nat.le_of_ble_eq_true rfl)⟩ hcs hl.1 (Nat.le_of_ble_eq_true rfl) dL_law_936 (fun H1 locs1 z1 z2 z3 => ?_)
  have hz := lk_x hB hz z1 z2 z3
  refine lv_aload_n hx hb dL_law_939 rfl (lv_at hl 2 rfl) ?_
  refine lv_aload_n hx hb dL_law_940 rfl (lv_at hl 0 rfl) ?_
  refine lv_iload_n hx hb dL_law_941 rfl (lv_at hl 3 rfl) ?_
  refine lv_iconst (v := (1 : Int32)) hx hb dL_law_942 (by decide) ?_
  refine lv_iadd hx hb dL_law_943 ?_
  refine va_sld (A := AL s) hx hb hX hbl (Nat.not_le.mpr hbl) hz.2.2 h1 dL_law_944 ?_
  refine y_cv (g := gM) (L := LM) (As := [.int (xs (i3 + (1 : Int32)).toNatClampNeg)]) (n := 1) (T := TX7) (N := 30) (rest := [.int q.1]) hx hb hml hown hT hGM hN hz.2.1 hz.2.2 (c_X7_deepest l gM hr) kdM_0 rfl rfl rfl rfl kw_1076 kw_68 kw_1073 kw_1074 kw_1075 (by decide +kernel) rfl ⟨(Nat.le_of_ble_eq_true rfl), (Nat.le_of_ble_eq_true rfl)⟩ hcs hl.1 (Nat.le_of_ble_eq_true rfl) dL_law_945 (fun H1 locs1 z1 z2 z3 => ?_)
  have hz := lk_m hB hz z1 z2 z3
  refine lv_icmp_eq (tgt := 1307) hx hb dL_law_948 (by decide) (fun c9 => ?_) (fun c9 => absurd he c9)
  exact kk q.2 r.2 _ _ hI2 hz
set_option maxHeartbeats 4000000 in
set_option maxRecDepth 100000 in
theorem lc_who {p : Program} {l : Launch} {e : Env} {s : State} {m : MethodId} {args : Array Value} {below : List Frame} {meth : Method} {c : Code} {H : Heap} {locs : List Loc} {Q : State → Prop} {cells slots : Nat} {ls : Array Slot} {gX gM : GP} {b L : Nat} {xs : Nat → Int32} {I : Mem → Mem → Prop} (hS : S_who I) (hB : LB p s m args c gX gM b L xs) (hcs : cells ≤ room_1.cells ∧ slots ≤ room_1.slots) {i3 : Int32} (hi : vp_in (i3 + 1) L ∧ vp_in (i3 + 2) L ∧ vp_in (i3 + 3) L ∧ vp_in (i3 + 4) L ∧ vp_in (i3 + 5) L) {V U : Mem} (hVU : I V U) (hz : LK gX gM V U s H locs) (hl : lv_has ls 4 [(0, .ref b), (1, .ref (ad gX 0)), (2, .ref (ad gM 0)), (3, .int i3)])
    (kk : ∀ (V U : Mem) (H : Heap) (locs : List Loc), I V U → LK gX gM V U s H locs → W p l e room_1 s m args below meth c H locs cells slots Q (F0 m 1307 ls [])) : W p l e room_1 s m args below meth c H locs cells slots Q (F0 m 953 ls []) := by
  obtain ⟨hx, hb, hml, hown, hT, hGX, hGM, hN, hdj, hX, hbl⟩ := id hB
  obtain ⟨h1, h2, h3, h4, h5⟩ := hi
  obtain ⟨q, r, hq, hr, he, hI2⟩ := hS (xs (i3 + (1 : Int32)).toNatClampNeg) (xs (i3 + (2 : Int32)).toNatClampNeg) (xs (i3 + (3 : Int32)).toNatClampNeg) (xs (i3 + (4 : Int32)).toNatClampNeg) (xs (i3 + (5 : Int32)).toNatClampNeg) V U hVU
  refine lv_aload_n hx hb dL_law_953 rfl (lv_at hl 1 rfl) ?_
  refine lv_aload_n hx hb dL_law_954 rfl (lv_at hl 0 rfl) ?_
  refine lv_iload_n hx hb dL_law_955 rfl (lv_at hl 3 rfl) ?_
  refine lv_iconst (v := (1 : Int32)) hx hb dL_law_956 (by decide) ?_
  refine lv_iadd hx hb dL_law_957 ?_
  refine va_sld (A := AL s) hx hb hX hbl (Nat.not_le.mpr hbl) hz.2.2 h1 dL_law_958 ?_
  refine lv_aload_n hx hb dL_law_959 rfl (lv_at hl 0 rfl) ?_
  refine lv_iload_n hx hb dL_law_960 rfl (lv_at hl 3 rfl) ?_
  refine lv_iconst (v := (2 : Int32)) hx hb dL_law_961 (by decide) ?_
  refine lv_iadd hx hb dL_law_962 ?_
  refine va_sld (A := AL s) hx hb hX hbl (Nat.not_le.mpr hbl) hz.2.2 h2 dL_law_963 ?_
  refine lv_aload_n hx hb dL_law_964 rfl (lv_at hl 0 rfl) ?_
  refine lv_iload_n hx hb dL_law_965 rfl (lv_at hl 3 rfl) ?_
  refine lv_iconst (v := (3 : Int32)) hx hb dL_law_966 (by decide) ?_
  refine lv_iadd hx hb dL_law_967 ?_
  refine va_sld (A := AL s) hx hb hX hbl (Nat.not_le.mpr hbl) hz.2.2 h3 dL_law_968 ?_
  refine lv_aload_n hx hb dL_law_969 rfl (lv_at hl 0 rfl) ?_
  refine lv_iload_n hx hb dL_law_970 rfl (lv_at hl 3 rfl) ?_
  refine lv_iconst (v := (4 : Int32)) hx hb dL_law_971 (by decide) ?_
  refine lv_iadd hx hb dL_law_972 ?_
  refine va_sld (A := AL s) hx hb hX hbl (Nat.not_le.mpr hbl) hz.2.2 h4 dL_law_973 ?_
  refine lv_aload_n hx hb dL_law_974 rfl (lv_at hl 0 rfl) ?_
  refine lv_iload_n hx hb dL_law_975 rfl (lv_at hl 3 rfl) ?_
  refine lv_iconst (v := (5 : Int32)) hx hb dL_law_976 (by decide) ?_
  refine lv_iadd hx hb dL_law_977 ?_
  refine va_sld (A := AL s) hx hb hX hbl (Nat.not_le.mpr hbl) hz.2.2 h5 dL_law_978 ?_
  refine y_cv (g := gX) (L := LX) (As := [.int (xs (i3 + (1 : Int32)).toNatClampNeg), .int (xs (i3 + (2 : Int32)).toNatClampNeg), .int (xs (i3 + (3 : Int32)).toNatClampNeg), .int (xs (i3 + (4 : Int32)).toNatClampNeg), .int (xs (i3 + (5 : Int32)).toNatClampNeg)]) (n := 5) (T := TX6) (N := 14) (rest := []) hx hb hml hown hT hGX hN hz.1 hz.2.2 (c_X6_who l gX hq) kdX_0 rfl rfl rfl rfl kw_599 kw_62 kw_596 kw_597 kw_598 (by decide +kernel) rfl ⟨(Nat.le_of_ble_eq_true rfl), (Nat.le_of_ble_eq_true rfl)⟩ hcs hl.1 (Nat.le_of_ble_eq_true rfl) dL_law_979 (fun H1 locs1 z1 z2 z3 => ?_)
  have hz := lk_x hB hz z1 z2 z3
  refine lv_aload_n hx hb dL_law_982 rfl (lv_at hl 2 rfl) ?_
  refine lv_aload_n hx hb dL_law_983 rfl (lv_at hl 0 rfl) ?_
  refine lv_iload_n hx hb dL_law_984 rfl (lv_at hl 3 rfl) ?_
  refine lv_iconst (v := (1 : Int32)) hx hb dL_law_985 (by decide) ?_
  refine lv_iadd hx hb dL_law_986 ?_
  refine va_sld (A := AL s) hx hb hX hbl (Nat.not_le.mpr hbl) hz.2.2 h1 dL_law_987 ?_
  refine lv_aload_n hx hb dL_law_988 rfl (lv_at hl 0 rfl) ?_
  refine lv_iload_n hx hb dL_law_989 rfl (lv_at hl 3 rfl) ?_
  refine lv_iconst (v := (2 : Int32)) hx hb dL_law_990 (by decide) ?_
  refine lv_iadd hx hb dL_law_991 ?_
  refine va_sld (A := AL s) hx hb hX hbl (Nat.not_le.mpr hbl) hz.2.2 h2 dL_law_992 ?_
  refine lv_aload_n hx hb dL_law_993 rfl (lv_at hl 0 rfl) ?_
  refine lv_iload_n hx hb dL_law_994 rfl (lv_at hl 3 rfl) ?_
  refine lv_iconst (v := (3 : Int32)) hx hb dL_law_995 (by decide) ?_
  refine lv_iadd hx hb dL_law_996 ?_
  refine va_sld (A := AL s) hx hb hX hbl (Nat.not_le.mpr hbl) hz.2.2 h3 dL_law_997 ?_
  refine lv_aload_n hx hb dL_law_998 rfl (lv_at hl 0 rfl) ?_
  refine lv_iload_n hx hb dL_law_999 rfl (lv_at hl 3 rfl) ?_
  refine lv_iconst (v := (4 : Int32)) hx hb dL_law_1000 (by decide) ?_
  refine lv_iadd hx hb dL_law_1001 ?_
  refine va_sld (A := AL s) hx hb hX hbl (Nat.not_le.mpr hbl) hz.2.2 h4 dL_law_1002 ?_
  refine lv_aload_n hx hb dL_law_1003 rfl (lv_at hl 0 rfl) ?_
  refine lv_iload_n hx hb dL_law_1004 rfl (lv_at hl 3 rfl) ?_
  refine lv_iconst (v := (5 : Int32)) hx hb dL_law_1005 (by decide) ?_
  refine lv_iadd hx hb dL_law_1006 ?_
  refine va_sld (A := AL s) hx hb hX hbl (Nat.not_le.mpr hbl) hz.2.2 h5 dL_law_1007 ?_
  refine y_cv (g := gM) (L := LM) (As := [.int (xs (i3 + (1 : Int32)).toNatClampNeg), .int (xs (i3 + (2 : Int32)).toNatClampNeg), .int (xs (i3 + (3 : Int32)).toNatClampNeg), .int (xs (i3 + (4 : Int32)).toNatClampNeg), .int (xs (i3 + (5 : Int32)).toNatClampNeg)]) (n := 5) (T := TX7) (N := 30) (rest := [.int q.1]) hx hb hml hown hT hGM hN hz.2.1 hz.2.2 (c_X7_who l gM hr) kdM_0 rfl rfl rfl rfl kw_1080 kw_68 kw_1077 kw_1078 kw_1079 (by decide +kernel) rfl ⟨(Nat.le_of_ble_eq_true rfl), (Nat.le_of_ble_eq_true rfl)⟩ hcs hl.1 (Nat.le_of_ble_eq_true rfl) dL_law_1008 (fun H1 locs1 z1 z2 z3 => ?_)
  have hz := lk_m hB hz z1 z2 z3
  refine lv_icmp_eq (tgt := 1307) hx hb dL_law_1011 (by decide) (fun c9 => ?_) (fun c9 => absurd he c9)
  exact kk q.2 r.2 _ _ hI2 hz
set_option maxHeartbeats 4000000 in
set_option maxRecDepth 100000 in
theorem lc_lost {p : Program} {l : Launch} {e : Env} {s : State} {m : MethodId} {args : Array Value} {below : List Frame} {meth : Method} {c : Code} {H : Heap} {locs : List Loc} {Q : State → Prop} {cells slots : Nat} {ls : Array Slot} {gX gM : GP} {b L : Nat} {xs : Nat → Int32} {I : Mem → Mem → Prop} (hS : S_lost I) (hB : LB p s m args c gX gM b L xs) (hcs : cells ≤ room_1.cells ∧ slots ≤ room_1.slots) {i3 : Int32} (hi : vp_in (i3 + 1) L ∧ vp_in (i3 + 2) L ∧ vp_in (i3 + 3) L ∧ vp_in (i3 + 4) L ∧ vp_in (i3 + 5) L) {V U : Mem} (hVU : I V U) (hz : LK gX gM V U s H locs) (hl : lv_has ls 4 [(0, .ref b), (1, .ref (ad gX 0)), (2, .ref (ad gM 0)), (3, .int i3)])
    (kk : ∀ (V U : Mem) (H : Heap) (locs : List Loc), I V U → LK gX gM V U s H locs → W p l e room_1 s m args below meth c H locs cells slots Q (F0 m 1307 ls [])) : W p l e room_1 s m args below meth c H locs cells slots Q (F0 m 1016 ls []) := by
  obtain ⟨hx, hb, hml, hown, hT, hGX, hGM, hN, hdj, hX, hbl⟩ := id hB
  obtain ⟨h1, h2, h3, h4, h5⟩ := hi
  obtain ⟨q, r, hq, hr, he, hI2⟩ := hS (xs (i3 + (1 : Int32)).toNatClampNeg) (xs (i3 + (2 : Int32)).toNatClampNeg) (xs (i3 + (3 : Int32)).toNatClampNeg) (xs (i3 + (4 : Int32)).toNatClampNeg) V U hVU
  refine lv_aload_n hx hb dL_law_1016 rfl (lv_at hl 1 rfl) ?_
  refine lv_aload_n hx hb dL_law_1017 rfl (lv_at hl 0 rfl) ?_
  refine lv_iload_n hx hb dL_law_1018 rfl (lv_at hl 3 rfl) ?_
  refine lv_iconst (v := (1 : Int32)) hx hb dL_law_1019 (by decide) ?_
  refine lv_iadd hx hb dL_law_1020 ?_
  refine va_sld (A := AL s) hx hb hX hbl (Nat.not_le.mpr hbl) hz.2.2 h1 dL_law_1021 ?_
  refine lv_aload_n hx hb dL_law_1022 rfl (lv_at hl 0 rfl) ?_
  refine lv_iload_n hx hb dL_law_1023 rfl (lv_at hl 3 rfl) ?_
  refine lv_iconst (v := (2 : Int32)) hx hb dL_law_1024 (by decide) ?_
  refine lv_iadd hx hb dL_law_1025 ?_
  refine va_sld (A := AL s) hx hb hX hbl (Nat.not_le.mpr hbl) hz.2.2 h2 dL_law_1026 ?_
  refine lv_aload_n hx hb dL_law_1027 rfl (lv_at hl 0 rfl) ?_
  refine lv_iload_n hx hb dL_law_1028 rfl (lv_at hl 3 rfl) ?_
  refine lv_iconst (v := (3 : Int32)) hx hb dL_law_1029 (by decide) ?_
  refine lv_iadd hx hb dL_law_1030 ?_
  refine va_sld (A := AL s) hx hb hX hbl (Nat.not_le.mpr hbl) hz.2.2 h3 dL_law_1031 ?_
  refine lv_aload_n hx hb dL_law_1032 rfl (lv_at hl 0 rfl) ?_
  refine lv_iload_n hx hb dL_law_1033 rfl (lv_at hl 3 rfl) ?_
  refine lv_iconst (v := (4 : Int32)) hx hb dL_law_1034 (by decide) ?_
  refine lv_iadd hx hb dL_law_1035 ?_
  refine va_sld (A := AL s) hx hb hX hbl (Nat.not_le.mpr hbl) hz.2.2 h4 dL_law_1036 ?_
  refine y_cv (g := gX) (L := LX) (As := [.int (xs (i3 + (1 : Int32)).toNatClampNeg), .int (xs (i3 + (2 : Int32)).toNatClampNeg), .int (xs (i3 + (3 : Int32)).toNatClampNeg), .int (xs (i3 + (4 : Int32)).toNatClampNeg)]) (n := 4) (T := TX6) (N := 14) (rest := []) hx hb hml hown hT hGX hN hz.1 hz.2.2 (c_X6_lost l gX hq) kdX_0 rfl rfl rfl rfl kw_608 kw_62 kw_605 kw_606 kw_607 (by decide +kernel) rfl ⟨(Nat.le_of_ble_eq_true rfl), (Nat.le_of_ble_eq_true rfl)⟩ hcs hl.1 (Nat.le_of_ble_eq_true rfl) dL_law_1037 (fun H1 locs1 z1 z2 z3 => ?_)
  have hz := lk_x hB hz z1 z2 z3
  refine lv_aload_n hx hb dL_law_1040 rfl (lv_at hl 2 rfl) ?_
  refine lv_aload_n hx hb dL_law_1041 rfl (lv_at hl 0 rfl) ?_
  refine lv_iload_n hx hb dL_law_1042 rfl (lv_at hl 3 rfl) ?_
  refine lv_iconst (v := (1 : Int32)) hx hb dL_law_1043 (by decide) ?_
  refine lv_iadd hx hb dL_law_1044 ?_
  refine va_sld (A := AL s) hx hb hX hbl (Nat.not_le.mpr hbl) hz.2.2 h1 dL_law_1045 ?_
  refine lv_aload_n hx hb dL_law_1046 rfl (lv_at hl 0 rfl) ?_
  refine lv_iload_n hx hb dL_law_1047 rfl (lv_at hl 3 rfl) ?_
  refine lv_iconst (v := (2 : Int32)) hx hb dL_law_1048 (by decide) ?_
  refine lv_iadd hx hb dL_law_1049 ?_
  refine va_sld (A := AL s) hx hb hX hbl (Nat.not_le.mpr hbl) hz.2.2 h2 dL_law_1050 ?_
  refine lv_aload_n hx hb dL_law_1051 rfl (lv_at hl 0 rfl) ?_
  refine lv_iload_n hx hb dL_law_1052 rfl (lv_at hl 3 rfl) ?_
  refine lv_iconst (v := (3 : Int32)) hx hb dL_law_1053 (by decide) ?_
  refine lv_iadd hx hb dL_law_1054 ?_
  refine va_sld (A := AL s) hx hb hX hbl (Nat.not_le.mpr hbl) hz.2.2 h3 dL_law_1055 ?_
  refine lv_aload_n hx hb dL_law_1056 rfl (lv_at hl 0 rfl) ?_
  refine lv_iload_n hx hb dL_law_1057 rfl (lv_at hl 3 rfl) ?_
  refine lv_iconst (v := (4 : Int32)) hx hb dL_law_1058 (by decide) ?_
  refine lv_iadd hx hb dL_law_1059 ?_
  refine va_sld (A := AL s) hx hb hX hbl (Nat.not_le.mpr hbl) hz.2.2 h4 dL_law_1060 ?_
  refine y_cv (g := gM) (L := LM) (As := [.int (xs (i3 + (1 : Int32)).toNatClampNeg), .int (xs (i3 + (2 : Int32)).toNatClampNeg), .int (xs (i3 + (3 : Int32)).toNatClampNeg), .int (xs (i3 + (4 : Int32)).toNatClampNeg)]) (n := 4) (T := TX7) (N := 30) (rest := [.long q.1]) hx hb hml hown hT hGM hN hz.2.1 hz.2.2 (c_X7_lost l gM hr) kdM_0 rfl rfl rfl rfl kw_1088 kw_68 kw_1085 kw_1086 kw_1087 (by decide +kernel) rfl ⟨(Nat.le_of_ble_eq_true rfl), (Nat.le_of_ble_eq_true rfl)⟩ hcs hl.1 (Nat.le_of_ble_eq_true rfl) dL_law_1061 (fun H1 locs1 z1 z2 z3 => ?_)
  have hz := lk_m hB hz z1 z2 z3
  refine W.lcmp hx hb dL_law_1064 ?_
  refine lv_if_eq (tgt := 1307) hx hb dL_law_1065 (by decide) (fun c9 => ?_) (fun c9 => absurd (by rw [he]; simp [lg_cmp]) c9)
  exact kk q.2 r.2 _ _ hI2 hz
set_option maxHeartbeats 4000000 in
set_option maxRecDepth 100000 in
theorem lc_drawn {p : Program} {l : Launch} {e : Env} {s : State} {m : MethodId} {args : Array Value} {below : List Frame} {meth : Method} {c : Code} {H : Heap} {locs : List Loc} {Q : State → Prop} {cells slots : Nat} {ls : Array Slot} {gX gM : GP} {b L : Nat} {xs : Nat → Int32} {I : Mem → Mem → Prop} (hS : S_drawn I) (hB : LB p s m args c gX gM b L xs) (hcs : cells ≤ room_1.cells ∧ slots ≤ room_1.slots) {i3 : Int32} (hi : vp_in (i3 + 1) L ∧ vp_in (i3 + 2) L ∧ vp_in (i3 + 3) L ∧ vp_in (i3 + 4) L ∧ vp_in (i3 + 5) L) {V U : Mem} (hVU : I V U) (hz : LK gX gM V U s H locs) (hl : lv_has ls 4 [(0, .ref b), (1, .ref (ad gX 0)), (2, .ref (ad gM 0)), (3, .int i3)])
    (kk : ∀ (V U : Mem) (H : Heap) (locs : List Loc), I V U → LK gX gM V U s H locs → W p l e room_1 s m args below meth c H locs cells slots Q (F0 m 1307 ls [])) : W p l e room_1 s m args below meth c H locs cells slots Q (F0 m 1070 ls []) := by
  obtain ⟨hx, hb, hml, hown, hT, hGX, hGM, hN, hdj, hX, hbl⟩ := id hB
  obtain ⟨h1, h2, h3, h4, h5⟩ := hi
  obtain ⟨q, r, hq, hr, he, hI2⟩ := hS (xs (i3 + (1 : Int32)).toNatClampNeg) (xs (i3 + (2 : Int32)).toNatClampNeg) (xs (i3 + (3 : Int32)).toNatClampNeg) V U hVU
  refine lv_aload_n hx hb dL_law_1070 rfl (lv_at hl 1 rfl) ?_
  refine lv_aload_n hx hb dL_law_1071 rfl (lv_at hl 0 rfl) ?_
  refine lv_iload_n hx hb dL_law_1072 rfl (lv_at hl 3 rfl) ?_
  refine lv_iconst (v := (1 : Int32)) hx hb dL_law_1073 (by decide) ?_
  refine lv_iadd hx hb dL_law_1074 ?_
  refine va_sld (A := AL s) hx hb hX hbl (Nat.not_le.mpr hbl) hz.2.2 h1 dL_law_1075 ?_
  refine lv_aload_n hx hb dL_law_1076 rfl (lv_at hl 0 rfl) ?_
  refine lv_iload_n hx hb dL_law_1077 rfl (lv_at hl 3 rfl) ?_
  refine lv_iconst (v := (2 : Int32)) hx hb dL_law_1078 (by decide) ?_
  refine lv_iadd hx hb dL_law_1079 ?_
  refine va_sld (A := AL s) hx hb hX hbl (Nat.not_le.mpr hbl) hz.2.2 h2 dL_law_1080 ?_
  refine lv_aload_n hx hb dL_law_1081 rfl (lv_at hl 0 rfl) ?_
  refine lv_iload_n hx hb dL_law_1082 rfl (lv_at hl 3 rfl) ?_
  refine lv_iconst (v := (3 : Int32)) hx hb dL_law_1083 (by decide) ?_
  refine lv_iadd hx hb dL_law_1084 ?_
  refine va_sld (A := AL s) hx hb hX hbl (Nat.not_le.mpr hbl) hz.2.2 h3 dL_law_1085 ?_
  refine y_cv (g := gX) (L := LX) (As := [.int (xs (i3 + (1 : Int32)).toNatClampNeg), .int (xs (i3 + (2 : Int32)).toNatClampNeg), .int (xs (i3 + (3 : Int32)).toNatClampNeg)]) (n := 3) (T := TX6) (N := 14) (rest := []) hx hb hml hown hT hGX hN hz.1 hz.2.2 (c_X6_drawn l gX hq) kdX_0 rfl rfl rfl rfl kw_642 kw_62 kw_639 kw_640 kw_641 (by decide +kernel) rfl ⟨(Nat.le_of_ble_eq_true rfl), (Nat.le_of_ble_eq_true rfl)⟩ hcs hl.1 (Nat.le_of_ble_eq_true rfl) dL_law_1086 (fun H1 locs1 z1 z2 z3 => ?_)
  have hz := lk_x hB hz z1 z2 z3
  refine lv_aload_n hx hb dL_law_1089 rfl (lv_at hl 2 rfl) ?_
  refine lv_aload_n hx hb dL_law_1090 rfl (lv_at hl 0 rfl) ?_
  refine lv_iload_n hx hb dL_law_1091 rfl (lv_at hl 3 rfl) ?_
  refine lv_iconst (v := (1 : Int32)) hx hb dL_law_1092 (by decide) ?_
  refine lv_iadd hx hb dL_law_1093 ?_
  refine va_sld (A := AL s) hx hb hX hbl (Nat.not_le.mpr hbl) hz.2.2 h1 dL_law_1094 ?_
  refine lv_aload_n hx hb dL_law_1095 rfl (lv_at hl 0 rfl) ?_
  refine lv_iload_n hx hb dL_law_1096 rfl (lv_at hl 3 rfl) ?_
  refine lv_iconst (v := (2 : Int32)) hx hb dL_law_1097 (by decide) ?_
  refine lv_iadd hx hb dL_law_1098 ?_
  refine va_sld (A := AL s) hx hb hX hbl (Nat.not_le.mpr hbl) hz.2.2 h2 dL_law_1099 ?_
  refine lv_aload_n hx hb dL_law_1100 rfl (lv_at hl 0 rfl) ?_
  refine lv_iload_n hx hb dL_law_1101 rfl (lv_at hl 3 rfl) ?_
  refine lv_iconst (v := (3 : Int32)) hx hb dL_law_1102 (by decide) ?_
  refine lv_iadd hx hb dL_law_1103 ?_
  refine va_sld (A := AL s) hx hb hX hbl (Nat.not_le.mpr hbl) hz.2.2 h3 dL_law_1104 ?_
  refine y_cv (g := gM) (L := LM) (As := [.int (xs (i3 + (1 : Int32)).toNatClampNeg), .int (xs (i3 + (2 : Int32)).toNatClampNeg), .int (xs (i3 + (3 : Int32)).toNatClampNeg)]) (n := 3) (T := TX7) (N := 30) (rest := [.int q.1]) hx hb hml hown hT hGM hN hz.2.1 hz.2.2 (c_X7_drawn l gM hr) kdM_0 rfl rfl rfl rfl kw_1105 kw_68 kw_1102 kw_1103 kw_1104 (by decide +kernel) rfl ⟨(Nat.le_of_ble_eq_true rfl), (Nat.le_of_ble_eq_true rfl)⟩ hcs hl.1 (Nat.le_of_ble_eq_true rfl) dL_law_1105 (fun H1 locs1 z1 z2 z3 => ?_)
  have hz := lk_m hB hz z1 z2 z3
  refine lv_icmp_eq (tgt := 1307) hx hb dL_law_1108 (by decide) (fun c9 => ?_) (fun c9 => absurd he c9)
  exact kk q.2 r.2 _ _ hI2 hz
set_option maxHeartbeats 4000000 in
set_option maxRecDepth 100000 in
theorem lc_image {p : Program} {l : Launch} {e : Env} {s : State} {m : MethodId} {args : Array Value} {below : List Frame} {meth : Method} {c : Code} {H : Heap} {locs : List Loc} {Q : State → Prop} {cells slots : Nat} {ls : Array Slot} {gX gM : GP} {b L : Nat} {xs : Nat → Int32} {I : Mem → Mem → Prop} (hS : S_image I) (hB : LB p s m args c gX gM b L xs) (hcs : cells ≤ room_1.cells ∧ slots ≤ room_1.slots) {i3 : Int32} (hi : vp_in (i3 + 1) L ∧ vp_in (i3 + 2) L ∧ vp_in (i3 + 3) L ∧ vp_in (i3 + 4) L ∧ vp_in (i3 + 5) L) {V U : Mem} (hVU : I V U) (hz : LK gX gM V U s H locs) (hl : lv_has ls 4 [(0, .ref b), (1, .ref (ad gX 0)), (2, .ref (ad gM 0)), (3, .int i3)])
    (kk : ∀ (V U : Mem) (H : Heap) (locs : List Loc), I V U → LK gX gM V U s H locs → W p l e room_1 s m args below meth c H locs cells slots Q (F0 m 1307 ls [])) : W p l e room_1 s m args below meth c H locs cells slots Q (F0 m 1113 ls []) := by
  obtain ⟨hx, hb, hml, hown, hT, hGX, hGM, hN, hdj, hX, hbl⟩ := id hB
  obtain ⟨h1, h2, h3, h4, h5⟩ := hi
  obtain ⟨q, r, hq, hr, he, hI2⟩ := hS (xs (i3 + (1 : Int32)).toNatClampNeg) V U hVU
  refine lv_aload_n hx hb dL_law_1113 rfl (lv_at hl 1 rfl) ?_
  refine lv_aload_n hx hb dL_law_1114 rfl (lv_at hl 0 rfl) ?_
  refine lv_iload_n hx hb dL_law_1115 rfl (lv_at hl 3 rfl) ?_
  refine lv_iconst (v := (1 : Int32)) hx hb dL_law_1116 (by decide) ?_
  refine lv_iadd hx hb dL_law_1117 ?_
  refine va_sld (A := AL s) hx hb hX hbl (Nat.not_le.mpr hbl) hz.2.2 h1 dL_law_1118 ?_
  refine y_cv (g := gX) (L := LX) (As := [.int (xs (i3 + (1 : Int32)).toNatClampNeg)]) (n := 1) (T := TX6) (N := 14) (rest := []) hx hb hml hown hT hGX hN hz.1 hz.2.2 (c_X6_image l gX hq) kdX_0 rfl rfl rfl rfl kw_665 kw_62 kw_662 kw_663 kw_664 (by decide +kernel) rfl ⟨(Nat.le_of_ble_eq_true rfl), (Nat.le_of_ble_eq_true rfl)⟩ hcs hl.1 (Nat.le_of_ble_eq_true rfl) dL_law_1119 (fun H1 locs1 z1 z2 z3 => ?_)
  have hz := lk_x hB hz z1 z2 z3
  refine lv_aload_n hx hb dL_law_1122 rfl (lv_at hl 2 rfl) ?_
  refine lv_aload_n hx hb dL_law_1123 rfl (lv_at hl 0 rfl) ?_
  refine lv_iload_n hx hb dL_law_1124 rfl (lv_at hl 3 rfl) ?_
  refine lv_iconst (v := (1 : Int32)) hx hb dL_law_1125 (by decide) ?_
  refine lv_iadd hx hb dL_law_1126 ?_
  refine va_sld (A := AL s) hx hb hX hbl (Nat.not_le.mpr hbl) hz.2.2 h1 dL_law_1127 ?_
  refine y_cv (g := gM) (L := LM) (As := [.int (xs (i3 + (1 : Int32)).toNatClampNeg)]) (n := 1) (T := TX7) (N := 30) (rest := [.int q.1]) hx hb hml hown hT hGM hN hz.2.1 hz.2.2 (c_X7_image l gM hr) kdM_0 rfl rfl rfl rfl kw_1122 kw_68 kw_1119 kw_1120 kw_1121 (by decide +kernel) rfl ⟨(Nat.le_of_ble_eq_true rfl), (Nat.le_of_ble_eq_true rfl)⟩ hcs hl.1 (Nat.le_of_ble_eq_true rfl) dL_law_1128 (fun H1 locs1 z1 z2 z3 => ?_)
  have hz := lk_m hB hz z1 z2 z3
  refine lv_icmp_eq (tgt := 1307) hx hb dL_law_1131 (by decide) (fun c9 => ?_) (fun c9 => absurd he c9)
  exact kk q.2 r.2 _ _ hI2 hz
set_option maxHeartbeats 4000000 in
set_option maxRecDepth 100000 in
theorem lc_restore {p : Program} {l : Launch} {e : Env} {s : State} {m : MethodId} {args : Array Value} {below : List Frame} {meth : Method} {c : Code} {H : Heap} {locs : List Loc} {Q : State → Prop} {cells slots : Nat} {ls : Array Slot} {gX gM : GP} {b L : Nat} {xs : Nat → Int32} {I : Mem → Mem → Prop} (hS : S_restore I) (hB : LB p s m args c gX gM b L xs) (hcs : cells ≤ room_1.cells ∧ slots ≤ room_1.slots) {i3 : Int32} (hi : vp_in (i3 + 1) L ∧ vp_in (i3 + 2) L ∧ vp_in (i3 + 3) L ∧ vp_in (i3 + 4) L ∧ vp_in (i3 + 5) L) {V U : Mem} (hVU : I V U) (hz : LK gX gM V U s H locs) (hl : lv_has ls 4 [(0, .ref b), (1, .ref (ad gX 0)), (2, .ref (ad gM 0)), (3, .int i3)])
    (kk : ∀ (V U : Mem) (H : Heap) (locs : List Loc), I V U → LK gX gM V U s H locs → W p l e room_1 s m args below meth c H locs cells slots Q (F0 m 1307 ls [])) : W p l e room_1 s m args below meth c H locs cells slots Q (F0 m 1136 ls []) := by
  obtain ⟨hx, hb, hml, hown, hT, hGX, hGM, hN, hdj, hX, hbl⟩ := id hB
  obtain ⟨h1, h2, h3, h4, h5⟩ := hi
  obtain ⟨q, r, hq, hr, he, hI2⟩ := hS (xs (i3 + (1 : Int32)).toNatClampNeg) V U hVU
  refine lv_aload_n hx hb dL_law_1136 rfl (lv_at hl 1 rfl) ?_
  refine lv_aload_n hx hb dL_law_1137 rfl (lv_at hl 0 rfl) ?_
  refine lv_iload_n hx hb dL_law_1138 rfl (lv_at hl 3 rfl) ?_
  refine lv_iconst (v := (1 : Int32)) hx hb dL_law_1139 (by decide) ?_
  refine lv_iadd hx hb dL_law_1140 ?_
  refine va_sld (A := AL s) hx hb hX hbl (Nat.not_le.mpr hbl) hz.2.2 h1 dL_law_1141 ?_
  refine y_cv (g := gX) (L := LX) (As := [.int (xs (i3 + (1 : Int32)).toNatClampNeg)]) (n := 1) (T := TX6) (N := 14) (rest := []) hx hb hml hown hT hGX hN hz.1 hz.2.2 (c_X6_restore l gX hq) kdX_0 rfl rfl rfl rfl kw_669 kw_62 kw_666 kw_667 kw_668 (by decide +kernel) rfl ⟨(Nat.le_of_ble_eq_true rfl), (Nat.le_of_ble_eq_true rfl)⟩ hcs hl.1 (Nat.le_of_ble_eq_true rfl) dL_law_1142 (fun H1 locs1 z1 z2 z3 => ?_)
  have hz := lk_x hB hz z1 z2 z3
  refine lv_aload_n hx hb dL_law_1145 rfl (lv_at hl 2 rfl) ?_
  refine lv_aload_n hx hb dL_law_1146 rfl (lv_at hl 0 rfl) ?_
  refine lv_iload_n hx hb dL_law_1147 rfl (lv_at hl 3 rfl) ?_
  refine lv_iconst (v := (1 : Int32)) hx hb dL_law_1148 (by decide) ?_
  refine lv_iadd hx hb dL_law_1149 ?_
  refine va_sld (A := AL s) hx hb hX hbl (Nat.not_le.mpr hbl) hz.2.2 h1 dL_law_1150 ?_
  refine y_cv (g := gM) (L := LM) (As := [.int (xs (i3 + (1 : Int32)).toNatClampNeg)]) (n := 1) (T := TX7) (N := 30) (rest := [.int q.1]) hx hb hml hown hT hGM hN hz.2.1 hz.2.2 (c_X7_restore l gM hr) kdM_0 rfl rfl rfl rfl kw_1126 kw_68 kw_1123 kw_1124 kw_1125 (by decide +kernel) rfl ⟨(Nat.le_of_ble_eq_true rfl), (Nat.le_of_ble_eq_true rfl)⟩ hcs hl.1 (Nat.le_of_ble_eq_true rfl) dL_law_1151 (fun H1 locs1 z1 z2 z3 => ?_)
  have hz := lk_m hB hz z1 z2 z3
  refine lv_icmp_eq (tgt := 1307) hx hb dL_law_1154 (by decide) (fun c9 => ?_) (fun c9 => absurd he c9)
  exact kk q.2 r.2 _ _ hI2 hz
set_option maxHeartbeats 4000000 in
set_option maxRecDepth 100000 in
theorem lc_kind {p : Program} {l : Launch} {e : Env} {s : State} {m : MethodId} {args : Array Value} {below : List Frame} {meth : Method} {c : Code} {H : Heap} {locs : List Loc} {Q : State → Prop} {cells slots : Nat} {ls : Array Slot} {gX gM : GP} {b L : Nat} {xs : Nat → Int32} {I : Mem → Mem → Prop} (hS : S_kind I) (hB : LB p s m args c gX gM b L xs) (hcs : cells ≤ room_1.cells ∧ slots ≤ room_1.slots) {i3 : Int32} (hi : vp_in (i3 + 1) L ∧ vp_in (i3 + 2) L ∧ vp_in (i3 + 3) L ∧ vp_in (i3 + 4) L ∧ vp_in (i3 + 5) L) {V U : Mem} (hVU : I V U) (hz : LK gX gM V U s H locs) (hl : lv_has ls 4 [(0, .ref b), (1, .ref (ad gX 0)), (2, .ref (ad gM 0)), (3, .int i3)])
    (kk : ∀ (V U : Mem) (H : Heap) (locs : List Loc), I V U → LK gX gM V U s H locs → W p l e room_1 s m args below meth c H locs cells slots Q (F0 m 1307 ls [])) : W p l e room_1 s m args below meth c H locs cells slots Q (F0 m 1159 ls []) := by
  obtain ⟨hx, hb, hml, hown, hT, hGX, hGM, hN, hdj, hX, hbl⟩ := id hB
  obtain ⟨h1, h2, h3, h4, h5⟩ := hi
  obtain ⟨q, r, hq, hr, he, hI2⟩ := hS (xs (i3 + (1 : Int32)).toNatClampNeg) V U hVU
  refine lv_aload_n hx hb dL_law_1159 rfl (lv_at hl 1 rfl) ?_
  refine lv_aload_n hx hb dL_law_1160 rfl (lv_at hl 0 rfl) ?_
  refine lv_iload_n hx hb dL_law_1161 rfl (lv_at hl 3 rfl) ?_
  refine lv_iconst (v := (1 : Int32)) hx hb dL_law_1162 (by decide) ?_
  refine lv_iadd hx hb dL_law_1163 ?_
  refine va_sld (A := AL s) hx hb hX hbl (Nat.not_le.mpr hbl) hz.2.2 h1 dL_law_1164 ?_
  refine y_cv (g := gX) (L := LX) (As := [.int (xs (i3 + (1 : Int32)).toNatClampNeg)]) (n := 1) (T := TX6) (N := 14) (rest := []) hx hb hml hown hT hGX hN hz.1 hz.2.2 (c_X6_kind l gX hq) kdX_0 rfl rfl rfl rfl kw_673 kw_62 kw_670 kw_671 kw_672 (by decide +kernel) rfl ⟨(Nat.le_of_ble_eq_true rfl), (Nat.le_of_ble_eq_true rfl)⟩ hcs hl.1 (Nat.le_of_ble_eq_true rfl) dL_law_1165 (fun H1 locs1 z1 z2 z3 => ?_)
  have hz := lk_x hB hz z1 z2 z3
  refine lv_aload_n hx hb dL_law_1168 rfl (lv_at hl 2 rfl) ?_
  refine lv_aload_n hx hb dL_law_1169 rfl (lv_at hl 0 rfl) ?_
  refine lv_iload_n hx hb dL_law_1170 rfl (lv_at hl 3 rfl) ?_
  refine lv_iconst (v := (1 : Int32)) hx hb dL_law_1171 (by decide) ?_
  refine lv_iadd hx hb dL_law_1172 ?_
  refine va_sld (A := AL s) hx hb hX hbl (Nat.not_le.mpr hbl) hz.2.2 h1 dL_law_1173 ?_
  refine y_cv (g := gM) (L := LM) (As := [.int (xs (i3 + (1 : Int32)).toNatClampNeg)]) (n := 1) (T := TX7) (N := 30) (rest := [.int q.1]) hx hb hml hown hT hGM hN hz.2.1 hz.2.2 (c_X7_kind l gM hr) kdM_0 rfl rfl rfl rfl kw_1130 kw_68 kw_1127 kw_1128 kw_1129 (by decide +kernel) rfl ⟨(Nat.le_of_ble_eq_true rfl), (Nat.le_of_ble_eq_true rfl)⟩ hcs hl.1 (Nat.le_of_ble_eq_true rfl) dL_law_1174 (fun H1 locs1 z1 z2 z3 => ?_)
  have hz := lk_m hB hz z1 z2 z3
  refine lv_icmp_eq (tgt := 1307) hx hb dL_law_1177 (by decide) (fun c9 => ?_) (fun c9 => absurd he c9)
  exact kk q.2 r.2 _ _ hI2 hz
set_option maxHeartbeats 4000000 in
set_option maxRecDepth 100000 in
theorem lc_as {p : Program} {l : Launch} {e : Env} {s : State} {m : MethodId} {args : Array Value} {below : List Frame} {meth : Method} {c : Code} {H : Heap} {locs : List Loc} {Q : State → Prop} {cells slots : Nat} {ls : Array Slot} {gX gM : GP} {b L : Nat} {xs : Nat → Int32} {I : Mem → Mem → Prop} (hS : S_as I) (hB : LB p s m args c gX gM b L xs) (hcs : cells ≤ room_1.cells ∧ slots ≤ room_1.slots) {i3 : Int32} (hi : vp_in (i3 + 1) L ∧ vp_in (i3 + 2) L ∧ vp_in (i3 + 3) L ∧ vp_in (i3 + 4) L ∧ vp_in (i3 + 5) L) {V U : Mem} (hVU : I V U) (hz : LK gX gM V U s H locs) (hl : lv_has ls 4 [(0, .ref b), (1, .ref (ad gX 0)), (2, .ref (ad gM 0)), (3, .int i3)])
    (kk : ∀ (V U : Mem) (H : Heap) (locs : List Loc), I V U → LK gX gM V U s H locs → W p l e room_1 s m args below meth c H locs cells slots Q (F0 m 1307 ls [])) : W p l e room_1 s m args below meth c H locs cells slots Q (F0 m 1182 ls []) := by
  obtain ⟨hx, hb, hml, hown, hT, hGX, hGM, hN, hdj, hX, hbl⟩ := id hB
  obtain ⟨h1, h2, h3, h4, h5⟩ := hi
  obtain ⟨q, r, hq, hr, he, hI2⟩ := hS (xs (i3 + (1 : Int32)).toNatClampNeg) (xs (i3 + (2 : Int32)).toNatClampNeg) V U hVU
  refine lv_aload_n hx hb dL_law_1182 rfl (lv_at hl 1 rfl) ?_
  refine lv_aload_n hx hb dL_law_1183 rfl (lv_at hl 0 rfl) ?_
  refine lv_iload_n hx hb dL_law_1184 rfl (lv_at hl 3 rfl) ?_
  refine lv_iconst (v := (1 : Int32)) hx hb dL_law_1185 (by decide) ?_
  refine lv_iadd hx hb dL_law_1186 ?_
  refine va_sld (A := AL s) hx hb hX hbl (Nat.not_le.mpr hbl) hz.2.2 h1 dL_law_1187 ?_
  refine lv_aload_n hx hb dL_law_1188 rfl (lv_at hl 0 rfl) ?_
  refine lv_iload_n hx hb dL_law_1189 rfl (lv_at hl 3 rfl) ?_
  refine lv_iconst (v := (2 : Int32)) hx hb dL_law_1190 (by decide) ?_
  refine lv_iadd hx hb dL_law_1191 ?_
  refine va_sld (A := AL s) hx hb hX hbl (Nat.not_le.mpr hbl) hz.2.2 h2 dL_law_1192 ?_
  refine y_cv (g := gX) (L := LX) (As := [.int (xs (i3 + (1 : Int32)).toNatClampNeg), .int (xs (i3 + (2 : Int32)).toNatClampNeg)]) (n := 2) (T := TX6) (N := 14) (rest := []) hx hb hml hown hT hGX hN hz.1 hz.2.2 (c_X6_as l gX hq) kdX_0 rfl rfl rfl rfl kw_677 kw_62 kw_674 kw_675 kw_676 (by decide +kernel) rfl ⟨(Nat.le_of_ble_eq_true rfl), (Nat.le_of_ble_eq_true rfl)⟩ hcs hl.1 (Nat.le_of_ble_eq_true rfl) dL_law_1193 (fun H1 locs1 z1 z2 z3 => ?_)
  have hz := lk_x hB hz z1 z2 z3
  refine lv_aload_n hx hb dL_law_1196 rfl (lv_at hl 2 rfl) ?_
  refine lv_aload_n hx hb dL_law_1197 rfl (lv_at hl 0 rfl) ?_
  refine lv_iload_n hx hb dL_law_1198 rfl (lv_at hl 3 rfl) ?_
  refine lv_iconst (v := (1 : Int32)) hx hb dL_law_1199 (by decide) ?_
  refine lv_iadd hx hb dL_law_1200 ?_
  refine va_sld (A := AL s) hx hb hX hbl (Nat.not_le.mpr hbl) hz.2.2 h1 dL_law_1201 ?_
  refine lv_aload_n hx hb dL_law_1202 rfl (lv_at hl 0 rfl) ?_
  refine lv_iload_n hx hb dL_law_1203 rfl (lv_at hl 3 rfl) ?_
  refine lv_iconst (v := (2 : Int32)) hx hb dL_law_1204 (by decide) ?_
  refine lv_iadd hx hb dL_law_1205 ?_
  refine va_sld (A := AL s) hx hb hX hbl (Nat.not_le.mpr hbl) hz.2.2 h2 dL_law_1206 ?_
  refine y_cv (g := gM) (L := LM) (As := [.int (xs (i3 + (1 : Int32)).toNatClampNeg), .int (xs (i3 + (2 : Int32)).toNatClampNeg)]) (n := 2) (T := TX7) (N := 30) (rest := [.int q.1]) hx hb hml hown hT hGM hN hz.2.1 hz.2.2 (c_X7_as l gM hr) kdM_0 rfl rfl rfl rfl kw_1134 kw_68 kw_1131 kw_1132 kw_1133 (by decide +kernel) rfl ⟨(Nat.le_of_ble_eq_true rfl), (Nat.le_of_ble_eq_true rfl)⟩ hcs hl.1 (Nat.le_of_ble_eq_true rfl) dL_law_1207 (fun H1 locs1 z1 z2 z3 => ?_)
  have hz := lk_m hB hz z1 z2 z3
  refine lv_icmp_eq (tgt := 1307) hx hb dL_law_1210 (by decide) (fun c9 => ?_) (fun c9 => absurd he c9)
  exact kk q.2 r.2 _ _ hI2 hz
set_option maxHeartbeats 4000000 in
set_option maxRecDepth 100000 in
theorem lc_ask {p : Program} {l : Launch} {e : Env} {s : State} {m : MethodId} {args : Array Value} {below : List Frame} {meth : Method} {c : Code} {H : Heap} {locs : List Loc} {Q : State → Prop} {cells slots : Nat} {ls : Array Slot} {gX gM : GP} {b L : Nat} {xs : Nat → Int32} {I : Mem → Mem → Prop} (hS : S_ask I) (hB : LB p s m args c gX gM b L xs) (hcs : cells ≤ room_1.cells ∧ slots ≤ room_1.slots) {i3 : Int32} (hi : vp_in (i3 + 1) L ∧ vp_in (i3 + 2) L ∧ vp_in (i3 + 3) L ∧ vp_in (i3 + 4) L ∧ vp_in (i3 + 5) L) {V U : Mem} (hVU : I V U) (hz : LK gX gM V U s H locs) (hl : lv_has ls 4 [(0, .ref b), (1, .ref (ad gX 0)), (2, .ref (ad gM 0)), (3, .int i3)])
    (kk : ∀ (V U : Mem) (H : Heap) (locs : List Loc), I V U → LK gX gM V U s H locs → W p l e room_1 s m args below meth c H locs cells slots Q (F0 m 1307 ls [])) : W p l e room_1 s m args below meth c H locs cells slots Q (F0 m 1215 ls []) := by
  obtain ⟨hx, hb, hml, hown, hT, hGX, hGM, hN, hdj, hX, hbl⟩ := id hB
  obtain ⟨h1, h2, h3, h4, h5⟩ := hi
  obtain ⟨q, r, hq, hr, he, hI2⟩ := hS (xs (i3 + (1 : Int32)).toNatClampNeg) (xs (i3 + (2 : Int32)).toNatClampNeg) V U hVU
  refine lv_aload_n hx hb dL_law_1215 rfl (lv_at hl 1 rfl) ?_
  refine lv_aload_n hx hb dL_law_1216 rfl (lv_at hl 0 rfl) ?_
  refine lv_iload_n hx hb dL_law_1217 rfl (lv_at hl 3 rfl) ?_
  refine lv_iconst (v := (1 : Int32)) hx hb dL_law_1218 (by decide) ?_
  refine lv_iadd hx hb dL_law_1219 ?_
  refine va_sld (A := AL s) hx hb hX hbl (Nat.not_le.mpr hbl) hz.2.2 h1 dL_law_1220 ?_
  refine lv_aload_n hx hb dL_law_1221 rfl (lv_at hl 0 rfl) ?_
  refine lv_iload_n hx hb dL_law_1222 rfl (lv_at hl 3 rfl) ?_
  refine lv_iconst (v := (2 : Int32)) hx hb dL_law_1223 (by decide) ?_
  refine lv_iadd hx hb dL_law_1224 ?_
  refine va_sld (A := AL s) hx hb hX hbl (Nat.not_le.mpr hbl) hz.2.2 h2 dL_law_1225 ?_
  refine y_cv (g := gX) (L := LX) (As := [.int (xs (i3 + (1 : Int32)).toNatClampNeg), .int (xs (i3 + (2 : Int32)).toNatClampNeg)]) (n := 2) (T := TX6) (N := 14) (rest := []) hx hb hml hown hT hGX hN hz.1 hz.2.2 (c_X6_ask l gX hq) kdX_0 rfl rfl rfl rfl kw_683 kw_62 kw_680 kw_681 kw_682 (by decide +kernel) rfl ⟨(Nat.le_of_ble_eq_true rfl), (Nat.le_of_ble_eq_true rfl)⟩ hcs hl.1 (Nat.le_of_ble_eq_true rfl) dL_law_1226 (fun H1 locs1 z1 z2 z3 => ?_)
  have hz := lk_x hB hz z1 z2 z3
  refine lv_aload_n hx hb dL_law_1229 rfl (lv_at hl 2 rfl) ?_
  refine lv_aload_n hx hb dL_law_1230 rfl (lv_at hl 0 rfl) ?_
  refine lv_iload_n hx hb dL_law_1231 rfl (lv_at hl 3 rfl) ?_
  refine lv_iconst (v := (1 : Int32)) hx hb dL_law_1232 (by decide) ?_
  refine lv_iadd hx hb dL_law_1233 ?_
  refine va_sld (A := AL s) hx hb hX hbl (Nat.not_le.mpr hbl) hz.2.2 h1 dL_law_1234 ?_
  refine lv_aload_n hx hb dL_law_1235 rfl (lv_at hl 0 rfl) ?_
  refine lv_iload_n hx hb dL_law_1236 rfl (lv_at hl 3 rfl) ?_
  refine lv_iconst (v := (2 : Int32)) hx hb dL_law_1237 (by decide) ?_
  refine lv_iadd hx hb dL_law_1238 ?_
  refine va_sld (A := AL s) hx hb hX hbl (Nat.not_le.mpr hbl) hz.2.2 h2 dL_law_1239 ?_
  refine y_cv (g := gM) (L := LM) (As := [.int (xs (i3 + (1 : Int32)).toNatClampNeg), .int (xs (i3 + (2 : Int32)).toNatClampNeg)]) (n := 2) (T := TX7) (N := 30) (rest := [.int q.1]) hx hb hml hown hT hGM hN hz.2.1 hz.2.2 (c_X7_ask l gM hr) kdM_0 rfl rfl rfl rfl kw_1141 kw_68 kw_1138 kw_1139 kw_1140 (by decide +kernel) rfl ⟨(Nat.le_of_ble_eq_true rfl), (Nat.le_of_ble_eq_true rfl)⟩ hcs hl.1 (Nat.le_of_ble_eq_true rfl) dL_law_1240 (fun H1 locs1 z1 z2 z3 => ?_)
  have hz := lk_m hB hz z1 z2 z3
  refine lv_icmp_eq (tgt := 1307) hx hb dL_law_1243 (by decide) (fun c9 => ?_) (fun c9 => absurd he c9)
  exact kk q.2 r.2 _ _ hI2 hz
set_option maxHeartbeats 4000000 in
set_option maxRecDepth 100000 in
theorem lc_trace {p : Program} {l : Launch} {e : Env} {s : State} {m : MethodId} {args : Array Value} {below : List Frame} {meth : Method} {c : Code} {H : Heap} {locs : List Loc} {Q : State → Prop} {cells slots : Nat} {ls : Array Slot} {gX gM : GP} {b L : Nat} {xs : Nat → Int32} {I : Mem → Mem → Prop} (hS : S_trace I) (hB : LB p s m args c gX gM b L xs) (hcs : cells ≤ room_1.cells ∧ slots ≤ room_1.slots) {i3 : Int32} (hi : vp_in (i3 + 1) L ∧ vp_in (i3 + 2) L ∧ vp_in (i3 + 3) L ∧ vp_in (i3 + 4) L ∧ vp_in (i3 + 5) L) {V U : Mem} (hVU : I V U) (hz : LK gX gM V U s H locs) (hl : lv_has ls 4 [(0, .ref b), (1, .ref (ad gX 0)), (2, .ref (ad gM 0)), (3, .int i3)])
    (kk : ∀ (V U : Mem) (H : Heap) (locs : List Loc), I V U → LK gX gM V U s H locs → W p l e room_1 s m args below meth c H locs cells slots Q (F0 m 1307 ls [])) : W p l e room_1 s m args below meth c H locs cells slots Q (F0 m 1248 ls []) := by
  obtain ⟨hx, hb, hml, hown, hT, hGX, hGM, hN, hdj, hX, hbl⟩ := id hB
  obtain ⟨h1, h2, h3, h4, h5⟩ := hi
  obtain ⟨q, r, hq, hr, he, hI2⟩ := hS (xs (i3 + (1 : Int32)).toNatClampNeg) V U hVU
  refine lv_aload_n hx hb dL_law_1248 rfl (lv_at hl 1 rfl) ?_
  refine lv_aload_n hx hb dL_law_1249 rfl (lv_at hl 0 rfl) ?_
  refine lv_iload_n hx hb dL_law_1250 rfl (lv_at hl 3 rfl) ?_
  refine lv_iconst (v := (1 : Int32)) hx hb dL_law_1251 (by decide) ?_
  refine lv_iadd hx hb dL_law_1252 ?_
  refine va_sld (A := AL s) hx hb hX hbl (Nat.not_le.mpr hbl) hz.2.2 h1 dL_law_1253 ?_
  refine y_cv (g := gX) (L := LX) (As := [.int (xs (i3 + (1 : Int32)).toNatClampNeg)]) (n := 1) (T := TX6) (N := 14) (rest := []) hx hb hml hown hT hGX hN hz.1 hz.2.2 (c_X6_trace l gX hq) kdX_0 rfl rfl rfl rfl kw_703 kw_62 kw_700 kw_701 kw_702 (by decide +kernel) rfl ⟨(Nat.le_of_ble_eq_true rfl), (Nat.le_of_ble_eq_true rfl)⟩ hcs hl.1 (Nat.le_of_ble_eq_true rfl) dL_law_1254 (fun H1 locs1 z1 z2 z3 => ?_)
  have hz := lk_x hB hz z1 z2 z3
  refine lv_aload_n hx hb dL_law_1257 rfl (lv_at hl 2 rfl) ?_
  refine lv_aload_n hx hb dL_law_1258 rfl (lv_at hl 0 rfl) ?_
  refine lv_iload_n hx hb dL_law_1259 rfl (lv_at hl 3 rfl) ?_
  refine lv_iconst (v := (1 : Int32)) hx hb dL_law_1260 (by decide) ?_
  refine lv_iadd hx hb dL_law_1261 ?_
  refine va_sld (A := AL s) hx hb hX hbl (Nat.not_le.mpr hbl) hz.2.2 h1 dL_law_1262 ?_
  refine y_cv (g := gM) (L := LM) (As := [.int (xs (i3 + (1 : Int32)).toNatClampNeg)]) (n := 1) (T := TX7) (N := 30) (rest := [.int q.1]) hx hb hml hown hT hGM hN hz.2.1 hz.2.2 (c_X7_trace l gM hr) kdM_0 rfl rfl rfl rfl kw_1165 kw_68 kw_1162 kw_1163 kw_1164 (by decide +kernel) rfl ⟨(Nat.le_of_ble_eq_true rfl), (Nat.le_of_ble_eq_true rfl)⟩ hcs hl.1 (Nat.le_of_ble_eq_true rfl) dL_law_1263 (fun H1 locs1 z1 z2 z3 => ?_)
  have hz := lk_m hB hz z1 z2 z3
  refine lv_icmp_eq (tgt := 1307) hx hb dL_law_1266 (by decide) (fun c9 => ?_) (fun c9 => absurd he c9)
  exact kk q.2 r.2 _ _ hI2 hz
set_option maxHeartbeats 4000000 in
set_option maxRecDepth 100000 in
theorem lc_count {p : Program} {l : Launch} {e : Env} {s : State} {m : MethodId} {args : Array Value} {below : List Frame} {meth : Method} {c : Code} {H : Heap} {locs : List Loc} {Q : State → Prop} {cells slots : Nat} {ls : Array Slot} {gX gM : GP} {b L : Nat} {xs : Nat → Int32} {I : Mem → Mem → Prop} (hS : S_count I) (hB : LB p s m args c gX gM b L xs) (hcs : cells ≤ room_1.cells ∧ slots ≤ room_1.slots) {i3 : Int32} (hi : vp_in (i3 + 1) L ∧ vp_in (i3 + 2) L ∧ vp_in (i3 + 3) L ∧ vp_in (i3 + 4) L ∧ vp_in (i3 + 5) L) {V U : Mem} (hVU : I V U) (hz : LK gX gM V U s H locs) (hl : lv_has ls 4 [(0, .ref b), (1, .ref (ad gX 0)), (2, .ref (ad gM 0)), (3, .int i3)])
    (kk : ∀ (V U : Mem) (H : Heap) (locs : List Loc), I V U → LK gX gM V U s H locs → W p l e room_1 s m args below meth c H locs cells slots Q (F0 m 1307 ls [])) : W p l e room_1 s m args below meth c H locs cells slots Q (F0 m 1271 ls []) := by
  obtain ⟨hx, hb, hml, hown, hT, hGX, hGM, hN, hdj, hX, hbl⟩ := id hB
  obtain ⟨h1, h2, h3, h4, h5⟩ := hi
  obtain ⟨q, r, hq, hr, he, hI2⟩ := hS (xs (i3 + (1 : Int32)).toNatClampNeg) V U hVU
  refine lv_aload_n hx hb dL_law_1271 rfl (lv_at hl 1 rfl) ?_
  refine lv_aload_n hx hb dL_law_1272 rfl (lv_at hl 0 rfl) ?_
  refine lv_iload_n hx hb dL_law_1273 rfl (lv_at hl 3 rfl) ?_
  refine lv_iconst (v := (1 : Int32)) hx hb dL_law_1274 (by decide) ?_
  refine lv_iadd hx hb dL_law_1275 ?_
  refine va_sld (A := AL s) hx hb hX hbl (Nat.not_le.mpr hbl) hz.2.2 h1 dL_law_1276 ?_
  refine y_cv (g := gX) (L := LX) (As := [.int (xs (i3 + (1 : Int32)).toNatClampNeg)]) (n := 1) (T := TX6) (N := 14) (rest := []) hx hb hml hown hT hGX hN hz.1 hz.2.2 (c_X6_count l gX hq) kdX_0 rfl rfl rfl rfl kw_707 kw_62 kw_704 kw_705 kw_706 (by decide +kernel) rfl ⟨(Nat.le_of_ble_eq_true rfl), (Nat.le_of_ble_eq_true rfl)⟩ hcs hl.1 (Nat.le_of_ble_eq_true rfl) dL_law_1277 (fun H1 locs1 z1 z2 z3 => ?_)
  have hz := lk_x hB hz z1 z2 z3
  refine lv_aload_n hx hb dL_law_1280 rfl (lv_at hl 2 rfl) ?_
  refine lv_aload_n hx hb dL_law_1281 rfl (lv_at hl 0 rfl) ?_
  refine lv_iload_n hx hb dL_law_1282 rfl (lv_at hl 3 rfl) ?_
  refine lv_iconst (v := (1 : Int32)) hx hb dL_law_1283 (by decide) ?_
  refine lv_iadd hx hb dL_law_1284 ?_
  refine va_sld (A := AL s) hx hb hX hbl (Nat.not_le.mpr hbl) hz.2.2 h1 dL_law_1285 ?_
  refine y_cv (g := gM) (L := LM) (As := [.int (xs (i3 + (1 : Int32)).toNatClampNeg)]) (n := 1) (T := TX7) (N := 30) (rest := [.int q.1]) hx hb hml hown hT hGM hN hz.2.1 hz.2.2 (c_X7_count l gM hr) kdM_0 rfl rfl rfl rfl kw_1169 kw_68 kw_1166 kw_1167 kw_1168 (by decide +kernel) rfl ⟨(Nat.le_of_ble_eq_true rfl), (Nat.le_of_ble_eq_true rfl)⟩ hcs hl.1 (Nat.le_of_ble_eq_true rfl) dL_law_1286 (fun H1 locs1 z1 z2 z3 => ?_)
  have hz := lk_m hB hz z1 z2 z3
  refine lv_icmp_eq (tgt := 1307) hx hb dL_law_1289 (by decide) (fun c9 => ?_) (fun c9 => absurd he c9)
  exact kk q.2 r.2 _ _ hI2 hz
set_option maxHeartbeats 4000000 in
set_option maxRecDepth 100000 in
theorem lc_status {p : Program} {l : Launch} {e : Env} {s : State} {m : MethodId} {args : Array Value} {below : List Frame} {meth : Method} {c : Code} {H : Heap} {locs : List Loc} {Q : State → Prop} {cells slots : Nat} {ls : Array Slot} {gX gM : GP} {b L : Nat} {xs : Nat → Int32} {I : Mem → Mem → Prop} (hS : S_status I) (hB : LB p s m args c gX gM b L xs) (hcs : cells ≤ room_1.cells ∧ slots ≤ room_1.slots) {i3 : Int32} (hi : vp_in (i3 + 1) L ∧ vp_in (i3 + 2) L ∧ vp_in (i3 + 3) L ∧ vp_in (i3 + 4) L ∧ vp_in (i3 + 5) L) {V U : Mem} (hVU : I V U) (hz : LK gX gM V U s H locs) (hl : lv_has ls 4 [(0, .ref b), (1, .ref (ad gX 0)), (2, .ref (ad gM 0)), (3, .int i3)])
    (kk : ∀ (V U : Mem) (H : Heap) (locs : List Loc), I V U → LK gX gM V U s H locs → W p l e room_1 s m args below meth c H locs cells slots Q (F0 m 1307 ls [])) : W p l e room_1 s m args below meth c H locs cells slots Q (F0 m 1294 ls []) := by
  obtain ⟨hx, hb, hml, hown, hT, hGX, hGM, hN, hdj, hX, hbl⟩ := id hB
  obtain ⟨h1, h2, h3, h4, h5⟩ := hi
  obtain ⟨q, r, hq, hr, he, hI2⟩ := hS  V U hVU
  refine lv_aload_n hx hb dL_law_1294 rfl (lv_at hl 1 rfl) ?_
  refine y_cv (g := gX) (L := LX) (As := []) (n := 0) (T := TX6) (N := 14) (rest := []) hx hb hml hown hT hGX hN hz.1 hz.2.2 (c_X6_status l gX hq) kdX_0 rfl rfl rfl rfl kw_715 kw_62 kw_712 kw_713 kw_714 (by decide +kernel) rfl ⟨(Nat.le_of_ble_eq_true rfl), (Nat.le_of_ble_eq_true rfl)⟩ hcs hl.1 (Nat.le_of_ble_eq_true rfl) dL_law_1295 (fun H1 locs1 z1 z2 z3 => ?_)
  have hz := lk_x hB hz z1 z2 z3
  refine lv_aload_n hx hb dL_law_1298 rfl (lv_at hl 2 rfl) ?_
  refine y_cv (g := gM) (L := LM) (As := []) (n := 0) (T := TX7) (N := 30) (rest := [.int q.1]) hx hb hml hown hT hGM hN hz.2.1 hz.2.2 (c_X7_status l gM hr) kdM_0 rfl rfl rfl rfl kw_1173 kw_68 kw_1170 kw_1171 kw_1172 (by decide +kernel) rfl ⟨(Nat.le_of_ble_eq_true rfl), (Nat.le_of_ble_eq_true rfl)⟩ hcs hl.1 (Nat.le_of_ble_eq_true rfl) dL_law_1299 (fun H1 locs1 z1 z2 z3 => ?_)
  have hz := lk_m hB hz z1 z2 z3
  refine lv_icmp_eq (tgt := 1307) hx hb dL_law_1302 (by decide) (fun c9 => ?_) (fun c9 => absurd he c9)
  exact kk q.2 r.2 _ _ hI2 hz
set_option maxHeartbeats 8000000 in
set_option maxRecDepth 100000 in
theorem law_loop {p : Program} {l : Launch} {e : Env} {s : State} {m : MethodId} {below : List Frame} {meth : Method} {c : Code} {cells slots : Nat} {gX gM : GP} {b L : Nat} {xs : Nat → Int32} (hr : meth.sig.returnType = ret) (hlk : meth.locks = false) (hL : L ≤ 3072) {I : Mem → Mem → Prop} (S0 : S_row I) (S1 : S_set I) (S2 : S_copy I) (S3 : S_drop I) (S4 : S_feed I) (S5 : S_sheet I) (S6 : S_fault I) (S7 : S_undo I) (S8 : S_put I) (S9 : S_take I) (S10 : S_move I) (S11 : S_change I) (S12 : S_style I) (S13 : S_paragraph I) (S14 : S_label I) (S15 : S_called I) (S16 : S_span I) (S17 : S_register I) (S18 : S_bears I) (S19 : S_changed I) (S20 : S_nearest I) (S21 : S_sets I) (S22 : S_deepest I) (S23 : S_who I) (S24 : S_lost I) (S25 : S_drawn I) (S26 : S_image I) (S27 : S_restore I) (S28 : S_kind I) (S29 : S_as I) (S30 : S_ask I) (S31 : S_trace I) (S32 : S_count I) (S33 : S_status I) (hB : LB p s m #[Value.ref b] c gX gM b L xs) (hcs : cells ≤ room_1.cells ∧ slots ≤ room_1.slots) (hc1 : cells ≤ 600000) (hs1 : slots ≤ 7302250) : ∀ (n i : Nat) (V U : Mem) (H : Heap) (locs : List Loc) (ls : Array Slot), i ≤ L → L + 1 ≤ n + i → I V U → LK gX gM V U s H locs → lv_has ls 4 [(0, .ref b), (1, .ref (ad gX 0)), (2, .ref (ad gM 0)), (3, .int (nI i))] → W p l e room_1 s m #[Value.ref b] below meth c H locs cells slots (lw_Z below #[Value.ref b] s) (F0 m 18 ls []) := by
  obtain ⟨hx, hb, hml, hown, hT, hGX, hGM, hN, hdj, hX, hbl⟩ := id hB
  intro n
  induction n with
  | zero =>
    intro i V U H locs ls h1 h2
    exact absurd h2 (by omega)
  | succ n ih =>
    intro i V U H locs ls h1 h2 hVU hz hl
    refine lv_iload_n hx hb dL_law_18 rfl (lv_at hl 3 rfl) ?_
    refine lv_aload_n hx hb dL_law_19 rfl (lv_at hl 0 rfl) ?_
    refine va_slen (A := AL s) hx hb hX hbl (Nat.not_le.mpr hbl) hz.2.2 dL_law_20 ?_
    refine lv_bipush (v := 6) hx hb dL_law_21 (by decide) ?_
    refine lv_isub hx hb dL_law_23 ?_
    refine lv_icmp_gt (tgt := 1313) hx hb dL_law_24 (by decide) (fun c1 => ?_) (fun c1 => ?_)
    · refine lv_iconst (v := 1) hx hb dL_law_1313 (by decide) ?_
      refine va_forget (fun q h => hz.2.2.2.2 q h) ?_
      refine W.widen hc1 hs1 ?_
      exact lw_ret hx hb hr hlk dL_law_1314
    · have h6 := law_in c1 hL h1
      have hi : vp_in (nI i + 1) L ∧ vp_in (nI i + 2) L ∧ vp_in (nI i + 3) L ∧ vp_in (nI i + 4) L ∧ vp_in (nI i + 5) L := ⟨law_ix 1 (by decide) h6 hL, law_ix 2 (by decide) h6 hL, law_ix 3 (by decide) h6 hL, law_ix 4 (by decide) h6 hL, law_ix 5 (by decide) h6 hL⟩
      have h0 : vp_in (nI i) L := vp_in_nI (by omega) (by omega)
      have kk : ∀ (V U : Mem) (H : Heap) (locs : List Loc), I V U → LK gX gM V U s H locs → W p l e room_1 s m #[Value.ref b] below meth c H locs cells slots (lw_Z below #[Value.ref b] s) (F0 m 1307 ls []) := by
        intro V U H locs hVU hz
        refine lv_iinc (v := nI (i + 6)) (lv' := [(3, .int (nI (i + 6))), (0, .ref b), (1, .ref (ad gX 0)), (2, .ref (ad gM 0))]) hx hb dL_law_1307 hl (k := 3) rfl (nI_add i 6) (by decide) rfl (fun ls hl => ?_)
        refine lv_goto (tgt := 18) hx hb dL_law_1310 (by decide) ?_
        exact ih (i + 6) V U H locs ls h6 (by omega) hVU hz (lv_sub hl [1, 2, 3, 0] rfl)
      refine lv_aload_n hx hb dL_law_27 rfl (lv_at hl 0 rfl) ?_
      refine lv_iload_n hx hb dL_law_28 rfl (lv_at hl 3 rfl) ?_
      refine va_sld (A := AL s) hx hb hX hbl (Nat.not_le.mpr hbl) hz.2.2 h0 dL_law_29 ?_
      refine lv_bipush (v := 63) hx hb dL_law_30 (by decide) ?_
      refine lv_iand hx hb dL_law_32 ?_
      refine lv_topi (fun z ez => ?_)
      by_cases c_0 : z = (0 : Int32)
      · refine lv_tableIn (tgt := 184) hx hb dL_law_33 (by rw [c_0]; decide) (by rw [c_0]; decide) (by rw [c_0]; rfl) (by decide) ?_
        exact lc_row S0 hB hcs hi hVU hz hl kk
      by_cases c_1 : z = (1 : Int32)
      · refine lv_tableIn (tgt := 227) hx hb dL_law_33 (by rw [c_1]; decide) (by rw [c_1]; decide) (by rw [c_1]; rfl) (by decide) ?_
        exact lc_set S1 hB hcs hi hVU hz hl kk
      by_cases c_2 : z = (2 : Int32)
      · refine lv_tableIn (tgt := 270) hx hb dL_law_33 (by rw [c_2]; decide) (by rw [c_2]; decide) (by rw [c_2]; rfl) (by decide) ?_
        exact lc_copy S2 hB hcs hi hVU hz hl kk
      by_cases c_3 : z = (3 : Int32)
      · refine lv_tableIn (tgt := 333) hx hb dL_law_33 (by rw [c_3]; decide) (by rw [c_3]; decide) (by rw [c_3]; rfl) (by decide) ?_
        exact lc_drop S3 hB hcs hi hVU hz hl kk
      by_cases c_4 : z = (4 : Int32)
      · refine lv_tableIn (tgt := 356) hx hb dL_law_33 (by rw [c_4]; decide) (by rw [c_4]; decide) (by rw [c_4]; rfl) (by decide) ?_
        exact lc_feed S4 hB hcs hi hVU hz hl kk
      by_cases c_5 : z = (5 : Int32)
      · refine lv_tableIn (tgt := 379) hx hb dL_law_33 (by rw [c_5]; decide) (by rw [c_5]; decide) (by rw [c_5]; rfl) (by decide) ?_
        exact lc_sheet S5 hB hcs hi hVU hz hl kk
      by_cases c_6 : z = (6 : Int32)
      · refine lv_tableIn (tgt := 392) hx hb dL_law_33 (by rw [c_6]; decide) (by rw [c_6]; decide) (by rw [c_6]; rfl) (by decide) ?_
        exact lc_fault S6 hB hcs hi hVU hz hl kk
      by_cases c_7 : z = (7 : Int32)
      · refine lv_tableIn (tgt := 405) hx hb dL_law_33 (by rw [c_7]; decide) (by rw [c_7]; decide) (by rw [c_7]; rfl) (by decide) ?_
        exact lc_undo S7 hB hcs hi hVU hz hl kk
      by_cases c_8 : z = (8 : Int32)
      · refine lv_tableIn (tgt := 418) hx hb dL_law_33 (by rw [c_8]; decide) (by rw [c_8]; decide) (by rw [c_8]; rfl) (by decide) ?_
        exact lc_put S8 hB hcs hi hVU hz hl kk
      by_cases c_9 : z = (9 : Int32)
      · refine lv_tableIn (tgt := 471) hx hb dL_law_33 (by rw [c_9]; decide) (by rw [c_9]; decide) (by rw [c_9]; rfl) (by decide) ?_
        exact lc_take S9 hB hcs hi hVU hz hl kk
      by_cases c_10 : z = (10 : Int32)
      · refine lv_tableIn (tgt := 494) hx hb dL_law_33 (by rw [c_10]; decide) (by rw [c_10]; decide) (by rw [c_10]; rfl) (by decide) ?_
        exact lc_move S10 hB hcs hi hVU hz hl kk
      by_cases c_11 : z = (11 : Int32)
      · refine lv_tableIn (tgt := 527) hx hb dL_law_33 (by rw [c_11]; decide) (by rw [c_11]; decide) (by rw [c_11]; rfl) (by decide) ?_
        exact lc_change S11 hB hcs hi hVU hz hl kk
      by_cases c_12 : z = (12 : Int32)
      · refine lv_tableIn (tgt := 580) hx hb dL_law_33 (by rw [c_12]; decide) (by rw [c_12]; decide) (by rw [c_12]; rfl) (by decide) ?_
        exact lc_style S12 hB hcs hi hVU hz hl kk
      by_cases c_13 : z = (13 : Int32)
      · refine lv_tableIn (tgt := 613) hx hb dL_law_33 (by rw [c_13]; decide) (by rw [c_13]; decide) (by rw [c_13]; rfl) (by decide) ?_
        exact lc_paragraph S13 hB hcs hi hVU hz hl kk
      by_cases c_14 : z = (14 : Int32)
      · refine lv_tableIn (tgt := 646) hx hb dL_law_33 (by rw [c_14]; decide) (by rw [c_14]; decide) (by rw [c_14]; rfl) (by decide) ?_
        exact lc_label S14 hB hcs hi hVU hz hl kk
      by_cases c_15 : z = (15 : Int32)
      · refine lv_tableIn (tgt := 689) hx hb dL_law_33 (by rw [c_15]; decide) (by rw [c_15]; decide) (by rw [c_15]; rfl) (by decide) ?_
        exact lc_called S15 hB hcs hi hVU hz hl kk
      by_cases c_16 : z = (16 : Int32)
      · refine lv_tableIn (tgt := 732) hx hb dL_law_33 (by rw [c_16]; decide) (by rw [c_16]; decide) (by rw [c_16]; rfl) (by decide) ?_
        exact lc_span S16 hB hcs hi hVU hz hl kk
      by_cases c_17 : z = (17 : Int32)
      · refine lv_tableIn (tgt := 785) hx hb dL_law_33 (by rw [c_17]; decide) (by rw [c_17]; decide) (by rw [c_17]; rfl) (by decide) ?_
        exact lc_register S17 hB hcs hi hVU hz hl kk
      by_cases c_18 : z = (18 : Int32)
      · refine lv_tableIn (tgt := 808) hx hb dL_law_33 (by rw [c_18]; decide) (by rw [c_18]; decide) (by rw [c_18]; rfl) (by decide) ?_
        exact lc_bears S18 hB hcs hi hVU hz hl kk
      by_cases c_19 : z = (19 : Int32)
      · refine lv_tableIn (tgt := 851) hx hb dL_law_33 (by rw [c_19]; decide) (by rw [c_19]; decide) (by rw [c_19]; rfl) (by decide) ?_
        exact lc_changed S19 hB hcs hi hVU hz hl kk
      by_cases c_20 : z = (20 : Int32)
      · refine lv_tableIn (tgt := 874) hx hb dL_law_33 (by rw [c_20]; decide) (by rw [c_20]; decide) (by rw [c_20]; rfl) (by decide) ?_
        exact lc_nearest S20 hB hcs hi hVU hz hl kk
      by_cases c_21 : z = (21 : Int32)
      · refine lv_tableIn (tgt := 907) hx hb dL_law_33 (by rw [c_21]; decide) (by rw [c_21]; decide) (by rw [c_21]; rfl) (by decide) ?_
        exact lc_sets S21 hB hcs hi hVU hz hl kk
      by_cases c_22 : z = (22 : Int32)
      · refine lv_tableIn (tgt := 930) hx hb dL_law_33 (by rw [c_22]; decide) (by rw [c_22]; decide) (by rw [c_22]; rfl) (by decide) ?_
        exact lc_deepest S22 hB hcs hi hVU hz hl kk
      by_cases c_23 : z = (23 : Int32)
      · refine lv_tableIn (tgt := 953) hx hb dL_law_33 (by rw [c_23]; decide) (by rw [c_23]; decide) (by rw [c_23]; rfl) (by decide) ?_
        exact lc_who S23 hB hcs hi hVU hz hl kk
      by_cases c_24 : z = (24 : Int32)
      · refine lv_tableIn (tgt := 1016) hx hb dL_law_33 (by rw [c_24]; decide) (by rw [c_24]; decide) (by rw [c_24]; rfl) (by decide) ?_
        exact lc_lost S24 hB hcs hi hVU hz hl kk
      by_cases c_25 : z = (25 : Int32)
      · refine lv_tableIn (tgt := 1070) hx hb dL_law_33 (by rw [c_25]; decide) (by rw [c_25]; decide) (by rw [c_25]; rfl) (by decide) ?_
        exact lc_drawn S25 hB hcs hi hVU hz hl kk
      by_cases c_26 : z = (26 : Int32)
      · refine lv_tableIn (tgt := 1113) hx hb dL_law_33 (by rw [c_26]; decide) (by rw [c_26]; decide) (by rw [c_26]; rfl) (by decide) ?_
        exact lc_image S26 hB hcs hi hVU hz hl kk
      by_cases c_27 : z = (27 : Int32)
      · refine lv_tableIn (tgt := 1136) hx hb dL_law_33 (by rw [c_27]; decide) (by rw [c_27]; decide) (by rw [c_27]; rfl) (by decide) ?_
        exact lc_restore S27 hB hcs hi hVU hz hl kk
      by_cases c_28 : z = (28 : Int32)
      · refine lv_tableIn (tgt := 1159) hx hb dL_law_33 (by rw [c_28]; decide) (by rw [c_28]; decide) (by rw [c_28]; rfl) (by decide) ?_
        exact lc_kind S28 hB hcs hi hVU hz hl kk
      by_cases c_29 : z = (29 : Int32)
      · refine lv_tableIn (tgt := 1182) hx hb dL_law_33 (by rw [c_29]; decide) (by rw [c_29]; decide) (by rw [c_29]; rfl) (by decide) ?_
        exact lc_as S29 hB hcs hi hVU hz hl kk
      by_cases c_30 : z = (30 : Int32)
      · refine lv_tableIn (tgt := 1215) hx hb dL_law_33 (by rw [c_30]; decide) (by rw [c_30]; decide) (by rw [c_30]; rfl) (by decide) ?_
        exact lc_ask S30 hB hcs hi hVU hz hl kk
      by_cases c_31 : z = (31 : Int32)
      · refine lv_tableIn (tgt := 1248) hx hb dL_law_33 (by rw [c_31]; decide) (by rw [c_31]; decide) (by rw [c_31]; rfl) (by decide) ?_
        exact lc_trace S31 hB hcs hi hVU hz hl kk
      by_cases c_32 : z = (32 : Int32)
      · refine lv_tableIn (tgt := 1271) hx hb dL_law_33 (by rw [c_32]; decide) (by rw [c_32]; decide) (by rw [c_32]; rfl) (by decide) ?_
        exact lc_count S32 hB hcs hi hVU hz hl kk
      by_cases c_33 : z = (33 : Int32)
      · refine lv_tableIn (tgt := 1294) hx hb dL_law_33 (by rw [c_33]; decide) (by rw [c_33]; decide) (by rw [c_33]; rfl) (by decide) ?_
        exact lc_status S33 hB hcs hi hVU hz hl kk
      have nc_0 := x_nei c_0 (k := 0) (by decide)
      have nc_1 := x_nei c_1 (k := 1) (by decide)
      have nc_2 := x_nei c_2 (k := 2) (by decide)
      have nc_3 := x_nei c_3 (k := 3) (by decide)
      have nc_4 := x_nei c_4 (k := 4) (by decide)
      have nc_5 := x_nei c_5 (k := 5) (by decide)
      have nc_6 := x_nei c_6 (k := 6) (by decide)
      have nc_7 := x_nei c_7 (k := 7) (by decide)
      have nc_8 := x_nei c_8 (k := 8) (by decide)
      have nc_9 := x_nei c_9 (k := 9) (by decide)
      have nc_10 := x_nei c_10 (k := 10) (by decide)
      have nc_11 := x_nei c_11 (k := 11) (by decide)
      have nc_12 := x_nei c_12 (k := 12) (by decide)
      have nc_13 := x_nei c_13 (k := 13) (by decide)
      have nc_14 := x_nei c_14 (k := 14) (by decide)
      have nc_15 := x_nei c_15 (k := 15) (by decide)
      have nc_16 := x_nei c_16 (k := 16) (by decide)
      have nc_17 := x_nei c_17 (k := 17) (by decide)
      have nc_18 := x_nei c_18 (k := 18) (by decide)
      have nc_19 := x_nei c_19 (k := 19) (by decide)
      have nc_20 := x_nei c_20 (k := 20) (by decide)
      have nc_21 := x_nei c_21 (k := 21) (by decide)
      have nc_22 := x_nei c_22 (k := 22) (by decide)
      have nc_23 := x_nei c_23 (k := 23) (by decide)
      have nc_24 := x_nei c_24 (k := 24) (by decide)
      have nc_25 := x_nei c_25 (k := 25) (by decide)
      have nc_26 := x_nei c_26 (k := 26) (by decide)
      have nc_27 := x_nei c_27 (k := 27) (by decide)
      have nc_28 := x_nei c_28 (k := 28) (by decide)
      have nc_29 := x_nei c_29 (k := 29) (by decide)
      have nc_30 := x_nei c_30 (k := 30) (by decide)
      have nc_31 := x_nei c_31 (k := 31) (by decide)
      have nc_32 := x_nei c_32 (k := 32) (by decide)
      have nc_33 := x_nei c_33 (k := 33) (by decide)
      refine lv_tableOut (tgt := 1307) hx hb dL_law_33 (by omega) (by decide) ?_
      exact kk V U H locs hVU hz

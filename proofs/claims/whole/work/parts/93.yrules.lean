/-! The class's own constructor: what stands so far. -/
def qr (f : Nat → Option Nat) : (Nat → Int32) ⊕ (Nat → Int64) ⊕ (Nat → UInt32) ⊕ (Nat → UInt64) ⊕ (Nat → Option Nat) := .inr (.inr (.inr (.inr f)))
def XI (g : GP) (n : Nat) (E : Nat → va_E) (fs : List Value) (f1 f2 f3 : Nat → Option Nat) : Prop := E 0 = .inr (5, fs) ∧ (1 < n → E 1 = .inl (ac g 4, 8, qr f1)) ∧ (66 < n → E 66 = .inl (ac g 5, 2, qr f2)) ∧ (93 < n → E 93 = .inl (ac g 6, 24, qr f3)) ∧ ∀ i, i < n → i ≠ 0 → i ≠ 1 → i ≠ 66 → i ≠ 93 → E i = EK g (LX.1 i) i (vk (LX.1 i))
def YZ (g : GP) (n : Nat) (fs : List Value) (f1 f2 f3 : Nat → Option Nat) (s : State) (H : Heap) (locs : List Loc) : Prop := ∃ E, OZ g n E s H locs ∧ XI g n E fs f1 f2 f3
def nk (n k : Nat) (κ : Nat) : Prop := LX.1 (n + k) = κ ∧ n + k ≠ 1 ∧ n + k ≠ 66 ∧ n + k ≠ 93
theorem XI.grow {g : GP} {n len : Nat} {E E' : Nat → va_E} {fs : List Value} {f1 f2 f3 : Nat → Option Nat} {ks : Nat → Nat} (h : XI g n E fs f1 f2 f3) (h1 : 1 ≤ n) (e1 : ∀ k, k < n → E' k = E k) (e2 : ∀ k, k < len → E' (n + k) = EK g (ks k) (n + k) (vk (ks k))) (hk : ∀ k, k < len → nk n k (ks k)) : XI g (n + len) E' fs f1 f2 f3 := by
  obtain ⟨a1, a2, a3, a4, a5⟩ := h
  refine ⟨by rw [e1 0 (by omega)]; exact a1, fun q => ?_, fun q => ?_, fun q => ?_, fun i hi q0 q1 q2 q3 => ?_⟩
  · by_cases c : 1 < n
    · rw [e1 1 c]; exact a2 c
    · exact absurd (hk (1 - n) (by omega)).2.1 (by omega)
  · by_cases c : 66 < n
    · rw [e1 66 c]; exact a3 c
    · exact absurd (hk (66 - n) (by omega)).2.2.1 (by omega)
  · by_cases c : 93 < n
    · rw [e1 93 c]; exact a4 c
    · exact absurd (hk (93 - n) (by omega)).2.2.2 (by omega)
  · by_cases c : i < n
    · rw [e1 i c]; exact a5 i c q0 q1 q2 q3
    · obtain ⟨k, rfl⟩ : ∃ k, i = n + k := ⟨i - n, by omega⟩
      rw [e2 k (by omega), (hk k (by omega)).1]
theorem XI.obj {g : GP} {n : Nat} {E : Nat → va_E} {fs fs' : List Value} {f1 f2 f3 : Nat → Option Nat} (h : XI g n E fs f1 f2 f3) : XI g n (UP E 0 (.inr (5, fs'))) fs' f1 f2 f3 := by
  obtain ⟨a1, a2, a3, a4, a5⟩ := h
  exact ⟨UP_eq, fun q => by rw [UP_ne (by omega)]; exact a2 q, fun q => by rw [UP_ne (by omega)]; exact a3 q, fun q => by rw [UP_ne (by omega)]; exact a4 q, fun i hi q0 q1 q2 q3 => by rw [UP_ne q0]; exact a5 i hi q0 q1 q2 q3⟩
theorem XI.q1 {g : GP} {n n' : Nat} {E : Nat → va_E} {fs : List Value} {f f1 f2 f3 : Nat → Option Nat} (h : XI g n E fs f1 f2 f3) (hn : ∀ i, i < n' → i ≠ 1 → i < n) : XI g n' (UP E 1 (.inl (ac g 4, 8, qr f))) fs f f2 f3 := by
  obtain ⟨a1, a2, a3, a4, a5⟩ := h
  exact ⟨by rw [UP_ne (by omega)]; exact a1, fun q => UP_eq, fun q => by rw [UP_ne (by omega)]; exact a3 (hn _ q (by omega)), fun q => by rw [UP_ne (by omega)]; exact a4 (hn _ q (by omega)), fun i hi q0 q1 q2 q3 => by rw [UP_ne q1]; exact a5 i (hn i hi q1) q0 q1 q2 q3⟩
theorem XI.q2 {g : GP} {n n' : Nat} {E : Nat → va_E} {fs : List Value} {f f1 f2 f3 : Nat → Option Nat} (h : XI g n E fs f1 f2 f3) (hn : ∀ i, i < n' → i ≠ 66 → i < n) : XI g n' (UP E 66 (.inl (ac g 5, 2, qr f))) fs f1 f f3 := by
  obtain ⟨a1, a2, a3, a4, a5⟩ := h
  exact ⟨by rw [UP_ne (by omega)]; exact a1, fun q => by rw [UP_ne (by omega)]; exact a2 (hn _ q (by omega)), fun q => UP_eq, fun q => by rw [UP_ne (by omega)]; exact a4 (hn _ q (by omega)), fun i hi q0 q1 q2 q3 => by rw [UP_ne q2]; exact a5 i (hn i hi q2) q0 q1 q2 q3⟩
theorem XI.q3 {g : GP} {n n' : Nat} {E : Nat → va_E} {fs : List Value} {f f1 f2 f3 : Nat → Option Nat} (h : XI g n E fs f1 f2 f3) (hn : ∀ i, i < n' → i ≠ 93 → i < n) : XI g n' (UP E 93 (.inl (ac g 6, 24, qr f))) fs f1 f2 f := by
  obtain ⟨a1, a2, a3, a4, a5⟩ := h
  exact ⟨by rw [UP_ne (by omega)]; exact a1, fun q => by rw [UP_ne (by omega)]; exact a2 (hn _ q (by omega)), fun q => by rw [UP_ne (by omega)]; exact a3 (hn _ q (by omega)), fun q => UP_eq, fun i hi q0 q1 q2 q3 => by rw [UP_ne q3]; exact a5 i (hn i hi q3) q0 q1 q2 q3⟩
section YRU
variable {p : Program} {l : Launch} {e : Env} {R : Room} {s : State} {m : MethodId} {args : Array Value} {below : List Frame} {meth : Method} {c : Code} {H : Heap} {locs : List Loc} {cells slots : Nat} {Q : State → Prop}
variable {cc : ByteArray} {pc : Nat} {ls : Array Slot} {rest : List Value} {g : GP} {nL n i len : Nat} {ks : Nat → Nat} {fs : List Value} {f1 f2 f3 : Nat → Option Nat}
theorem y_obj {C : String} {T : u_T} {N ci index ix2 n1 mc ms : Nat} {y : MethodName} {c1 : ByteArray} {rm : Room} {dfs : List Value} (hB : BZ p s m args c g cc nL RX6) (hz : YZ g n fs f1 f2 f3 s H locs) (h1 : 1 ≤ n) (hM : CC l g y c1 n1 rm ci dfs ks len) (hk : ∀ k, k < len → nk n k (ks k)) (hin : ∀ w ∈ u_ws C T N, w ∈ lw_g) (ty : Nat → FieldType) (hty : ∀ k, k < N → parseFieldDescriptor (T k).2.2.1 = some (ty k)) (hcl : Cond.classLink RX6 index C ∈ lw_g) (hinst : Cond.instantiable C N ∈ lw_g) (hini : Cond.initialized C ∈ lw_g) (hc : zcls[ci]? = some (C, T, N)) (hfs : ∀ j, j < N → defaultValue (ty j) = vp_V dfs j)
    (hmc : rm.cells = mc) (hms : rm.slots = ms) (hw : (ix2, y) ∈ cnw) (hy : y.name = "<init>") (hyc : y.cls = C) (w1 : Cond.code y c1 n1 none ∈ lw_g) (w4 : Cond.instanceMethod y ∈ lw_g) (hd : y.cls ≠ "java/lang/invoke/MethodHandle" ∧ y.cls ≠ "java/lang/invoke/VarHandle" ∧ (parseMethodDescriptor y.desc).map (fun d => d.parameters.length) = some 0) (hR : rm.frames + 1 ≤ R.frames ∧ 8 + (n1 + 11) + rm.locals ≤ R.locals) (hcs : cells + 1 + mc ≤ R.cells ∧ slots + N + ms ≤ R.slots) (hsz : ls.size = nL) (hrest : ((Value.ref (ad g n) :: rest).map fun v => v.category).sum ≤ 8)
    (d1 : decode cc pc = .ok (.new index, 3)) (d2 : decode cc (pc + 3) = .ok (.dup, 1)) (d3 : decode cc (pc + 4) = .ok (.invokespecial ix2, 3))
    (kk : ∀ (H1 : Heap) (locs1 : List Loc), YZ g (n + len) fs f1 f2 f3 s H1 locs1 → W p l e R s m args below meth c H1 locs1 (cells + 1 + mc) (slots + N + ms) Q (F0 m (pc + 7) ls (.ref (ad g n) :: rest))) : W p l e R s m args below meth c H locs cells slots Q (F0 m pc ls rest) := by
  obtain ⟨E, hz, hX⟩ := hz
  subst hyc
  refine z_new (n := n) (fs := dfs) hB hz hin ty hty hcl hinst hini hc hfs (by omega) (by omega) d1 (fun H hz => ?_)
  refine lv_dup hB.1 hB.2.1 d2 rfl ?_
  refine z_cin (n := n) (fs := dfs) hB hz hM UP_eq hmc hms hw hy w1 hini w4 hd hR hcs hsz hrest d3 (fun E' H1 locs1 hz e1 e2 => ?_)
  exact kk H1 locs1 ⟨E', hz, hX.grow h1 (fun k hk => by rw [e1 k hk, UP_ne (by omega)]) e2 hk⟩
theorem y_arr {N : Nat} {x : Int32} (hB : BZ p s m args c g cc nL RX6) (hz : YZ g n fs f1 f2 f3 s H locs) (h1 : 1 ≤ n) (hk : nk n 0 (N + 16)) (harr : Cond.arrayClass .int ∈ lw_g) (hn : ¬ x < 0) (hN : x.toNatClampNeg = N) (hbytes : N * componentBytes .int ≤ 536870912) (hcells : cells + 1 ≤ R.cells) (hslots : slots + N ≤ R.slots) (hdg : decode cc pc = .ok (.newarray .int, 2))
    (kk : ∀ (H1 : Heap), YZ g (n + 1) fs f1 f2 f3 s H1 locs → W p l e R s m args below meth c H1 locs (cells + 1) (slots + N) Q (F0 m (pc + 2) ls (.ref (ad g n) :: rest))) : W p l e R s m args below meth c H locs cells slots Q (F0 m pc ls (.int x :: rest)) := by
  obtain ⟨E, hz, hX⟩ := hz
  refine z_newa (N := N) (t0 := 0) (atype := .int) (ty := .int) (a0 := (N, .inl (fun _ => 0))) hB hz rfl rfl (fun h => h) harr (fun _ => rfl) hn hN hbytes hcells hslots hdg (fun H hz => ?_)
  refine kk H ⟨_, hz, hX.grow (len := 1) (ks := fun _ => N + 16) h1 (fun k hk => UP_ne (by omega)) (fun k hk => ?_) (fun k hk2 => ?_)⟩
  · rw [show k = 0 by omega, Nat.add_zero, UP_eq]
    have e : (fun _ => 0 : Nat → Int32) = vk (N + 16) := by
      funext j
      unfold vk
      rw [if_neg (by omega)]
    rw [e]
    rfl
  · rw [show k = 0 by omega]; exact hk
theorem y_putF {index : Nat} {v : Value} {ty : FieldType} (hB : BZ p s m args c g cc nL RX6) (hnm : meth.name = "<init>") (hz : YZ g n fs f1 f2 f3 s H locs) (h1 : 1 ≤ n) (k : Nat) (hk : k < 14) (hl : Cond.fieldLink RX6 index (TX6 k).1 (TX6 k).2.1 (TX6 k).2.2.1 ∈ lw_g) (hfin : (TX6 k).2.2.2 = true) (hdecl : (TX6 k).1 = RX6) (hd : parseFieldDescriptor (TX6 k).2.2.1 = some ty) (hn : narrow ty v = v) (hfit : fits ty v = true) (hlen : k < fs.length) (hdg : decode cc pc = .ok (.putfield index, 3))
    (kk : ∀ (H1 : Heap) (locs1 : List Loc), YZ g n (fs.set k v) f1 f2 f3 s H1 locs1 → W p l e R s m args below meth c H1 locs1 cells slots Q (F0 m (pc + 3) ls rest)) : W p l e R s m args below meth c H locs cells slots Q (F0 m pc ls (v :: .ref (ad g 0) :: rest)) := by
  obtain ⟨E, hz, hX⟩ := hz
  exact z_putF (i := 0) hB hnm hz (by omega) hX.1 rfl inX6g tyX6 tyX6_ok nmX6 k hk hl hfin hdecl hd hn hfit hlen hdg (fun H1 locs1 hz => kk H1 locs1 ⟨_, hz, hX.obj⟩)
theorem y_put {index : Nat} {v : Value} {ty : FieldType} (hB : BZ p s m args c g cc nL RX6) (hz : YZ g n fs f1 f2 f3 s H locs) (h1 : 1 ≤ n) (k : Nat) (hk : k < 14) (hl : Cond.fieldLink RX6 index (TX6 k).1 (TX6 k).2.1 (TX6 k).2.2.1 ∈ lw_g) (hfin : (TX6 k).2.2.2 = false) (hd : parseFieldDescriptor (TX6 k).2.2.1 = some ty) (hn : narrow ty v = v) (hfit : fits ty v = true) (hlen : k < fs.length) (hdg : decode cc pc = .ok (.putfield index, 3))
    (kk : ∀ (H1 : Heap) (locs1 : List Loc), YZ g n (fs.set k v) f1 f2 f3 s H1 locs1 → W p l e R s m args below meth c H1 locs1 cells slots Q (F0 m (pc + 3) ls rest)) : W p l e R s m args below meth c H locs cells slots Q (F0 m pc ls (v :: .ref (ad g 0) :: rest)) := by
  obtain ⟨E, hz, hX⟩ := hz
  exact z_put (i := 0) hB hz (by omega) hX.1 rfl inX6g tyX6 tyX6_ok nmX6 k hk hl hfin hd hn hfit hlen hdg (fun H1 locs1 hz => kk H1 locs1 ⟨_, hz, hX.obj⟩)
theorem y_get {index : Nat} {v : Value} (hB : BZ p s m args c g cc nL RX6) (hz : YZ g n fs f1 f2 f3 s H locs) (h1 : 1 ≤ n) (k : Nat) (hk : k < 14) (hl : Cond.fieldLink RX6 index (TX6 k).1 (TX6 k).2.1 (TX6 k).2.2.1 ∈ lw_g) (hv : fs[k]? = some v) (hdg : decode cc pc = .ok (.getfield index, 3))
    (kk : W p l e R s m args below meth c H locs cells slots Q (F0 m (pc + 3) ls (v :: rest))) : W p l e R s m args below meth c H locs cells slots Q (F0 m pc ls (.ref (ad g 0) :: rest)) := by
  obtain ⟨E, hz, hX⟩ := hz
  exact z_get (i := 0) hB hz (by omega) hX.1 rfl inX6g k hk hl hv hdg kk
theorem y_n1 {index : Nat} (hB : BZ p s m args c g cc nL RX6) (hz : YZ g 1 fs f1 f2 f3 s H locs) (hcl : Cond.classLink RX6 index RX2 ∈ lw_g) (hcells : cells + 1 ≤ R.cells) (hslots : slots + 8 ≤ R.slots) (hdg : decode cc pc = .ok (.anewarray index, 3))
    (kk : ∀ (H1 : Heap), YZ g 2 fs (fun _ => none) f2 f3 s H1 locs → W p l e R s m args below meth c H1 locs (cells + 1) (slots + 8) Q (F0 m (pc + 3) ls (.ref (ad g 1) :: rest))) : W p l e R s m args below meth c H locs cells slots Q (F0 m pc ls (.int 8 :: rest)) := by
  obtain ⟨E, hz, hX⟩ := hz
  exact z_newq (N := 8) (t0 := 4) hB hz rfl hcl hB.2.2.2.2.2.1.2.2.1.1 (by decide) (by decide) (by decide) hcells hslots hdg (fun H hz => kk H ⟨_, hz, hX.q1 (fun i _ _ => by omega)⟩)
theorem y_n2 {index : Nat} (hB : BZ p s m args c g cc nL RX6) (hz : YZ g 66 fs f1 f2 f3 s H locs) (hcl : Cond.classLink RX6 index RX3 ∈ lw_g) (hcells : cells + 1 ≤ R.cells) (hslots : slots + 2 ≤ R.slots) (hdg : decode cc pc = .ok (.anewarray index, 3))
    (kk : ∀ (H1 : Heap), YZ g 67 fs f1 (fun _ => none) f3 s H1 locs → W p l e R s m args below meth c H1 locs (cells + 1) (slots + 2) Q (F0 m (pc + 3) ls (.ref (ad g 66) :: rest))) : W p l e R s m args below meth c H locs cells slots Q (F0 m pc ls (.int 2 :: rest)) := by
  obtain ⟨E, hz, hX⟩ := hz
  exact z_newq (N := 2) (t0 := 5) hB hz rfl hcl hB.2.2.2.2.2.1.2.2.1.2.1 (by decide) (by decide) (by decide) hcells hslots hdg (fun H hz => kk H ⟨_, hz, hX.q2 (fun i _ _ => by omega)⟩)
theorem y_n3 {index : Nat} (hB : BZ p s m args c g cc nL RX6) (hz : YZ g 93 fs f1 f2 f3 s H locs) (hcl : Cond.classLink RX6 index RX4 ∈ lw_g) (hcells : cells + 1 ≤ R.cells) (hslots : slots + 24 ≤ R.slots) (hdg : decode cc pc = .ok (.anewarray index, 3))
    (kk : ∀ (H1 : Heap), YZ g 94 fs f1 f2 (fun _ => none) s H1 locs → W p l e R s m args below meth c H1 locs (cells + 1) (slots + 24) Q (F0 m (pc + 3) ls (.ref (ad g 93) :: rest))) : W p l e R s m args below meth c H locs cells slots Q (F0 m pc ls (.int 24 :: rest)) := by
  obtain ⟨E, hz, hX⟩ := hz
  exact z_newq (N := 24) (t0 := 6) hB hz rfl hcl hB.2.2.2.2.2.1.2.2.1.2.2 (by decide) (by decide) (by decide) hcells hslots hdg (fun H hz => kk H ⟨_, hz, hX.q3 (fun i _ _ => by omega)⟩)
theorem y_s1 {v j : Nat} (hB : BZ p s m args c g cc nL RX6) (hz : YZ g n fs f1 f2 f3 s H locs) (h1 : 1 < n) (hv : v < n) (hk : LX.1 v = 1 ∧ v ≠ 0 ∧ v ≠ 1 ∧ v ≠ 66 ∧ v ≠ 93) (hj : j < 8) (hdg : decode cc pc = .ok (.aastore, 1))
    (kk : ∀ (H1 : Heap) (locs1 : List Loc), YZ g n fs (va_up f1 j (some (ad g v))) f2 f3 s H1 locs1 → W p l e R s m args below meth c H1 locs1 cells slots Q (F0 m (pc + 1) ls rest)) : W p l e R s m args below meth c H locs cells slots Q (F0 m pc ls (.ref (ad g v) :: .int (nI j) :: .ref (ad g 1) :: rest)) := by
  obtain ⟨E, hz, hX⟩ := hz
  have ev := hX.2.2.2.2 v hv hk.2.1 hk.2.2.1 hk.2.2.2.1 hk.2.2.2.2
  rw [hk.1] at ev
  have ej : (nI j).toNatClampNeg = j := nI_clamp (by omega)
  refine z_aast (r := (RX2, TX2, 3)) (t0 := 4) (i := 1) (v := v) (N := 8) (f := f1) hB hz h1 hv rfl (hX.2.1 h1) ev rfl (vp_in_nI hj (by omega)) hdg (fun H1 locs1 hz => kk H1 locs1 ⟨_, hz, ?_⟩)
  rw [ej]
  exact hX.q1 (fun i h _ => h)
theorem y_s2 {v j : Nat} (hB : BZ p s m args c g cc nL RX6) (hz : YZ g n fs f1 f2 f3 s H locs) (h1 : 66 < n) (hv : v < n) (hk : LX.1 v = 2 ∧ v ≠ 0 ∧ v ≠ 1 ∧ v ≠ 66 ∧ v ≠ 93) (hj : j < 2) (hdg : decode cc pc = .ok (.aastore, 1))
    (kk : ∀ (H1 : Heap) (locs1 : List Loc), YZ g n fs f1 (va_up f2 j (some (ad g v))) f3 s H1 locs1 → W p l e R s m args below meth c H1 locs1 cells slots Q (F0 m (pc + 1) ls rest)) : W p l e R s m args below meth c H locs cells slots Q (F0 m pc ls (.ref (ad g v) :: .int (nI j) :: .ref (ad g 66) :: rest)) := by
  obtain ⟨E, hz, hX⟩ := hz
  have ev := hX.2.2.2.2 v hv hk.2.1 hk.2.2.1 hk.2.2.2.1 hk.2.2.2.2
  rw [hk.1] at ev
  have ej : (nI j).toNatClampNeg = j := nI_clamp (by omega)
  refine z_aast (r := (RX3, TX3, 7)) (t0 := 5) (i := 66) (v := v) (N := 2) (f := f2) hB hz h1 hv rfl (hX.2.2.1 h1) ev rfl (vp_in_nI hj (by omega)) hdg (fun H1 locs1 hz => kk H1 locs1 ⟨_, hz, ?_⟩)
  rw [ej]
  exact hX.q2 (fun i h _ => h)
theorem y_s3 {v j : Nat} (hB : BZ p s m args c g cc nL RX6) (hz : YZ g n fs f1 f2 f3 s H locs) (h1 : 93 < n) (hv : v < n) (hk : LX.1 v = 3 ∧ v ≠ 0 ∧ v ≠ 1 ∧ v ≠ 66 ∧ v ≠ 93) (hj : j < 24) (hdg : decode cc pc = .ok (.aastore, 1))
    (kk : ∀ (H1 : Heap) (locs1 : List Loc), YZ g n fs f1 f2 (va_up f3 j (some (ad g v))) s H1 locs1 → W p l e R s m args below meth c H1 locs1 cells slots Q (F0 m (pc + 1) ls rest)) : W p l e R s m args below meth c H locs cells slots Q (F0 m pc ls (.ref (ad g v) :: .int (nI j) :: .ref (ad g 93) :: rest)) := by
  obtain ⟨E, hz, hX⟩ := hz
  have ev := hX.2.2.2.2 v hv hk.2.1 hk.2.2.1 hk.2.2.2.1 hk.2.2.2.2
  rw [hk.1] at ev
  have ej : (nI j).toNatClampNeg = j := nI_clamp (by omega)
  refine z_aast (r := (RX4, TX4, 2)) (t0 := 6) (i := 93) (v := v) (N := 24) (f := f3) hB hz h1 hv rfl (hX.2.2.2.1 h1) ev rfl (vp_in_nI hj (by omega)) hdg (fun H1 locs1 hz => kk H1 locs1 ⟨_, hz, ?_⟩)
  rw [ej]
  exact hX.q3 (fun i h _ => h)
end YRU

theorem kb_KD {L : LY} {i k : Nat} (h : kb L i k = true) : KD L i k := by
  simp only [kb, Bool.and_eq_true, decide_eq_true_eq] at h
  exact h
theorem KD_kb {L : LY} {i k : Nat} (h : KD L i k) : kb L i k = true := by
  simp only [kb, Bool.and_eq_true, decide_eq_true_eq]
  exact h
theorem kd_all {k z : Nat} (d k2 : Nat) (h : (List.range 225).all (fun i => !(kb LX i k) || kb LX (i + d) k2) = true) (hz : KD LX z k) : KD LX (z + d) k2 := by
  have h1 := List.all_eq_true.mp h z (List.mem_range.mpr hz.1)
  rw [KD_kb hz] at h1
  exact kb_KD (by simpa using h1)
theorem ib_lt {j : Int32} {n : Nat} (h : ib j n = true) : j.toNatClampNeg < n := Nat.not_le.mp fun q => (ib_in h) (Or.inr q)
theorem kd_fam {a b n k : Nat} {j : Int32} (h : (List.range n).all (fun j => kb LX (a + b * j) k) = true) (hj : ib j n = true) : KD LX (a + b * j.toNatClampNeg) k :=
  kb_KD (List.all_eq_true.mp h _ (List.mem_range.mpr (ib_lt hj)))
theorem kd_grid {k n i : Nat} {j : Int32} (h : (List.range 225).all (fun i => !(kb LX i k) || (List.range n).all (fun j => kb LX (i + 1 + j) 22)) = true) (hi : KD LX i k) (hj : ib j n = true) : KD LX (i + 1 + j.toNatClampNeg) 22 := by
  have h1 := List.all_eq_true.mp h i (List.mem_range.mpr hi.1)
  rw [KD_kb hi] at h1
  simp only [Bool.not_true, Bool.false_or] at h1
  exact kb_KD (List.all_eq_true.mp h1 _ (List.mem_range.mpr (ib_lt hj)))
theorem kd_ac {z : Nat} (h : KD LX z 0) : KD LX (z + 1) 10 := kd_all 1 10 (by decide +kernel) h
theorem kd_row {z : Nat} (h : KD LX z 1) : KD LX (z + 1) 56 := kd_all 1 56 (by decide +kernel) h
theorem kd_sg {z : Nat} (h : KD LX z 3) : KD LX (z + 1) 7 := kd_all 1 7 (by decide +kernel) h
theorem kd_tp {z : Nat} (h : KD LX z 4) : KD LX (z + 1) 146 := kd_all 1 146 (by decide +kernel) h
theorem kd_sh {z : Nat} (h : KD LX z 2) : KD LX (z + 1) 19 ∧ KD LX (z + 2) 40 ∧ KD LX (z + 3) 40 ∧ KD LX (z + 4) 40 ∧ KD LX (z + 5) 9 :=
  ⟨kd_all 1 19 (by decide +kernel) h, kd_all 2 40 (by decide +kernel) h, kd_all 3 40 (by decide +kernel) h, kd_all 4 40 (by decide +kernel) h, kd_all 5 9 (by decide +kernel) h⟩
theorem kd_rw {j : Int32} (h : ib j 8 = true) : KD LX (99 + 2 * j.toNatClampNeg) 1 := kd_fam (by decide +kernel) h
theorem kd_im {j : Int32} (h : ib j 2 = true) : KD LX (115 + 31 * j.toNatClampNeg) 2 := kd_fam (by decide +kernel) h
theorem kd_sn {j : Int32} (h : ib j 24 = true) : KD LX (177 + 2 * j.toNatClampNeg) 3 := kd_fam (by decide +kernel) h
theorem kd_cl {i : Nat} {j : Int32} (hi : KD LX i 9) (h : ib j 25 = true) : KD LX (i + 1 + j.toNatClampNeg) 22 := kd_grid (by decide +kernel) hi h
theorem kd_kp {i : Nat} {j : Int32} (hi : KD LX i 10) (h : ib j 24 = true) : KD LX (i + 1 + j.toNatClampNeg) 22 := kd_grid (by decide +kernel) hi h
theorem x_nei {x y : Int32} {k : Int} (h : ¬ x = y) (hk : y.toInt = k) : ¬ x.toInt = k := fun e => h (Int32.toInt_inj.mp (e.trans hk.symm))
theorem in_of {C : String} {T : u_T} {N : Nat} (ps : List Nat) (h : u_ws C T N = ps.filterMap (fun i => lw_tbl[i]?)) (hg : (u_ws C T N).all goodWord = true) : ∀ w ∈ u_ws C T N, w ∈ lw_g := by
  intro w hw
  have h1 := List.all_eq_true.mp hg w hw
  rw [h] at hw
  obtain ⟨i, -, hi⟩ := List.mem_filterMap.mp hw
  exact mg i hi h1
theorem kdX_0 : KD LX 0 5 := ⟨Nat.le_of_ble_eq_true rfl, rfl⟩
theorem kdX_1 : KD LX 1 11 := ⟨Nat.le_of_ble_eq_true rfl, rfl⟩
theorem kdX_2 : KD LX 2 4 := ⟨Nat.le_of_ble_eq_true rfl, rfl⟩
theorem kdX_3 : KD LX 3 146 := ⟨Nat.le_of_ble_eq_true rfl, rfl⟩
theorem kdX_4 : KD LX 4 2 := ⟨Nat.le_of_ble_eq_true rfl, rfl⟩
theorem kdX_5 : KD LX 5 19 := ⟨Nat.le_of_ble_eq_true rfl, rfl⟩
theorem kdX_6 : KD LX 6 40 := ⟨Nat.le_of_ble_eq_true rfl, rfl⟩
theorem kdX_7 : KD LX 7 40 := ⟨Nat.le_of_ble_eq_true rfl, rfl⟩
theorem kdX_8 : KD LX 8 40 := ⟨Nat.le_of_ble_eq_true rfl, rfl⟩
theorem kdX_35 : KD LX 35 2 := ⟨Nat.le_of_ble_eq_true rfl, rfl⟩
theorem kdX_66 : KD LX 66 12 := ⟨Nat.le_of_ble_eq_true rfl, rfl⟩
theorem kdX_67 : KD LX 67 0 := ⟨Nat.le_of_ble_eq_true rfl, rfl⟩
theorem kdX_93 : KD LX 93 13 := ⟨Nat.le_of_ble_eq_true rfl, rfl⟩
theorem kdX_94 : KD LX 94 3 := ⟨Nat.le_of_ble_eq_true rfl, rfl⟩
theorem kdX_95 : KD LX 95 7 := ⟨Nat.le_of_ble_eq_true rfl, rfl⟩
theorem kdX_96 : KD LX 96 22 := ⟨Nat.le_of_ble_eq_true rfl, rfl⟩
theorem kdX_97 : KD LX 97 21 := ⟨Nat.le_of_ble_eq_true rfl, rfl⟩
theorem kdX_98 : KD LX 98 32 := ⟨Nat.le_of_ble_eq_true rfl, rfl⟩
theorem kdM_0 : KD LM 0 6 := ⟨Nat.le_of_ble_eq_true rfl, rfl⟩
theorem kdM_1 : KD LM 1 24 := ⟨Nat.le_of_ble_eq_true rfl, rfl⟩
theorem kdM_2 : KD LM 2 24 := ⟨Nat.le_of_ble_eq_true rfl, rfl⟩
theorem kdM_3 : KD LM 3 336 := ⟨Nat.le_of_ble_eq_true rfl, rfl⟩
theorem kdM_4 : KD LM 4 92 := ⟨Nat.le_of_ble_eq_true rfl, rfl⟩
theorem kdM_5 : KD LM 5 92 := ⟨Nat.le_of_ble_eq_true rfl, rfl⟩
theorem kdM_6 : KD LM 6 92 := ⟨Nat.le_of_ble_eq_true rfl, rfl⟩
theorem kdM_7 : KD LM 7 1840 := ⟨Nat.le_of_ble_eq_true rfl, rfl⟩
theorem kdM_8 : KD LM 8 146 := ⟨Nat.le_of_ble_eq_true rfl, rfl⟩
theorem kdM_9 : KD LM 9 22 := ⟨Nat.le_of_ble_eq_true rfl, rfl⟩
theorem kdM_10 : KD LM 10 22 := ⟨Nat.le_of_ble_eq_true rfl, rfl⟩
theorem kdM_11 : KD LM 11 88 := ⟨Nat.le_of_ble_eq_true rfl, rfl⟩
theorem kdM_12 : KD LM 12 56 := ⟨Nat.le_of_ble_eq_true rfl, rfl⟩
theorem kdM_13 : KD LM 13 56 := ⟨Nat.le_of_ble_eq_true rfl, rfl⟩
theorem kdM_14 : KD LM 14 8 := ⟨Nat.le_of_ble_eq_true rfl, rfl⟩
theorem kdM_15 : KD LM 15 168 := ⟨Nat.le_of_ble_eq_true rfl, rfl⟩
theorem kdM_16 : KD LM 16 32 := ⟨Nat.le_of_ble_eq_true rfl, rfl⟩
theorem inX0g : ∀ w ∈ wsX00, w ∈ lw_g := in_of [166, 168, 170] (by decide +kernel) (by decide +kernel)
theorem inX2g : ∀ w ∈ wsX20, w ∈ lw_g := in_of [204, 206, 208] (by decide +kernel) (by decide +kernel)
theorem inX3g : ∀ w ∈ wsX30, w ∈ lw_g := in_of [139, 141, 143, 145, 147, 149, 151] (by decide +kernel) (by decide +kernel)
theorem inX4g : ∀ w ∈ wsX40, w ∈ lw_g := in_of [185, 187] (by decide +kernel) (by decide +kernel)
theorem inX5g : ∀ w ∈ wsX50, w ∈ lw_g := in_of [100, 102, 104, 106, 108, 110, 112] (by decide +kernel) (by decide +kernel)
theorem inX6g : ∀ w ∈ wsX60, w ∈ lw_g := in_of [225, 227, 229, 231, 233, 235, 237, 239, 241, 243, 245, 247, 249, 251] (by decide +kernel) (by decide +kernel)
theorem inX7g : ∀ w ∈ wsX70, w ∈ lw_g := in_of [752, 754, 756, 758, 760, 762, 764, 766, 768, 770, 772, 774, 776, 778, 780, 782, 784, 786, 788, 790, 792, 794, 796, 798, 800, 802, 804, 806, 808, 810] (by decide +kernel) (by decide +kernel)

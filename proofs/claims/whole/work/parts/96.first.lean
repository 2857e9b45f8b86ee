/-! What both hold at first. -/
theorem v0_z {a b : Nat} (h : LX.1 a ≠ 1 ∨ b ≠ 1) : V0X a b = 0 := by
  show vk (LX.1 a) b = 0
  unfold vk
  rw [if_neg (by omega)]
theorem u0_z {a b : Nat} (h : a ≠ 1) : V0M a b = 0 := by
  unfold V0M
  rw [if_neg h]
theorem inv_0 : Inv V0X V0M := by
  refine ⟨fun r hr => ?_, ⟨?_, ?_⟩, ⟨0, by omega, ?_, ?_, fun j hj => absurd hj (by omega)⟩, ⟨0, by omega, ?_, ?_, fun j hj => absurd hj (by omega)⟩, ⟨([0, 0, 0], []), [], ⟨rfl, fun s hs => ?_, by show 0 ≤ 24; omega, fun p hp => absurd hp (by simp)⟩, ⟨?_, fun l hl => ?_, fun k hk => absurd hk (by simp)⟩, ⟨0, by show 0 ≤ 0; omega, ?_, fun p hp x hx => ?_⟩, ⟨?_, fun l hl => ?_, fun k hk => absurd hk (by simp)⟩, ⟨by simp, ?_, 0, by omega, ?_, fun k hk => absurd hk (by simp)⟩, ?_, trivial⟩, fun k hk => Or.inl ⟨?_, ?_⟩, fun x hx => ?_⟩
  · have e1 : V0M 1 r = -1 := by
      show (if r < 8 then (-1 : Int32) else 0) = -1
      exact if_pos hr
    have e2 : V0X (99 + 2 * r) 1 = -1 := by
      show vk (LX.1 (99 + 2 * r)) 1 = -1
      have h := (nk_X2 r hr 0 (by omega)).1
      rw [Nat.add_zero] at h
      rw [h]
      rfl
    exact ⟨by rw [e1, e2], Or.inl e1⟩
  · rw [v0_z (Or.inr (by omega)), u0_z (by omega)]
  · rw [v0_z (Or.inr (by omega)), u0_z (by omega)]
  · rw [v0_z (Or.inl (by decide +kernel))]; rfl
  · rw [u0_z (by omega)]; rfl
  · rw [v0_z (Or.inr (by omega))]; rfl
  · rw [u0_z (by omega)]; rfl
  · simp only [List.mem_cons, List.not_mem_nil, or_false] at hs
    omega
  · rw [v0_z (Or.inr (by omega))]; rfl
  · rw [v0_z (Or.inl (by decide +kernel))]
    rcases (show l = 0 ∨ l = 1 ∨ l = 2 by omega) with rfl | rfl | rfl <;> rfl
  · rw [v0_z (Or.inr (by omega))]; rfl
  · have e : p = 0 := by omega
    subst e
    rw [v0_z (Or.inl (by decide +kernel))]
    rfl
  · rw [u0_z (by omega)]; rfl
  · rw [u0_z (by omega)]
    rcases (show l = 0 ∨ l = 1 ∨ l = 2 by omega) with rfl | rfl | rfl <;> rfl
  · rw [v0_z (Or.inr (by omega))]; rfl
  · rw [v0_z (Or.inl (by decide +kernel))]; rfl
  · rw [u0_z (by omega)]; rfl
  · rw [v0_z (Or.inr (by omega))]
  · rw [u0_z (by omega)]
  · rw [v0_z (Or.inl (by decide +kernel))]

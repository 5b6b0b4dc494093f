/-! ===== pure: a new object ===== -/
theorem inv_zero : Inv 0 σI5 σI6 := by
  have m0 : σI6 1 0 = 0 := by decide +kernel
  have m1 : σI6 1 1 = 0 := by decide +kernel
  have mp : ∀ h, h < 8 → σI6 1 (4 + h) = 10 := by decide +kernel
  have ml : ∀ c, c < 12 → σI6 1 (12 + c) = 0 := by decide +kernel
  have mk : ∀ k, k < 10 → σI6 1 (64 + k) = -1 := by decide +kernel
  have c1 : σI5 1 3 = 0 := by decide +kernel
  have t0 : tn 0 = 0 := rfl
  have row : aC 1 σI5 = aM σI6 := by
    refine St_ext (aC_NRM _ _) (aM_NRM _) ?_ ?_ ?_ ?_ ?_ ?_ ?_ ?_ ?_
    · rw [aC_1, c1, t0]; omega
    · rw [aC_0, aM_lo _ (by decide)]; decide +kernel
    · rw [aC_1, aM_lo _ (by decide)]; decide +kernel
    · rw [aC_2, aM_lo _ (by decide)]; decide +kernel
    · rw [aC_3, aM_lo _ (by decide)]; decide +kernel
    · intro h hh
      have q : ∀ h, h < 8 → σI5 5 h = 10 := by decide +kernel
      rw [aC_p _ _ hh, aM_lo _ (by omega), mp h hh]; exact q h hh
    · intro c hc
      have q : ∀ c, c < 12 → σI5 3 c = 0 := by decide +kernel
      rw [aC_l _ _ hc, aM_lo _ (by omega), ml c hc]; exact q c hc
    · intro w hw
      rw [aC_1, c1, t0] at hw
      omega
    · intro k hk
      have q : ∀ k, k < 10 → σI5 7 k = -1 := by decide +kernel
      rw [aC_k _ _ hk, aM_k _ hk, mk k hk]; exact q k hk
  refine ⟨row, ⟨aM_NRM _, ?_, ?_, ?_, ?_, ?_, ?_⟩, ?_, ?_, ?_, ?_, ?_, ?_, ?_, ?_, ?_, ?_⟩
  · rw [aM_lo _ (by decide), m1]; exact Bn_0 8
  · rw [aM_lo _ (by decide), m0]; exact Bn_0 _
  · intro h hh
    rw [aM_lo _ (by omega), mp h hh]; exact Bn_nI (j := 10) (by decide) (by decide)
  · intro c hc
    rw [aM_lo _ (by omega), ml c hc]; exact Bn_0 _
  · intro w hw
    rw [aM_lo _ (by decide), m1, t0] at hw
    omega
  · intro k hk
    rw [aM_k _ hk, mk k hk]; exact Or.inl rfl
  · decide +kernel
  · intro q
    exact absurd (show σI6 0 5 = 0 by decide +kernel) q
  · decide +kernel
  · decide +kernel
  · rw [show σI6 0 13 = 0 by decide +kernel]; exact Bn_0 _
  · rw [show σI6 0 13 = 0 by decide +kernel]
    intro i hi
    rw [t0] at hi
    omega
  · decide +kernel
  · intro s hs
    have q1 : ∀ s, s < 4 → σI5 (63 + 2 * s) 2 = σI6 10 s := by decide +kernel
    have q2 : ∀ s, s < 4 → σI6 10 s = 0 := by decide +kernel
    refine ⟨q1 s hs, ?_⟩
    rw [q2 s hs]; exact Bn_0 _
  · decide +kernel
  · decide +kernel

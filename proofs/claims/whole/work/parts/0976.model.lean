/-! ===== pure: the reference's hour ===== -/
def aM (μ : Mem) : St := NV (μ 1)
theorem aM_NRM (μ : Mem) : NRM (aM μ) := NV_NRM _
theorem aM_lo (μ : Mem) {i : Nat} (h : i < 24) : aM μ i = μ 1 i := NV_lo h
theorem aM_w {H : Nat} {μ : Mem} (h : BD H (aM μ)) {w f : Nat} (hw : w < tn (μ 1 1)) (hf : f < 5) : aM μ (24 + 5 * w + f) = μ 1 (24 + 5 * w + f) := by
  have hm := h.2.1.1
  rw [aM_lo μ (by decide)] at hm
  exact NV_w hw hm hf
theorem aM_wf {H : Nat} {μ : Mem} (h : BD H (aM μ)) {w : Nat} (hw : w < tn (μ 1 1)) : aM μ (24 + 5 * w) = μ 1 (24 + 5 * w) ∧ aM μ (25 + 5 * w) = μ 1 (25 + 5 * w) ∧ aM μ (26 + 5 * w) = μ 1 (26 + 5 * w) ∧ aM μ (27 + 5 * w) = μ 1 (27 + 5 * w) ∧ aM μ (28 + 5 * w) = μ 1 (28 + 5 * w) := by
  have g0 := aM_w h hw (f := 0) (by decide)
  have g1 := aM_w h hw (f := 1) (by decide)
  have g2 := aM_w h hw (f := 2) (by decide)
  have g3 := aM_w h hw (f := 3) (by decide)
  have g4 := aM_w h hw (f := 4) (by decide)
  rw [show 24 + 5 * w + 0 = 24 + 5 * w by omega] at g0
  rw [show 24 + 5 * w + 1 = 25 + 5 * w by omega] at g1
  rw [show 24 + 5 * w + 2 = 26 + 5 * w by omega] at g2
  rw [show 24 + 5 * w + 3 = 27 + 5 * w by omega] at g3
  rw [show 24 + 5 * w + 4 = 28 + 5 * w by omega] at g4
  exact ⟨g0, g1, g2, g3, g4⟩
theorem aM_k (μ : Mem) {k : Nat} (hk : k < 10) : aM μ (64 + k) = μ 1 (64 + k) := NV_hi (by omega) (by omega)
theorem place_nI (w f : Nat) : f_X6_place (nI w) (nI f) = nI (24 + 5 * w + f) := by
  unfold f_X6_place
  rw [show (24 : Int32) = nI 24 from rfl, show (5 : Int32) = nI 5 from rfl, pk_mul, nI_add, nI_add]
theorem its_eq {w f : Nat} (hw : w < 8) (hf : f < 5) (μ : Mem) : f_X6_its (nI w) (nI f) μ = some (μ 1 (24 + 5 * w + f)) := by
  unfold f_X6_its
  rw [place_nI, chk_nI (by omega) (by decide), nI_clamp (by omega)]
theorem its0 {w : Nat} (hw : w < 8) (μ : Mem) : f_X6_its (nI w) 0 μ = some (μ 1 (24 + 5 * w)) := its_eq (f := 0) hw (by decide) μ
theorem its1 {w : Nat} (hw : w < 8) (μ : Mem) : f_X6_its (nI w) 1 μ = some (μ 1 (25 + 5 * w)) := by
  have := its_eq (f := 1) hw (by decide) μ
  rw [show 24 + 5 * w + 1 = 25 + 5 * w by omega] at this
  exact this
theorem its2 {w : Nat} (hw : w < 8) (μ : Mem) : f_X6_its (nI w) 2 μ = some (μ 1 (26 + 5 * w)) := by
  have := its_eq (f := 2) hw (by decide) μ
  rw [show 24 + 5 * w + 2 = 26 + 5 * w by omega] at this
  exact this
theorem its3 {w : Nat} (hw : w < 8) (μ : Mem) : f_X6_its (nI w) 3 μ = some (μ 1 (27 + 5 * w)) := by
  have := its_eq (f := 3) hw (by decide) μ
  rw [show 24 + 5 * w + 3 = 27 + 5 * w by omega] at this
  exact this
theorem its4 {w : Nat} (hw : w < 8) (μ : Mem) : f_X6_its (nI w) 4 μ = some (μ 1 (28 + 5 * w)) := by
  have := its_eq (f := 4) hw (by decide) μ
  rw [show 24 + 5 * w + 4 = 28 + 5 * w by omega] at this
  exact this
theorem ix12 {x : Int32} (h : Bn x 11) : (12 + x) = nI (12 + tn x) := by
  have h1 := h.1
  rw [h.2, show (12 : Int32) = nI 12 from rfl, nI_add, tn_nI (by omega)]
theorem there_eq {w : Nat} (hw : w < 8) {μ : Mem} (hc : Bn (μ 1 (25 + 5 * w)) 11) : f_X6_there (nI w) μ = some (μ 1 (12 + tn (μ 1 (25 + 5 * w)))) := by
  unfold f_X6_there
  have := hc.1
  rw [its1 hw, Option.bind_some, ix12 hc, chk_nI (by omega) (by decide), nI_clamp (by omega)]
theorem mbears_eq {w : Nat} (hw : w < 8) (μ : Mem) : f_X6_bears (nI w) μ = some (brA (μ 1 (24 + 5 * w)) (μ 1 (26 + 5 * w)) (μ 1 (27 + 5 * w))) := by
  unfold f_X6_bears brA
  rw [its2 hw, Option.bind_some, its0 hw, Option.bind_some, its3 hw, Option.bind_some]
  repeat' split
  all_goals rfl
theorem mdoubts_eq {w : Nat} (hw : w < 8) (μ : Mem) : f_X6_doubts (nI w) μ = some (dbA (μ 1 (24 + 5 * w))) := by
  unfold f_X6_doubts dbA
  rw [its0 hw, Option.bind_some]
  repeat' split
  all_goals rfl
theorem mtrusts_eq {w : Nat} (hw : w < 8) (μ : Mem) : f_X6_trusts (nI w) μ = some (trA (μ 1 (24 + 5 * w))) := by
  unfold f_X6_trusts trA
  rw [its0 hw, Option.bind_some]
  repeat' split
  all_goals rfl
theorem dist_eq {a b : Int32} (ha : Bn a 9999) (hb : Bn b 9999) : f_X6_distance a b = jabs (a - b) := by
  have a1 := ha.1
  have b1 := hb.1
  unfold f_X6_distance jabs
  rw [ha.2, hb.2]
  by_cases h : tn b ≤ tn a
  · rw [if_pos (nI_le h (by omega)), pk_sub h, if_pos (show (0 : Int32) ≤ nI (tn a - tn b) from nI_le (a := 0) (by omega) (by omega))]
  · rw [if_neg (nI_ge (by omega) (by omega)), if_neg (Int32.not_le.mpr (pk_sneg (by omega) (by omega)))]
    have : nI (tn a) - nI (tn b) = - (nI (tn b) - nI (tn a)) := (Int32.neg_sub).symm
    rw [this, Int32.zero_sub, Int32.neg_neg]
/-- the reference's watcher sees: what comes to its belief and its thirst -/
def msee (w : Nat) (μ : Mem) : Mem := fun c k => if c = 1 ∧ k = 27 + 5 * w then nbA (μ 1 (24 + 5 * w)) (μ 1 (26 + 5 * w)) (μ 1 (27 + 5 * w)) (μ 6 (tn (μ 1 (25 + 5 * w)))) (μ 1 (12 + tn (μ 1 (25 + 5 * w)))) else if c = 1 ∧ k = 28 + 5 * w then ntA (μ 1 (26 + 5 * w)) (μ 1 (28 + 5 * w)) (μ 1 (12 + tn (μ 1 (25 + 5 * w)))) else μ c k
theorem sees_eq {w : Nat} (hw : w < 8) {μ : Mem} (hc : Bn (μ 1 (25 + 5 * w)) 11) (hb : Bn (μ 1 (27 + 5 * w)) 99) (ht : Bn (μ 1 (28 + 5 * w)) 9999) (hl : ∀ c, c < 12 → Bn (μ 1 (12 + c)) 9999) (hv : ∀ c, c < 12 → Bn (μ 6 c) 9999) : f_X6_sees (nI w) μ = some (msee w μ) := by
  have hc1 := hc.1
  have hb1 := hb.1
  have ht1 := ht.1
  have p3 : f_X6_place (nI w) 3 = nI (27 + 5 * w) := by
    have := place_nI w 3
    rw [show 24 + 5 * w + 3 = 27 + 5 * w by omega] at this
    exact this
  have p4 : f_X6_place (nI w) 4 = nI (28 + 5 * w) := by
    have := place_nI w 4
    rw [show 24 + 5 * w + 4 = 28 + 5 * w by omega] at this
    exact this
  -- the end: the belief is put, then the thirst
  have fin : ∀ v : Int32, v = nbA (μ 1 (24 + 5 * w)) (μ 1 (26 + 5 * w)) (μ 1 (27 + 5 * w)) (μ 6 (tn (μ 1 (25 + 5 * w)))) (μ 1 (12 + tn (μ 1 (25 + 5 * w)))) → f_X6_sees_J119 (nI w) μ (if μ 1 (26 + 5 * w) ≤ μ 1 (12 + tn (μ 1 (25 + 5 * w))) then 0 else 1) v = some (msee w μ) := by
    intro v hv
    unfold f_X6_sees_J119
    rw [p3, p4, chk_nI (show 27 + 5 * w < 74 by omega) (by decide), chk_nI (show 28 + 5 * w < 74 by omega) (by decide), chk_nI (show 28 + 5 * w < 74 by omega) (by decide), chk_nI (show 28 + 5 * w < 74 by omega) (by decide), nI_clamp (show 27 + 5 * w < 2 ^ 31 by omega), nI_clamp (show 28 + 5 * w < 2 ^ 31 by omega), its4 hw, Option.bind_some]
    have e4 : mst μ 1 (27 + 5 * w) v 1 (28 + 5 * w) = μ 1 (28 + 5 * w) := by
      rw [mst_ap, if_neg (by omega)]
    rw [e4]
    have put : ∀ t : Int32, t = ntA (μ 1 (26 + 5 * w)) (μ 1 (28 + 5 * w)) (μ 1 (12 + tn (μ 1 (25 + 5 * w)))) → mst (mst μ 1 (27 + 5 * w) v) 1 (28 + 5 * w) t = msee w μ := by
      intro t ht
      funext c k
      rw [mst_ap, mst_ap]
      unfold msee
      by_cases h1 : c = 1 ∧ k = 28 + 5 * w
      · rw [if_pos h1, if_neg (by omega), if_pos h1, ht]
      · rw [if_neg h1]
        by_cases h2 : c = 1 ∧ k = 27 + 5 * w
        · rw [if_pos h2, if_pos h2, hv]
        · rw [if_neg h2, if_neg h2, if_neg h1]
    by_cases hw1 : μ 1 (26 + 5 * w) ≤ μ 1 (12 + tn (μ 1 (25 + 5 * w)))
    · rw [if_pos hw1, if_pos rfl]
      congr 1
      refine put _ ?_
      unfold ntA
      rw [if_pos hw1, Int32.add_zero]
    · rw [if_neg hw1, if_neg (by decide)]
      by_cases h9 : (9999 : Int32) ≤ μ 1 (28 + 5 * w)
      · rw [if_pos h9]
        congr 1
        refine put _ ?_
        unfold ntA
        rw [if_neg hw1, Int32.add_zero]
        have e : tn (μ 1 (28 + 5 * w)) = 9999 := by
          rw [ht.2, show (9999 : Int32) = nI 9999 from rfl, nI_leI (by decide) (by omega)] at h9
          omega
        rw [ht.2, e]
        rfl
      · rw [if_neg h9]
        congr 1
        refine put _ ?_
        unfold ntA
        rw [if_neg hw1]
        have e : tn (μ 1 (28 + 5 * w)) < 9999 := by
          rw [ht.2, show (9999 : Int32) = nI 9999 from rfl, nI_leI (by decide) (by omega)] at h9
          omega
        rw [ht.2, nI_1, show (9999 : Int32) = nI 9999 from rfl, jm_nI (by omega) (by decide), Nat.min_eq_left (by omega)]
  unfold f_X6_sees
  rw [its3 hw, Option.bind_some, there_eq hw hc, Option.bind_some, its1 hw, Option.bind_some, hc.chk (by decide) (by decide), Option.bind_some, its2 hw, Option.bind_some]
  -- belief 0 or not
  have z : μ 1 (27 + 5 * w) ≤ 0 ↔ μ 1 (27 + 5 * w) = 0 := by
    rw [hb.2, show (0 : Int32) = nI 0 from rfl, nI_leI (by omega) (by decide), nI_eq (by omega) (by decide)]
    omega
  unfold f_X6_sees_J46
  have j85 : (μ 1 (27 + 5 * w) = 0 ∨ jabs (μ 1 (12 + tn (μ 1 (25 + 5 * w))) - μ 6 (tn (μ 1 (25 + 5 * w)))) ≤ brA (μ 1 (24 + 5 * w)) (μ 1 (26 + 5 * w)) (μ 1 (27 + 5 * w))) → f_X6_sees_J85 (nI w) μ (μ 1 (27 + 5 * w)) (if μ 1 (26 + 5 * w) ≤ μ 1 (12 + tn (μ 1 (25 + 5 * w))) then 0 else 1) = some (msee w μ) := by
    intro hor
    unfold f_X6_sees_J85
    by_cases h0 : μ 1 (27 + 5 * w) = 0
    · rw [if_pos (z.mpr h0)]
      refine fin _ ?_
      unfold nbA
      rw [if_pos h0]
    · rw [if_neg (fun q => h0 (z.mp q))]
      have hle := hor.resolve_left h0
      by_cases hw1 : μ 1 (26 + 5 * w) ≤ μ 1 (12 + tn (μ 1 (25 + 5 * w)))
      · rw [if_pos hw1, if_pos rfl, mtrusts_eq hw, Option.bind_some, Option.bind_some]
        have key : ∀ v : Int32, v = jm 99 (μ 1 (27 + 5 * w) + trA (μ 1 (24 + 5 * w))) → f_X6_sees_J118 (nI w) μ 0 v = some (msee w μ) := by
          intro v hv
          unfold f_X6_sees_J118
          have := fin v (by unfold nbA; rw [if_neg h0, if_pos hle, if_pos hw1]; exact hv)
          rw [if_pos hw1] at this
          exact this
        by_cases h9 : μ 1 (27 + 5 * w) + trA (μ 1 (24 + 5 * w)) ≤ 99
        · rw [if_pos h9]
          exact key _ (by unfold jm; rw [if_pos h9])
        · rw [if_neg h9]
          exact key _ (by unfold jm; rw [if_neg h9])
      · have := fin (μ 1 (27 + 5 * w)) (by unfold nbA; rw [if_neg h0, if_pos hle, if_neg hw1])
        rw [if_neg hw1] at this ⊢
        rw [if_neg (by decide)]
        exact this
  by_cases h0 : μ 1 (27 + 5 * w) = 0
  · rw [if_pos (z.mpr h0)]
    exact j85 (Or.inl h0)
  · rw [if_neg (fun q => h0 (z.mp q)), mbears_eq hw, Option.bind_some, dist_eq (hl (tn (μ 1 (25 + 5 * w))) (by omega)) (hv (tn (μ 1 (25 + 5 * w))) (by omega))]
    by_cases hle : jabs (μ 1 (12 + tn (μ 1 (25 + 5 * w))) - μ 6 (tn (μ 1 (25 + 5 * w)))) ≤ brA (μ 1 (24 + 5 * w)) (μ 1 (26 + 5 * w)) (μ 1 (27 + 5 * w))
    · rw [if_pos hle]
      exact j85 (Or.inr hle)
    · rw [if_neg hle, mdoubts_eq hw, Option.bind_some, Option.bind_some]
      have hd := dbA_Bn (μ 1 (24 + 5 * w))
      have hd1 := hd.1
      have key : ∀ v : Int32, v = jmax 0 (μ 1 (27 + 5 * w) - dbA (μ 1 (24 + 5 * w))) → f_X6_sees_J81 (nI w) μ (if μ 1 (26 + 5 * w) ≤ μ 1 (12 + tn (μ 1 (25 + 5 * w))) then 0 else 1) v = some (msee w μ) := by
        intro v hv
        unfold f_X6_sees_J81
        exact fin v (by unfold nbA; rw [if_neg h0, if_neg hle]; exact hv)
      have ej : jmax 0 (μ 1 (27 + 5 * w) - dbA (μ 1 (24 + 5 * w))) = nI (tn (μ 1 (27 + 5 * w)) - tn (dbA (μ 1 (24 + 5 * w)))) := by
        conv => lhs; rw [hb.2, hd.2]
        exact jmax_sub (by omega) (by omega)
      by_cases h5 : μ 1 (27 + 5 * w) ≤ dbA (μ 1 (24 + 5 * w))
      · rw [if_pos h5]
        refine key _ ?_
        rw [ej]
        rw [hb.2, hd.2, nI_leI (by omega) (by omega)] at h5
        rw [show tn (μ 1 (27 + 5 * w)) - tn (dbA (μ 1 (24 + 5 * w))) = 0 by omega]
        rfl
      · rw [if_neg h5]
        refine key _ ?_
        rw [ej]
        have h6 : ¬ tn (μ 1 (27 + 5 * w)) ≤ tn (dbA (μ 1 (24 + 5 * w))) := by
          rw [hb.2, hd.2, nI_leI (by omega) (by omega)] at h5
          exact h5
        conv => lhs; rw [hb.2, hd.2]
        exact pk_sub (by omega)

/-! ===== pure: the reference's hour over its row ===== -/
def mflow (x : Int32) (μ : Mem) : Mem := fun c k => if c = 6 ∧ k < 12 then μ 1 (12 + k) else if c = 1 ∧ 12 ≤ k ∧ k < 24 then lvW x (fun j => μ 1 (12 + j)) (k - 12) else if c = 1 ∧ k = 2 then jm 999999 (μ 1 2 + μ 1 23 / 2) else μ c k
def inM (μ : Mem) : Int32 := if μ 0 6 = 0 then μ 1 (4 + tn (μ 1 0) % 8) else 0
theorem n12 (i : Nat) : (12 : Int32) + nI i = nI (12 + i) := by rw [show (12 : Int32) = nI 12 from rfl, nI_add]
theorem n4 (i : Nat) : (4 : Int32) + nI i = nI (4 + i) := by rw [show (4 : Int32) = nI 4 from rfl, nI_add]
def mf2 (x : Int32) (μ : Mem) (i : Nat) : Mem := fun c k => if c = 6 ∧ k < 12 then μ 1 (12 + k) else if c = 1 ∧ 12 ≤ k ∧ k < 12 + i then lvW x (fun j => μ 1 (12 + j)) (k - 12) else μ c k
theorem flows_eq {μ : Mem} {H : Nat} (h0 : Bn (μ 1 0) H) (hH : H < 2 ^ 30) : f_X6_flows μ = some (mflow (inM μ) μ) := by
  have h01 := h0.1
  unfold f_X6_flows
  refine it2_for 12 (fun i => fun c k => if c = 6 ∧ k < i then μ 1 (12 + k) else μ c k) ?_ (by decide) (fun rec i hi => ?_) (fun rec => ?_)
  · funext c k
    rw [if_neg (by omega)]
  · unfold f_X6_flows_B2
    rw [if_neg (show ¬ (12 : Int32) ≤ nI i from nnle hi (by decide)), n12, chk_nI (by omega) (by decide), chk_nI hi (by decide), nI_1, nI_clamp (show i < 2 ^ 31 by omega), nI_clamp (show 12 + i < 2 ^ 31 by omega)]
    congr 1
    funext c k
    rw [mst_ap]
    by_cases h1 : c = 6
    · subst h1
      by_cases h2 : k = i
      · subst h2
        rw [if_pos ⟨rfl, rfl⟩]
        dsimp only
        rw [if_neg (by omega), if_pos (by omega)]
      · by_cases h3 : k < i
        · rw [if_neg (by omega), if_pos (by omega), if_pos (by omega)]
        · rw [if_neg (by omega), if_neg (by omega), if_neg (by omega)]
    · rw [if_neg (by omega), if_neg (by omega), if_neg (by omega)]
  · unfold f_X6_flows_B2
    rw [if_pos (show (12 : Int32) ≤ nI 12 from nle (Nat.le_refl 12) (by decide))]
    refine it2_for 12 (fun i => mf2 (inM μ) μ i) ?_ (by decide) (fun rec i hi => ?_) (fun rec => ?_)
    · funext c k
      unfold mf2
      by_cases h1 : c = 6 ∧ k < 12
      · rw [if_pos h1, if_pos h1]
      · rw [if_neg h1, if_neg h1, if_neg (by omega)]
    · unfold f_X6_flows_B31
      rw [if_neg (show ¬ (12 : Int32) ≤ nI i from nnle hi (by decide))]
      have a6 : ∀ k, k < 12 → mf2 (inM μ) μ i 6 k = μ 1 (12 + k) := fun k hk => by
        unfold mf2
        rw [if_pos ⟨rfl, hk⟩]
      have a0 : ∀ k, mf2 (inM μ) μ i 0 k = μ 0 k := fun k => by
        unfold mf2
        rw [if_neg (by omega), if_neg (by omega)]
      have a1 : ∀ k, k < 12 → mf2 (inM μ) μ i 1 k = μ 1 k := fun k hk => by
        unfold mf2
        rw [if_neg (by omega), if_neg (by omega)]
      have key : ∀ t : Int32, t = (if i = 0 then inM μ else μ 1 (12 + (i - 1)) / 2) → f_X6_flows_J81 (nI i) (mf2 (inM μ) μ i) rec t = rec (nI (i + 1)) (mf2 (inM μ) μ (i + 1)) := by
        intro t ht
        unfold f_X6_flows_J81 f_X6_flows_J122
        rw [chk_nI hi (by decide), chk_nI hi (by decide), n12, chk_nI (show 12 + i < 74 by omega) (by decide), nI_1, nI_clamp (show i < 2 ^ 31 by omega), nI_clamp (show 12 + i < 2 ^ 31 by omega), a6 i hi]
        congr 1
        funext c k
        rw [mst_ap]
        unfold mf2
        by_cases h1 : c = 1
        · subst h1
          by_cases h2 : k = 12 + i
          · subst h2
            rw [if_pos ⟨rfl, rfl⟩, if_neg (show ¬ (1 = 6 ∧ 12 + i < 12) by omega), if_pos (show 1 = 1 ∧ 12 ≤ 12 + i ∧ 12 + i < 12 + (i + 1) by omega), show 12 + i - 12 = i by omega, ht]
            rfl
          · by_cases h3 : 12 ≤ k ∧ k < 12 + i
            · rw [if_neg (by omega), if_neg (by omega), if_pos (by omega), if_neg (by omega), if_pos (by omega)]
            · rw [if_neg (by omega), if_neg (by omega), if_neg (by omega), if_neg (by omega), if_neg (by omega)]
        · rw [if_neg (by omega)]
          by_cases h6 : c = 6 ∧ k < 12
          · rw [if_pos h6, if_pos h6]
          · rw [if_neg h6, if_neg h6, if_neg (by omega), if_neg (by omega)]
      by_cases h00 : i = 0
      · rw [if_pos (show nI i = 0 by rw [h00]; rfl), a0, a1 0 (by decide)]
        have er : (4 : Int32) + jrem (μ 1 0) 8 = nI (4 + tn (μ 1 0) % 8) := by
          conv => lhs; rw [h0.2]
          rw [jrem_nI _ (by omega), n4]
        by_cases hs : μ 0 6 = 0
        · rw [if_pos hs, er, chk_nI (show 4 + tn (μ 1 0) % 8 < 74 by omega) (by decide), nI_clamp (show 4 + tn (μ 1 0) % 8 < 2 ^ 31 by omega), a1 _ (by omega)]
          refine key _ ?_
          rw [if_pos h00]
          unfold inM
          rw [if_pos hs]
        · rw [if_neg hs]
          refine key _ ?_
          rw [if_pos h00]
          unfold inM
          rw [if_neg hs]
      · rw [if_neg (show ¬ nI i = 0 from nI_ne0 (by omega) (by omega))]
        have e1 : nI i - 1 = nI (i - 1) := pk_sub (a := i) (b := 1) (by omega)
        rw [e1, chk_nI (show i - 1 < 12 by omega) (by decide), nI_clamp (show i - 1 < 2 ^ 31 by omega), a6 _ (by omega)]
        refine key _ ?_
        rw [if_neg h00]
    · unfold f_X6_flows_B31
      rw [if_pos (show (12 : Int32) ≤ nI 12 from nle (Nat.le_refl 12) (by decide))]
      have b2 : mf2 (inM μ) μ 12 1 2 = μ 1 2 := by
        unfold mf2
        rw [if_neg (by omega), if_neg (by omega)]
      have b11 : mf2 (inM μ) μ 12 6 11 = μ 1 23 := by
        unfold mf2
        rw [if_pos (by omega)]
      rw [b2, b11]
      have put : ∀ t : Int32, t = jm 999999 (μ 1 2 + μ 1 23 / 2) → mst (mf2 (inM μ) μ 12) 1 2 t = mflow (inM μ) μ := by
        intro t ht
        funext c k
        rw [mst_ap]
        unfold mflow mf2
        by_cases h1 : c = 1 ∧ k = 2
        · rw [if_pos h1, if_neg (by omega), if_neg (by omega), if_pos h1, ht]
        · rw [if_neg h1, if_neg h1]
      by_cases h9 : μ 1 2 + μ 1 23 / 2 ≤ 999999
      · rw [if_pos h9]
        exact congrArg some (put _ (by unfold jm; rw [if_pos h9]))
      · rw [if_neg h9]
        exact congrArg some (put _ (by unfold jm; rw [if_neg h9]))
/-- behind i watchers' sight -/
def mh (i : Nat) (x : Int32) (μ : Mem) : Mem := fun c k => if c = 1 ∧ 24 ≤ k ∧ k < 24 + 5 * i then hrA x (μ 1) k else mflow x μ c k
theorem mflow_1 {x : Int32} {μ : Mem} {k : Nat} (hk : k ≠ 0) : mflow x μ 1 k = flA x (μ 1) k := by
  unfold mflow flA
  rw [if_neg (by omega)]
  by_cases h1 : 12 ≤ k ∧ k < 24
  · rw [if_pos ⟨rfl, h1⟩, if_neg hk, if_neg (by omega), if_pos h1]
  · rw [if_neg (by omega), if_neg hk]
    by_cases h2 : k = 2
    · rw [if_pos ⟨rfl, h2⟩, if_pos h2]
    · rw [if_neg (by omega), if_neg h2, if_neg h1]
theorem mhour_eq {μ : Mem} {H : Nat} (h : BD H (aM μ)) (hx : Bn (inM μ) 99) (hH : H < 2 ^ 30) : f_X6_hour μ = some (fun c k => if c = 1 then hrA (inM μ) (μ 1) k else if c = 6 ∧ k < 12 then μ 1 (12 + k) else μ c k) := by
  obtain ⟨n0, n1, n2, n3, n4, n5, n6⟩ := h
  rw [aM_lo μ (by decide)] at n1 n2
  have hm := n1.1
  have hl : ∀ c, c < 12 → Bn (μ 1 (12 + c)) 9999 := fun c hc => by
    have := n4 c hc
    rw [aM_lo μ (by omega)] at this
    exact this
  unfold f_X6_hour
  rw [flows_eq n2 hH, Option.bind_some]
  generalize inM μ = x at hx ⊢
  have o1 : ∀ i, mh i x μ 1 1 = μ 1 1 := fun i => by
    unfold mh
    rw [if_neg (by omega), mflow_1 (by decide), flA_out (by decide) (by decide) (by decide)]
  refine it2_for (tn (μ 1 1)) (fun i => mh i x μ) ?_ (by omega) (fun rec i hi => ?_) (fun rec => ?_)
  · funext c k
    unfold mh
    rw [if_neg (by omega)]
  · have hh := n5 i (by rw [aM_lo μ (by decide)]; exact hi)
    have gw : ∀ f, f < 5 → aM μ (24 + 5 * i + f) = μ 1 (24 + 5 * i + f) := fun f hf => NV_w hi hm hf
    have g1 := gw 1 (by decide)
    have g3 := gw 3 (by decide)
    have g4 := gw 4 (by decide)
    rw [show 24 + 5 * i + 1 = 25 + 5 * i by omega] at g1
    rw [show 24 + 5 * i + 3 = 27 + 5 * i by omega] at g3
    rw [show 24 + 5 * i + 4 = 28 + 5 * i by omega] at g4
    rw [g1, g3, g4] at hh
    obtain ⟨hc, hb, ht⟩ := hh
    have hc1 := hc.1
    have of : ∀ f, f < 5 → mh i x μ 1 (24 + 5 * i + f) = μ 1 (24 + 5 * i + f) := fun f hf => by
      unfold mh
      rw [if_neg (by omega), mflow_1 (by omega), flA_out (by omega) (by omega) (by omega)]
    have f0 := of 0 (by decide)
    have f1 := of 1 (by decide)
    have f2 := of 2 (by decide)
    have f3 := of 3 (by decide)
    have f4 := of 4 (by decide)
    rw [show 24 + 5 * i + 0 = 24 + 5 * i by omega] at f0
    rw [show 24 + 5 * i + 1 = 25 + 5 * i by omega] at f1
    rw [show 24 + 5 * i + 2 = 26 + 5 * i by omega] at f2
    rw [show 24 + 5 * i + 3 = 27 + 5 * i by omega] at f3
    rw [show 24 + 5 * i + 4 = 28 + 5 * i by omega] at f4
    have fl : ∀ c, c < 12 → mh i x μ 1 (12 + c) = flA x (μ 1) (12 + c) := fun c hc => by
      unfold mh
      rw [if_neg (by omega), mflow_1 (by omega)]
    have fv : ∀ c, c < 12 → mh i x μ 6 c = μ 1 (12 + c) := fun c hc => by
      unfold mh mflow
      rw [if_neg (by omega), if_pos ⟨rfl, hc⟩]
    unfold f_X6_hour_B6
    rw [o1, if_neg (show ¬ μ 1 1 ≤ nI i by rw [n1.2]; exact nnle hi (by omega)), sees_eq (by omega) (by rw [f1]; exact hc) (by rw [f3]; exact hb) (by rw [f4]; exact ht) (fun c hc => by rw [fl c hc, flA_l hc]; exact lvW_Bn hx hl hc) (fun c hc => by rw [fv c hc]; exact hl c hc), Option.bind_some, nI_1]
    congr 1
    funext c k
    unfold msee
    rw [f0, f1, f2, f3, f4, fl _ (by omega), fv _ (by omega)]
    by_cases h3 : c = 1 ∧ k = 27 + 5 * i
    · rw [if_pos h3, h3.1, h3.2]
      unfold mh
      rw [if_pos (by omega), show 27 + 5 * i = 24 + 5 * i + 3 by omega, hrA_w hi hm (by decide), if_pos rfl, show 24 + 5 * i + 3 = 27 + 5 * i by omega]
    · rw [if_neg h3]
      by_cases h4 : c = 1 ∧ k = 28 + 5 * i
      · rw [if_pos h4, h4.1, h4.2]
        unfold mh
        rw [if_pos (by omega), show 28 + 5 * i = 24 + 5 * i + 4 by omega, hrA_w hi hm (by decide), if_neg (by decide), if_pos rfl, show 24 + 5 * i + 4 = 28 + 5 * i by omega]
      · rw [if_neg h4]
        unfold mh
        by_cases h5 : c = 1 ∧ 24 ≤ k ∧ k < 24 + 5 * i
        · rw [if_pos h5, if_pos (by omega)]
        · rw [if_neg h5]
          by_cases h6 : c = 1 ∧ 24 ≤ k ∧ k < 24 + 5 * (i + 1)
          · rw [if_pos h6, h6.1, mflow_1 (by omega), flA_out (by omega) (by omega) (by omega)]
            obtain ⟨f, hf, rfl⟩ : ∃ f, f < 5 ∧ k = 24 + 5 * i + f := ⟨k - (24 + 5 * i), by omega, by omega⟩
            rw [hrA_w hi hm hf, if_neg (by omega), if_neg (by omega)]
          · rw [if_neg h6]
  · unfold f_X6_hour_B6
    rw [o1, if_pos (show μ 1 1 ≤ nI (tn (μ 1 1)) by rw [← n1.2]; exact Int32.le_refl _)]
    congr 1
    funext c k
    rw [mst_ap]
    by_cases h0 : c = 1 ∧ k = 0
    · rw [if_pos h0, h0.1, h0.2, if_pos rfl, hrA_0]
      unfold mh mflow
      rw [if_neg (by omega), if_neg (by omega), if_neg (by omega), if_neg (by omega)]
    · rw [if_neg h0]
      unfold mh
      by_cases h1 : c = 1
      · subst h1
        rw [if_pos rfl]
        by_cases h2 : 24 ≤ k ∧ k < 24 + 5 * tn (μ 1 1)
        · rw [if_pos ⟨rfl, h2⟩]
        · rw [if_neg (by omega), mflow_1 (by omega)]
          unfold hrA
          rw [if_neg (by omega)]
      · rw [if_neg (by omega), if_neg h1]
        unfold mflow
        by_cases h6 : c = 6 ∧ k < 12
        · rw [if_pos h6, if_pos h6]
        · rw [if_neg h6, if_neg h6, if_neg (by omega), if_neg (by omega)]
theorem flA_2 (x : Int32) (s : St) : flA x s 2 = jm 999999 (s 2 + s 23 / 2) := by
  unfold flA
  rw [if_neg (by decide), if_pos rfl]
theorem NV_hrA {x : Int32} {r : St} {H : Nat} (h : BD H (NV r)) : NV (hrA x r) = hrA x (NV r) := by
  obtain ⟨n0, n1, n2, n3, n4, n5, n6⟩ := h
  have hm := n1.1
  have e1 : NV r 1 = r 1 := rfl
  rw [e1] at hm
  have eL : ∀ c, c < 12 → flA x (NV r) (12 + c) = flA x r (12 + c) := fun c hc => by
    rw [flA_l hc, flA_l hc]
    exact lvW_congr hc (fun c hc => NV_lo (by omega))
  refine St_ext (NV_NRM _) (hrA_NRM n0 hm) ?_ ?_ ?_ ?_ ?_ ?_ ?_ ?_ ?_
  · rw [NV_lo (by decide), hrA_1]; exact hm
  · rw [NV_lo (by decide), hrA_0, hrA_0, NV_lo (by decide)]
  · rw [NV_lo (by decide), hrA_1, hrA_1, NV_lo (by decide)]
  · rw [NV_lo (by decide), hrA_lo (by decide), hrA_lo (by decide), flA_2, flA_2, NV_lo (by decide), NV_lo (by decide)]
  · rw [NV_lo (by decide), hrA_lo (by decide), hrA_lo (by decide), flA_out (by decide) (by decide) (by decide), flA_out (by decide) (by decide) (by decide), NV_lo (by decide)]
  · intro h hh
    rw [NV_lo (by omega), hrA_lo (by omega), hrA_lo (by omega), flA_out (by omega) (by omega) (by omega), flA_out (by omega) (by omega) (by omega), NV_lo (by omega)]
  · intro c hc
    rw [NV_lo (by omega), hrA_lo (by omega), hrA_lo (by omega), eL c hc]
  · intro w hw f hf
    have hw' : w < tn (r 1) := by
      rw [NV_lo (by decide), hrA_1] at hw; exact hw
    have hc := (n5 w hw').1
    have g : ∀ f, f < 5 → NV r (24 + 5 * w + f) = r (24 + 5 * w + f) := fun f hf => NV_w hw' hm hf
    have g0 := g 0 (by decide)
    have g1 := g 1 (by decide)
    have g2 := g 2 (by decide)
    have g3 := g 3 (by decide)
    have g4 := g 4 (by decide)
    rw [show 24 + 5 * w + 0 = 24 + 5 * w by omega] at g0
    rw [show 24 + 5 * w + 1 = 25 + 5 * w by omega] at g1
    rw [show 24 + 5 * w + 2 = 26 + 5 * w by omega] at g2
    rw [show 24 + 5 * w + 3 = 27 + 5 * w by omega] at g3
    rw [show 24 + 5 * w + 4 = 28 + 5 * w by omega] at g4
    rw [g1] at hc
    have hc1 := hc.1
    rw [NV_w (s := hrA x r) (by rw [hrA_1]; exact hw') (by rw [hrA_1]; exact hm) hf, hrA_w hw' hm hf, hrA_w (s := NV r) hw' hm hf, g0, g1, g2, g3, g4, g f hf, eL _ (by omega), NV_lo (show 12 + tn (r (25 + 5 * w)) < 24 by omega)]
  · intro k hk
    rw [NV_hi (by omega) (by omega), hrA_lo (by omega), hrA_lo (by omega), flA_out (by omega) (by omega) (by omega), flA_out (by omega) (by omega) (by omega), NV_hi (by omega) (by omega)]
theorem hour_spec {μ : Mem} {H : Nat} (h : BD H (aM μ)) (hx : Bn (inM μ) 99) (hH : H < 2 ^ 30) : ∃ μ', f_X6_hour μ = some μ' ∧ aM μ' = hrA (inM μ) (aM μ) ∧ (∀ k, k < 12 → μ' 6 k = μ 1 (12 + k)) ∧ (∀ c, c ≠ 1 → c ≠ 6 → μ' c = μ c) := by
  refine ⟨_, mhour_eq h hx hH, ?_, ?_, ?_⟩
  · exact NV_hrA h
  · intro k hk
    show (if 6 = 1 then _ else if 6 = 6 ∧ k < 12 then μ 1 (12 + k) else μ 6 k) = _
    rw [if_neg (by decide), if_pos ⟨rfl, hk⟩]
  · intro c h1 h6
    funext k
    show (if c = 1 then _ else if c = 6 ∧ k < 12 then μ 1 (12 + k) else μ c k) = _
    rw [if_neg h1, if_neg (by omega)]
theorem hour_open {μ : Mem} {H : Nat} (h : BD H (aM μ)) (h6 : μ 0 6 = 0) (hH : H < 2 ^ 30) : ∃ μ', f_X6_hour μ = some μ' ∧ aM μ' = hr1 (aM μ) ∧ (∀ k, k < 12 → μ' 6 k = μ 1 (12 + k)) ∧ (∀ c, c ≠ 1 → c ≠ 6 → μ' c = μ c) := by
  have e : inM μ = aM μ (4 + tn (aM μ 0) % 8) := by
    unfold inM
    rw [if_pos h6, aM_lo μ (by omega), aM_lo μ (by omega)]
  have := hour_spec h (by rw [e]; exact h.inf) hH
  rw [e] at this
  exact this
def hrZ : Nat → St → St
  | 0, s => s
  | n + 1, s => hrA 0 (hrZ n s)
theorem Bn_0 (n : Nat) : Bn 0 n := Bn_nI (j := 0) (by omega) (by decide)
theorem BD.hrZ {H : Nat} {s : St} (h : BD H s) : ∀ n, H + n < 1000000 → BD (H + n) (hrZ n s)
  | 0, _ => h
  | n + 1, hn => (BD.hrZ h n (by omega)).hr (Bn_0 99) (by omega)
theorem hour_shut {μ : Mem} {H : Nat} (h : BD H (aM μ)) (h6 : μ 0 6 = 1) (hH : H < 2 ^ 30) : ∃ μ', f_X6_hour μ = some μ' ∧ aM μ' = hrA 0 (aM μ) ∧ (∀ c, c ≠ 1 → c ≠ 6 → μ' c = μ c) := by
  have e : inM μ = 0 := by
    unfold inM
    rw [if_neg (by rw [h6]; decide)]
  obtain ⟨μ', h1, h2, h3, h4⟩ := hour_spec h (by rw [e]; exact Bn_0 99) hH
  rw [e] at h2
  exact ⟨μ', h1, h2, h4⟩
theorem goesOn_open {μ : Mem} {H : Nat} (n : Nat) (h : BD H (aM μ)) (h6 : μ 0 6 = 0) (hH : H + n < 1000000) (hn : n < 1000) : ∃ μ', f_X6_goesOn (nI n) μ = some μ' ∧ aM μ' = hrN n (aM μ) ∧ (∀ c, c ≠ 1 → c ≠ 6 → μ' c = μ c) := by
  have key : ∀ fu i (ν : Mem), i ≤ n → n - i < fu → aM ν = hrN i (aM μ) → (∀ c, c ≠ 1 → c ≠ 6 → ν c = μ c) → ∃ μ', it2 (f_X6_goesOn_B2 (nI n)) fu (nI i) ν = some μ' ∧ aM μ' = hrN n (aM μ) ∧ (∀ c, c ≠ 1 → c ≠ 6 → μ' c = μ c) := by
    intro fu
    induction fu with
    | zero => intro i ν _ h1; omega
    | succ fu ih =>
      intro i ν hi h1 h2 h3
      show ∃ μ', f_X6_goesOn_B2 (nI n) (it2 (f_X6_goesOn_B2 (nI n)) fu) (nI i) ν = some μ' ∧ _
      unfold f_X6_goesOn_B2
      by_cases he : n ≤ i
      · obtain rfl : i = n := by omega
        rw [if_pos (nle (Nat.le_refl i) (by omega))]
        exact ⟨ν, rfl, h2, h3⟩
      · rw [if_neg (nnle (by omega) (by omega))]
        have hb : BD (H + i) (aM ν) := by rw [h2]; exact h.hrN i (by omega)
        obtain ⟨ν', g1, g2, -, g4⟩ := hour_open hb (by rw [h3 0 (by decide) (by decide)]; exact h6) (by omega)
        rw [g1, Option.bind_some, nI_1]
        refine ih (i + 1) ν' (by omega) (by omega) ?_ ?_
        · rw [g2, h2]; rfl
        · intro c c1 c6
          rw [g4 c c1 c6, h3 c c1 c6]
  exact key FU 0 μ (by omega) (show n - 0 < 1000 by omega) rfl (fun _ _ _ => rfl)
theorem goesOn_shut {μ : Mem} {H : Nat} (n : Nat) (h : BD H (aM μ)) (h6 : μ 0 6 = 1) (hH : H + n < 1000000) (hn : n < 1000) : ∃ μ', f_X6_goesOn (nI n) μ = some μ' ∧ aM μ' = hrZ n (aM μ) ∧ (∀ c, c ≠ 1 → c ≠ 6 → μ' c = μ c) := by
  have key : ∀ fu i (ν : Mem), i ≤ n → n - i < fu → aM ν = hrZ i (aM μ) → (∀ c, c ≠ 1 → c ≠ 6 → ν c = μ c) → ∃ μ', it2 (f_X6_goesOn_B2 (nI n)) fu (nI i) ν = some μ' ∧ aM μ' = hrZ n (aM μ) ∧ (∀ c, c ≠ 1 → c ≠ 6 → μ' c = μ c) := by
    intro fu
    induction fu with
    | zero => intro i ν _ h1; omega
    | succ fu ih =>
      intro i ν hi h1 h2 h3
      show ∃ μ', f_X6_goesOn_B2 (nI n) (it2 (f_X6_goesOn_B2 (nI n)) fu) (nI i) ν = some μ' ∧ _
      unfold f_X6_goesOn_B2
      by_cases he : n ≤ i
      · obtain rfl : i = n := by omega
        rw [if_pos (nle (Nat.le_refl i) (by omega))]
        exact ⟨ν, rfl, h2, h3⟩
      · rw [if_neg (nnle (by omega) (by omega))]
        have hb : BD (H + i) (aM ν) := by rw [h2]; exact h.hrZ i (by omega)
        obtain ⟨ν', g1, g2, g4⟩ := hour_shut hb (by rw [h3 0 (by decide) (by decide)]; exact h6) (by omega)
        rw [g1, Option.bind_some, nI_1]
        refine ih (i + 1) ν' (by omega) (by omega) ?_ ?_
        · rw [g2, h2]; rfl
        · intro c c1 c6
          rw [g4 c c1 c6, h3 c c1 c6]
  exact key FU 0 μ (by omega) (show n - 0 < 1000 by omega) rfl (fun _ _ _ => rfl)

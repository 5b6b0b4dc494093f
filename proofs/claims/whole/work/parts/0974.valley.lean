/-! ===== pure: the class's valley over its row ===== -/
theorem vlive_out {b m : Nat} {τ : Mem} {c : Nat} (h : c < b + 7 ∨ b + 7 + m ≤ c) (k : Nat) : vlive b m τ c k = τ c k := by
  unfold vlive
  rw [if_neg (by omega), if_neg (by omega)]
theorem wflow_out {w : Nat} {x : Int32} {σ : Mem} {c : Nat} (h : c ≠ w ∧ c ≠ w + 1 ∧ c ≠ w + 2) (k : Nat) : wflow w x σ c k = σ c k := by
  unfold wflow
  rw [if_neg (by omega), if_neg (by omega), if_neg (by omega), if_neg (by omega)]
theorem vhour_out {b : Nat} {x : Int32} {σ : Mem} (hm : tn (σ b 3) ≤ 8) {c : Nat} (h : c < b ∨ b + 15 ≤ c) : vhour b x σ c = σ c := by
  funext k
  unfold vhour
  rw [vlive_out (by omega), wflow_out (by omega)]
theorem wflow_l {w : Nat} {x : Int32} {σ : Mem} {k : Nat} (hk : k < 12) : wflow w x σ (w + 1) k = lvW x (σ (w + 1)) k := by
  unfold wflow
  rw [if_pos ⟨rfl, hk⟩]
theorem wflow_b {w : Nat} {x : Int32} {σ : Mem} {k : Nat} (hk : k < 12) : wflow w x σ (w + 2) k = σ (w + 1) k := by
  unfold wflow
  rw [if_neg (by omega), if_pos ⟨rfl, hk⟩]
theorem lvW_congr {x : Int32} {L M : Nat → Int32} {k : Nat} (hk : k < 12) (h : ∀ c, c < 12 → L c = M c) : lvW x L k = lvW x M k := by
  unfold lvW
  rw [h k hk]
  by_cases h0 : k = 0
  · rw [if_pos h0, if_pos h0]
  · rw [if_neg h0, if_neg h0, h (k - 1) (by omega)]
theorem aC_hour {b H : Nat} {x : Int32} {σ : Mem} (h : BD H (aC b σ)) (hH : H < 99999) : aC b (vhour b x σ) = hrA x (aC b σ) := by
  obtain ⟨n0, n1, n2, n3, n4, n5, n6⟩ := h
  rw [aC_1] at n1
  have hm := n1.1
  have eo : ∀ c, (c = b ∨ c = b + 4 ∨ c = b + 6) → ∀ k, vhour b x σ c k = σ c k := fun c hc k => by
    unfold vhour
    rw [vlive_out (by omega), wflow_out (by omega)]
  have el : ∀ c, c < 12 → vhour b x σ (b + 2) c = lvW x (σ (b + 2)) c := fun c hc => by
    unfold vhour
    rw [vlive_out (by omega)]
    exact wflow_l hc
  have ew : ∀ k, vhour b x σ (b + 1) k = wflow (b + 1) x σ (b + 1) k := fun k => by
    unfold vhour
    rw [vlive_out (by omega)]
  have e1 : aC b (vhour b x σ) 1 = aC b σ 1 := by rw [aC_1, aC_1, eo b (by omega)]
  have eL : ∀ c, c < 12 → flA x (aC b σ) (12 + c) = lvW x (σ (b + 2)) c := fun c hc => by
    rw [flA_l hc]
    exact lvW_congr hc (fun c hc => aC_l b σ hc)
  refine St_ext (aC_NRM _ _) (hrA_NRM n0 (by rw [aC_1]; exact hm)) (by rw [e1, aC_1]; exact hm) ?_ ?_ ?_ ?_ ?_ ?_ ?_ ?_
  · rw [aC_0, hrA_0, aC_0, ew, wflow_hr (by rw [aC_0] at n2; exact n2) hH]
    have := n2.1
    rw [aC_0] at n2
    rw [← nI_1, ← n2.2]
  · rw [e1, hrA_1]
  · rw [aC_2, ew, hrA_lo (by omega)]
    show wflow (b + 1) x σ (b + 1) 3 = jm 999999 (aC b σ 2 + aC b σ (12 + 11) / 2)
    rw [aC_2, aC_l b σ (by decide)]
    unfold wflow
    rw [if_neg (by omega), if_neg (by omega), if_pos ⟨rfl, rfl⟩]
  · rw [aC_3, eo b (by omega), hrA_lo (by omega), flA_out (by omega) (by omega) (by omega), aC_3]
  · intro h hh
    rw [aC_p _ _ hh, eo (b + 4) (by omega), hrA_lo (by omega), flA_out (by omega) (by omega) (by omega), aC_p _ _ hh]
  · intro c hc
    rw [aC_l _ _ hc, el c hc, hrA_lo (by omega), eL c hc]
  · intro w hw f hf
    rw [e1, aC_1] at hw
    have eb3 : vhour b x σ b 3 = σ b 3 := eo b (by omega) 3
    rw [aC_w b _ (by rw [eb3]; exact hw) (by rw [eb3]; exact hm) hf, hrA_w (by rw [aC_1]; exact hw) (by rw [aC_1]; exact hm) hf]
    have g : ∀ f, f < 5 → aC b σ (24 + 5 * w + f) = σ (b + 7 + w) f := fun f hf => aC_w b σ hw hm hf
    have g0 := g 0 (by decide)
    have g1 := g 1 (by decide)
    have g2 := g 2 (by decide)
    have g3 := g 3 (by decide)
    have g4 := g 4 (by decide)
    rw [show 24 + 5 * w + 0 = 24 + 5 * w by omega] at g0
    rw [show 24 + 5 * w + 1 = 25 + 5 * w by omega] at g1
    rw [show 24 + 5 * w + 2 = 26 + 5 * w by omega] at g2
    rw [show 24 + 5 * w + 3 = 27 + 5 * w by omega] at g3
    rw [show 24 + 5 * w + 4 = 28 + 5 * w by omega] at g4
    have hc := (n5 w (by rw [aC_1]; exact hw)).1
    rw [g1] at hc
    have hc1 : tn (σ (b + 7 + w) 1) < 12 := by have := hc.1; omega
    rw [g0, g1, g2, g3, g4, g f hf, aC_l b σ hc1, eL _ hc1]
    have eww : ∀ k, wflow (b + 1) x σ (b + 7 + w) k = σ (b + 7 + w) k := fun k => wflow_out (by omega) k
    unfold vhour vlive
    rw [eww, eww, eww, eww, eww, eww]
    have eb : wflow (b + 1) x σ (b + 3) (tn (σ (b + 7 + w) 1)) = σ (b + 2) (tn (σ (b + 7 + w) 1)) := wflow_b hc1
    have en : wflow (b + 1) x σ (b + 2) (tn (σ (b + 7 + w) 1)) = lvW x (σ (b + 2)) (tn (σ (b + 7 + w) 1)) := wflow_l hc1
    rw [eb, en]
    by_cases h3 : f = 3
    · rw [if_pos (by omega), if_pos h3]
    · by_cases h4 : f = 4
      · rw [if_neg (by omega), if_pos (by omega), if_neg h3, if_pos h4]
      · rw [if_neg (by omega), if_neg (by omega), if_neg h3, if_neg h4]
  · intro k hk
    rw [aC_k _ _ hk, eo (b + 6) (by omega), hrA_lo (by omega), flA_out (by omega) (by omega) (by omega), aC_k _ _ hk]
def vh1 (b : Nat) (σ : Mem) : Mem := vhour b (σ (b + 4) (tn (σ (b + 1) 4) % 8)) σ
def vhs (b : Nat) : Nat → Mem → Mem
  | 0, σ => σ
  | n + 1, σ => vh1 b (vhs b n σ)
theorem aC_h1 {b H : Nat} {σ : Mem} (h : BD H (aC b σ)) (hH : H < 99999) : aC b (vh1 b σ) = hr1 (aC b σ) := by
  unfold vh1 hr1
  rw [aC_hour h hH, aC_0, aC_p b σ (Nat.mod_lt _ (by decide))]
theorem vhs_spec {b H : Nat} {σ : Mem} (h : BD H (aC b σ)) : ∀ n, H + n ≤ 99999 → aC b (vhs b n σ) = hrN n (aC b σ) ∧ (∀ c, (c < b ∨ b + 15 ≤ c) → vhs b n σ c = σ c)
  | 0, _ => ⟨rfl, fun _ _ => rfl⟩
  | n + 1, hn => by
    obtain ⟨h1, h2⟩ := vhs_spec h n (by omega)
    have h3 : BD (H + n) (aC b (vhs b n σ)) := by rw [h1]; exact h.hrN n (by omega)
    refine ⟨?_, fun c hc => ?_⟩
    · show aC b (vh1 b (vhs b n σ)) = _
      rw [aC_h1 h3 (by omega), h1]
      rfl
    · show vhour b _ (vhs b n σ) c = σ c
      rw [vhour_out (by have := h3.2.1.1; rw [aC_1] at this; exact this) hc, h2 c hc]
theorem BD.live {b H : Nat} {σ : Mem} (h : BD H (aC b σ)) (x : Int32) : f_X2_liveAll b (wflow (b + 1) x σ) = some (vhour b x σ) := by
  obtain ⟨n0, n1, n2, n3, n4, n5, n6⟩ := h
  rw [aC_1] at n1 n5
  have hm := n1.1
  unfold vhour
  refine liveAll_eq ?_ hm (fun j hj => ?_)
  · rw [wflow_out (by omega)]; exact n1.2
  · rw [wflow_out (by omega)]
    have h1 := (n5 j hj).1
    have h2 := aC_w b σ (f := 1) hj hm (by decide)
    rw [show 24 + 5 * j + 1 = 25 + 5 * j by omega] at h2
    rw [h2] at h1
    exact h1
theorem pass_eq {b H : Nat} {σ : Mem} (n : Nat) (h : BD H (aC b σ)) (hn : H + n ≤ 99999) (hn2 : n < 1000) : f_X2_pass b (nI n) σ = some (vhs b n σ) := by
  unfold f_X2_pass
  refine it2_for n (fun i => vhs b i σ) rfl hn2 (fun rec i hi => ?_) (fun rec => ?_)
  · unfold f_X2_pass_B2
    obtain ⟨h1, -⟩ := vhs_spec h i (by omega)
    have h3 : BD (H + i) (aC b (vhs b i σ)) := by rw [h1]; exact h.hrN i (by omega)
    have h4 := h3.2.2.1
    rw [aC_0] at h4
    rw [if_neg (nnle hi (by omega)), show f_X4_run (b + 1) 1 (vhs b i σ) = some (wstep (b + 1) (vhs b i σ)) from run_eq 1 h4 (by omega) (by decide), Option.bind_some, show wstep (b + 1) (vhs b i σ) = wflow (b + 1) (vhs b i σ (b + 4) (tn (vhs b i σ (b + 1) 4) % 8)) (vhs b i σ) from rfl, h3.live, Option.bind_some, nI_1]
    rfl
  · unfold f_X2_pass_B2
    rw [if_pos (nle (Nat.le_refl n) (by omega))]
theorem passShut_eq {b H : Nat} {σ : Mem} (h : BD H (aC b σ)) : f_X2_passShut b σ = some (vhour b 0 σ) := by
  unfold f_X2_passShut
  rw [flow_eq, Option.bind_some, h.live, Option.bind_some]
-- sets, sums
def setA (P : Nat → Bool) : Nat → Int32
  | 0 => 0
  | n + 1 => if P n = true then setA P n ||| (1 <<< (nI n &&& 31)) else setA P n
def knB (s : St) (w : Nat) : Bool := decide (s (27 + 5 * w) = 0)
def wtB (s : St) (w : Nat) : Bool := decide (¬ s (26 + 5 * w) ≤ s (12 + tn (s (25 + 5 * w))))
def knA (s : St) : Int32 := setA (knB s) (tn (s 1))
def wtA (s : St) : Int32 := setA (wtB s) (tn (s 1))
def blA (s : St) : Int32 := sumF (fun w => s (27 + 5 * w)) (tn (s 1))
theorem aC_wf {b H : Nat} {σ : Mem} (h : BD H (aC b σ)) {w : Nat} (hw : w < tn (σ b 3)) : aC b σ (24 + 5 * w) = σ (b + 7 + w) 0 ∧ aC b σ (25 + 5 * w) = σ (b + 7 + w) 1 ∧ aC b σ (26 + 5 * w) = σ (b + 7 + w) 2 ∧ aC b σ (27 + 5 * w) = σ (b + 7 + w) 3 ∧ aC b σ (28 + 5 * w) = σ (b + 7 + w) 4 := by
  have hm := h.2.1.1
  rw [aC_1] at hm
  have g : ∀ f, f < 5 → aC b σ (24 + 5 * w + f) = σ (b + 7 + w) f := fun f hf => aC_w b σ hw hm hf
  have g0 := g 0 (by decide)
  have g1 := g 1 (by decide)
  have g2 := g 2 (by decide)
  have g3 := g 3 (by decide)
  have g4 := g 4 (by decide)
  rw [show 24 + 5 * w + 0 = 24 + 5 * w by omega] at g0
  rw [show 24 + 5 * w + 1 = 25 + 5 * w by omega] at g1
  rw [show 24 + 5 * w + 2 = 26 + 5 * w by omega] at g2
  rw [show 24 + 5 * w + 3 = 27 + 5 * w by omega] at g3
  rw [show 24 + 5 * w + 4 = 28 + 5 * w by omega] at g4
  exact ⟨g0, g1, g2, g3, g4⟩
theorem knowing_eq {b H : Nat} {σ : Mem} (h : BD H (aC b σ)) : f_X2_knowing b σ = some (knA (aC b σ)) := by
  have n1 := h.2.1
  rw [aC_1] at n1
  have hm := n1.1
  unfold f_X2_knowing knA
  rw [aC_1]
  refine it2_for' (tn (σ b 3)) (fun i => setA (knB (aC b σ)) i) rfl (by omega) (fun rec i hi => ?_) (fun rec => ?_)
  · unfold f_X2_knowing_B4 f_X2_knowing_J30 f_X3_knows
    obtain ⟨-, -, -, g3, -⟩ := aC_wf h hi
    rw [if_neg (show ¬ σ b 3 ≤ nI i by rw [n1.2]; exact nnle hi (by omega)), chk_nI (show i < 8 by omega) (by decide), nI_clamp (show i < 2 ^ 31 by omega)]
    congr 1
    · show _ = if knB (aC b σ) i = true then _ else _
      unfold knB
      rw [g3]
      by_cases h0 : σ (b + 7 + i) 3 = 0
      · simp [h0]
      · simp [h0]
    · exact nI_1 i
  · unfold f_X2_knowing_B4
    rw [if_pos (show σ b 3 ≤ nI (tn (σ b 3)) by rw [← n1.2]; exact Int32.le_refl _)]
theorem lacking_eq {b H : Nat} {σ : Mem} (h : BD H (aC b σ)) : f_X2_lacking b σ = some (wtA (aC b σ)) := by
  have n1 := h.2.1
  rw [aC_1] at n1
  have hm := n1.1
  unfold f_X2_lacking wtA
  rw [aC_1]
  refine it2_for' (tn (σ b 3)) (fun i => setA (wtB (aC b σ)) i) rfl (by omega) (fun rec i hi => ?_) (fun rec => ?_)
  · unfold f_X2_lacking_B4 f_X2_lacking_J47 f_X3_lacks
    obtain ⟨-, g1, g2, -, -⟩ := aC_wf h hi
    have hc := (h.2.2.2.2.2.1 i (by rw [aC_1]; exact hi)).1
    rw [g1] at hc
    have hc1 := hc.1
    rw [if_neg (show ¬ σ b 3 ≤ nI i by rw [n1.2]; exact nnle hi (by omega)), chk_nI (show i < 8 by omega) (by decide), chk_nI (show i < 8 by omega) (by decide), nI_clamp (show i < 2 ^ 31 by omega), hc.chk (by decide) (by decide)]
    congr 1
    · show _ = if wtB (aC b σ) i = true then _ else _
      unfold wtB
      rw [g1, g2, aC_l b σ (by omega)]
      by_cases h0 : σ (b + 7 + i) 2 ≤ σ (b + 2) (tn (σ (b + 7 + i) 1))
      · simp [h0]
      · simp [h0]
    · exact nI_1 i
  · unfold f_X2_lacking_B4
    rw [if_pos (show σ b 3 ≤ nI (tn (σ b 3)) by rw [← n1.2]; exact Int32.le_refl _)]
theorem beliefs_eq {b H : Nat} {σ : Mem} (h : BD H (aC b σ)) : f_X2_beliefsTogether b σ = some (blA (aC b σ)) := by
  have n1 := h.2.1
  rw [aC_1] at n1
  have hm := n1.1
  unfold f_X2_beliefsTogether blA
  rw [aC_1]
  refine it2_for' (tn (σ b 3)) (fun i => sumF (fun w => aC b σ (27 + 5 * w)) i) rfl (by omega) (fun rec i hi => ?_) (fun rec => ?_)
  · unfold f_X2_beliefsTogether_B4
    obtain ⟨-, -, -, g3, -⟩ := aC_wf h hi
    rw [if_neg (show ¬ σ b 3 ≤ nI i by rw [n1.2]; exact nnle hi (by omega)), chk_nI (show i < 8 by omega) (by decide), nI_clamp (show i < 2 ^ 31 by omega), nI_1, ← g3]
    rfl
  · unfold f_X2_beliefsTogether_B4
    rw [if_pos (show σ b 3 ≤ nI (tn (σ b 3)) by rw [← n1.2]; exact Int32.le_refl _)]

/-! ===== pure: watch ===== -/
/-- what a cell has changed in so many hours -/
def stF (s : St) (c : Nat) : Nat → Int32
  | 0 => 0
  | n + 1 => stF s c n + jabs (hrN (n + 1) s (12 + c) - hrN n s (12 + c))
theorem stir_inner {i : Nat} (R : Int32 → Mem → Option Mem) (τ : Mem) : it2 (f_X5_stir_B41 (nI i) R) FU 0 τ = R (nI (i + 1)) (fun c k => if c = 61 ∧ k < 12 then τ 61 k + jabs (τ 33 k - τ 34 k) else τ c k) := by
  refine it2_for 12 (fun j => fun c k => if c = 61 ∧ k < j then τ 61 k + jabs (τ 33 k - τ 34 k) else τ c k) (by funext c k; rw [if_neg (by omega)]) (by decide) (fun rec j hj => ?_) (fun rec => ?_)
  · unfold f_X5_stir_B41
    rw [if_neg (show ¬ (12 : Int32) ≤ nI j from nnle hj (by decide)), chk_nI hj (by decide), chk_nI hj (by decide), chk_nI hj (by decide), chk_nI hj (by decide), nI_1, nI_clamp (show j < 2 ^ 31 by omega)]
    congr 1
    funext c k
    rw [mst_ap]
    by_cases h1 : c = 61 ∧ k = j
    · rw [if_pos h1]
      dsimp only
      rw [if_neg (show ¬ (61 = 61 ∧ j < j) by omega), if_neg (show ¬ (33 = 61 ∧ j < j) by omega), if_neg (show ¬ (34 = 61 ∧ j < j) by omega), if_pos (by omega), h1.2]
    · rw [if_neg h1]
      by_cases h2 : c = 61 ∧ k < j
      · rw [if_pos h2, if_pos (by omega)]
      · rw [if_neg h2, if_neg (by omega)]
  · unfold f_X5_stir_B41
    rw [if_pos (show (12 : Int32) ≤ nI 12 from nle (Nat.le_refl 12) (by decide)), nI_1]
theorem mwatch_inner {i : Nat} (R : Int32 → Mem → Option (Int32 × Mem)) (μ : Mem) : it2 (f_X6_watch_B57 (nI i) R) FU 0 μ = R (nI (i + 1)) (fun c k => if c = 7 ∧ k < 12 then μ 7 k + f_X6_distance (μ 1 (12 + k)) (μ 6 k) else μ c k) := by
  refine it2_for 12 (fun j => fun c k => if c = 7 ∧ k < j then μ 7 k + f_X6_distance (μ 1 (12 + k)) (μ 6 k) else μ c k) (by funext c k; rw [if_neg (by omega)]) (by decide) (fun rec j hj => ?_) (fun rec => ?_)
  · unfold f_X6_watch_B57
    rw [if_neg (show ¬ (12 : Int32) ≤ nI j from nnle hj (by decide)), n12, chk_nI hj (by decide), chk_nI (show 12 + j < 74 by omega) (by decide), chk_nI hj (by decide), chk_nI hj (by decide), nI_1, nI_clamp (show j < 2 ^ 31 by omega), nI_clamp (show 12 + j < 2 ^ 31 by omega)]
    congr 1
    funext c k
    rw [mst_ap]
    by_cases h1 : c = 7 ∧ k = j
    · rw [if_pos h1]
      dsimp only
      rw [if_neg (show ¬ (7 = 7 ∧ j < j) by omega), if_neg (show ¬ (1 = 7 ∧ 12 + j < j) by omega), if_neg (show ¬ (6 = 7 ∧ j < j) by omega), if_pos (by omega), h1.2]
    · rw [if_neg h1]
      by_cases h2 : c = 7 ∧ k < j
      · rw [if_pos h2, if_pos (by omega)]
      · rw [if_neg h2, if_neg (by omega)]
  · unfold f_X6_watch_B57
    rw [if_pos (show (12 : Int32) ≤ nI 12 from nle (Nat.le_refl 12) (by decide)), nI_1]
theorem watch_best {τ ν : Mem} {F : Nat → Int32} (h5 : ∀ c, c < 12 → τ 61 c = F c) (h6 : ∀ c, c < 12 → ν 7 c = F c) : ∀ d fu i b, i + d = 12 → d < fu → b < 12 → ∃ v, it2 (f_X5_watch_B27 τ) fu (nI b) (nI i) = some (v, τ) ∧ it2 (f_X6_watch_B106 ν) fu (nI b) (nI i) = ((f_X6_takesBack v ν).bind fun q => some (q.1, q.2)) := by
  intro d
  induction d with
  | zero =>
    intro fu i b hi hf hb
    match fu, hf with
    | fu + 1, hf =>
      show ∃ v, f_X5_watch_B27 τ (it2 (f_X5_watch_B27 τ) fu) (nI b) (nI i) = some (v, τ) ∧ f_X6_watch_B106 ν (it2 (f_X6_watch_B106 ν) fu) (nI b) (nI i) = _
      unfold f_X5_watch_B27 f_X6_watch_B106
      rw [if_pos (show (12 : Int32) ≤ nI i from nI_le (a := 12) (by omega) (by omega)), if_pos (show (12 : Int32) ≤ nI i from nI_le (a := 12) (by omega) (by omega))]
      exact ⟨nI b, rfl, rfl⟩
  | succ d ih =>
    intro fu i b hi hf hb
    match fu, hf with
    | fu + 1, hf =>
      show ∃ v, f_X5_watch_B27 τ (it2 (f_X5_watch_B27 τ) fu) (nI b) (nI i) = some (v, τ) ∧ f_X6_watch_B106 ν (it2 (f_X6_watch_B106 ν) fu) (nI b) (nI i) = _
      replace ih := ih fu (i + 1)
      revert ih
      generalize it2 (f_X5_watch_B27 τ) fu = R5
      generalize it2 (f_X6_watch_B106 ν) fu = R6
      intro ih
      unfold f_X5_watch_B27 f_X6_watch_B106 f_X5_watch_J50 f_X6_watch_J132
      have hi12 : i < 12 := by omega
      rw [if_neg (show ¬ (12 : Int32) ≤ nI i from nnle hi12 (by decide)), if_neg (show ¬ (12 : Int32) ≤ nI i from nnle hi12 (by decide)), chk_nI hi12 (by decide), chk_nI hb (by decide), chk_nI hi12 (by decide), chk_nI hb (by decide), nI_clamp (show i < 2 ^ 31 by omega), nI_clamp (show b < 2 ^ 31 by omega), h5 i hi12, h5 b hb, h6 i hi12, h6 b hb, nI_1]
      by_cases h : F i ≤ F b
      · rw [if_pos h]
        exact ih b (by omega) (by omega) hb
      · rw [if_neg h]
        exact ih i (by omega) (by omega) hi12
theorem st_watch : ST_watch Inv := by
  intro k σ μ x1 hk hI
  show RS k (f_X5_watch x1 σ) (f_X6_watch x1 μ)
  unfold f_X5_watch f_X6_watch
  rcases gd1 x1 1 60 (A := 1) (B := 60) (L := 1) (U := 60) rfl rfl rfl rfl (by decide) with ⟨n, h1, h2, rfl, a1, a2, a3⟩ | ⟨a1, a2⟩
  · rw [if_neg a1, if_pos a2, if_neg a3]
    -- the class's stir
    have c1 : ∃ τ, f_X5_stir (nI n) σ = some τ ∧ FT σ τ ∧ ∀ c, c < 12 → τ 61 c = stF (aM μ) c n := by
      unfold f_X5_stir
      have z : it2 (f_X5_stir_B2 (nI n)) FU 0 σ = it2 (f_X5_stir_B28 (nI n)) FU 1 (f_X5_waterTried (fun c k => if c = 61 ∧ k < 12 then 0 else σ c k)) := by
        refine it2_for 12 (fun j => fun c k => if c = 61 ∧ k < j then 0 else σ c k) (by funext c k; rw [if_neg (by omega)]) (by decide) (fun rec j hj => ?_) (fun rec => ?_)
        · unfold f_X5_stir_B2
          rw [if_neg (show ¬ (12 : Int32) ≤ nI j from nnle hj (by decide)), chk_nI hj (by decide), nI_1, nI_clamp (show j < 2 ^ 31 by omega)]
          congr 1
          funext c k
          rw [mst_ap]
          by_cases h1 : c = 61 ∧ k = j
          · rw [if_pos h1, if_pos (by omega)]
          · rw [if_neg h1]
            by_cases h2 : c = 61 ∧ k < j
            · rw [if_pos h2, if_pos (by omega)]
            · rw [if_neg h2, if_neg (by omega)]
        · unfold f_X5_stir_B2
          rw [if_pos (show (12 : Int32) ≤ nI 12 from nle (Nat.le_refl 12) (by decide))]
      rw [z]
      have ft0 : FT σ (fun c k => if c = 61 ∧ k < 12 then 0 else σ c k) := fun c hc => by
        funext i
        show (if c = 61 ∧ i < 12 then 0 else σ c i) = σ c i
        rw [if_neg (by omega)]
      have hw := tried_WT (fun c k => if c = 61 ∧ k < 12 then 0 else σ c k)
      rw [ft0.row, hI.row] at hw
      have key : ∀ d fu i (τ : Mem), i + d = n → d < fu → WT 32 τ (hrN i (aM μ)) → FT σ τ → (∀ c, c < 12 → τ 61 c = stF (aM μ) c i) → ∃ τ', it2 (f_X5_stir_B28 (nI n)) fu (nI (i + 1)) τ = some τ' ∧ FT σ τ' ∧ ∀ c, c < 12 → τ' 61 c = stF (aM μ) c n := by
        intro d
        induction d with
        | zero =>
          intro fu i τ hi hf hW hT hF
          match fu, hf with
          | fu + 1, hf =>
            show ∃ τ', f_X5_stir_B28 (nI n) (it2 (f_X5_stir_B28 (nI n)) fu) (nI (i + 1)) τ = some τ' ∧ _
            unfold f_X5_stir_B28
            obtain rfl : i = n := by omega
            rw [if_pos (nI_lt (by omega) (by omega))]
            exact ⟨τ, rfl, hT, hF⟩
        | succ d ih =>
          intro fu i τ hi hf hW hT hF
          match fu, hf with
          | fu + 1, hf =>
            show ∃ τ', f_X5_stir_B28 (nI n) (it2 (f_X5_stir_B28 (nI n)) fu) (nI (i + 1)) τ = some τ' ∧ _
            replace ih := ih fu (i + 1)
            revert ih
            generalize it2 (f_X5_stir_B28 (nI n)) fu = R
            intro ih
            unfold f_X5_stir_B28
            have hb : BD (80 * k + i) (hrN i (aM μ)) := hI.bd.hrN i (by omega)
            obtain ⟨r1, r2⟩ := wrun1 hW hb (by omega)
            rw [if_neg (nI_nlt (by omega) (by omega)), r1, Option.bind_some, stir_inner]
            have o1 : ∀ c, c ≠ 61 → (fun c k => if c = 61 ∧ k < 12 then wstep 32 τ 61 k + jabs (wstep 32 τ 33 k - wstep 32 τ 34 k) else wstep 32 τ c k) c = wstep 32 τ c := fun c hc => by
              funext k
              show (if c = 61 ∧ k < 12 then _ else wstep 32 τ c k) = _
              rw [if_neg (by omega)]
            refine ih _ (by omega) (by omega) ?_ ?_ ?_
            · obtain ⟨p1, p2, p3, p4⟩ := r2
              refine ⟨?_, ?_, ?_, ?_⟩
              · rw [o1 32 (by decide)]; exact p1
              · rw [o1 32 (by decide)]; exact p2
              · intro h hh; rw [o1 (32 + 3) (by decide)]; exact p3 h hh
              · intro c hc; rw [o1 (32 + 1) (by decide)]; exact p4 c hc
            · intro c hc
              rw [o1 c (by omega)]
              exact (hT.trans (FT_wstep τ)) c hc
            · intro c hc
              show (if 61 = 61 ∧ c < 12 then wstep 32 τ 61 c + jabs (wstep 32 τ 33 c - wstep 32 τ 34 c) else wstep 32 τ 61 c) = _
              rw [if_pos ⟨rfl, hc⟩, wstep_out (c := 61) (by omega), hF c hc, r2.2.2.2 c hc]
              have eb : wstep 32 τ 34 c = hrN i (aM μ) (12 + c) := by
                have : wstep 32 τ 34 c = τ 33 c := wflow_b (w := 32) hc
                rw [this]
                exact hW.2.2.2 c hc
              rw [eb]
              rfl
      refine key n FU 0 _ (by omega) (show n < 1000 by omega) hw (ft0.trans (FT_tried _)) (fun c hc => ?_)
      rw [tried_out (by omega)]
      show (if 61 = 61 ∧ c < 12 then 0 else σ 61 c) = 0
      rw [if_pos ⟨rfl, hc⟩]
    obtain ⟨τ, t1, t2, t3⟩ := c1
    rw [t1, Option.bind_some]
    -- the reference
    have z : it2 (f_X6_watch_B21 (nI n)) FU 0 μ = ((f_X6_laysAside (fun c k => if c = 7 ∧ k < 12 then 0 else μ c k)).bind fun q => it2 (f_X6_watch_B46 (nI n)) FU 0 q) := by
      refine it2_for 12 (fun j => fun c k => if c = 7 ∧ k < j then 0 else μ c k) (by funext c k; rw [if_neg (by omega)]) (by decide) (fun rec j hj => ?_) (fun rec => ?_)
      · unfold f_X6_watch_B21
        rw [if_neg (show ¬ (12 : Int32) ≤ nI j from nnle hj (by decide)), chk_nI hj (by decide), nI_1, nI_clamp (show j < 2 ^ 31 by omega)]
        congr 1
        funext c k
        rw [mst_ap]
        by_cases h1 : c = 7 ∧ k = j
        · rw [if_pos h1, if_pos (by omega)]
        · rw [if_neg h1]
          by_cases h2 : c = 7 ∧ k < j
          · rw [if_pos h2, if_pos (by omega)]
          · rw [if_neg h2, if_neg (by omega)]
      · unfold f_X6_watch_B21
        rw [if_pos (show (12 : Int32) ≤ nI 12 from nle (Nat.le_refl 12) (by decide))]
    rw [z]
    obtain ⟨μ1, m1, m2, m3, m4⟩ := aside (fun c k => if c = 7 ∧ k < 12 then 0 else μ c k)
    rw [m1, Option.bind_some]
    have f0 : ∀ c, c ≠ 7 → (fun c k => if c = 7 ∧ k < 12 then 0 else μ c k) c = μ c := fun c hc => by
      funext k
      show (if c = 7 ∧ k < 12 then 0 else μ c k) = μ c k
      rw [if_neg (by omega)]
    have as0 : AS μ μ1 := ⟨fun i hi => by rw [m2.1 i hi, f0 1 (by decide)], FR.trans ⟨fun c hc => f0 c (by omega), fun x _ => congrFun (f0 0 (by decide)) x⟩ m2.2⟩
    have r0 : aM μ1 = aM μ := by rw [m3]; exact aM_frame (f0 1 (by decide))
    have key : ∀ d fu i (ν : Mem), i + d = n → d < fu → AS μ ν → aM ν = hrN i (aM μ) → (∀ c, c < 12 → ν 7 c = stF (aM μ) c i) → RS k (it2 (f_X5_watch_B27 τ) FU 0 1) (it2 (f_X6_watch_B46 (nI n)) fu (nI i) ν) := by
      intro d
      induction d with
      | zero =>
        intro fu i ν hi hf hA hr hF
        match fu, hf with
        | fu + 1, hf =>
          show RS k _ (f_X6_watch_B46 (nI n) (it2 (f_X6_watch_B46 (nI n)) fu) (nI i) ν)
          unfold f_X6_watch_B46
          obtain rfl : i = n := by omega
          rw [if_pos (nle (Nat.le_refl i) (by omega))]
          obtain ⟨v, e1, e2⟩ := watch_best t3 hF 11 FU 1 0 (by decide) (by decide) (by decide)
          obtain ⟨ν', b1, b2, b3, b4⟩ := hA.back v
          rw [show it2 (f_X5_watch_B27 τ) FU 0 1 = _ from e1, show it2 (f_X6_watch_B106 ν) FU 0 1 = _ from e2, b1, Option.bind_some]
          exact ⟨_, _, rfl, rfl, rfl, hI.tr t2 b2.2 b3⟩
      | succ d ih =>
        intro fu i ν hi hf hA hr hF
        match fu, hf with
        | fu + 1, hf =>
          show RS k _ (f_X6_watch_B46 (nI n) (it2 (f_X6_watch_B46 (nI n)) fu) (nI i) ν)
          replace ih := ih fu (i + 1)
          revert ih
          generalize it2 (f_X6_watch_B46 (nI n)) fu = R
          intro ih
          unfold f_X6_watch_B46
          have hb : BD (80 * k + i) (aM ν) := by rw [hr]; exact hI.bd.hrN i (by omega)
          have hb2 : BD (80 * k + (i + 1)) (hrN (i + 1) (aM μ)) := hI.bd.hrN (i + 1) (by omega)
          obtain ⟨ν2, g1, g2, g3, g4⟩ := hour_open hb (hA.shut hI) (by omega)
          rw [if_neg (nnle (by omega) (by omega)), g1, Option.bind_some, mwatch_inner]
          have o1 : ∀ c, c ≠ 7 → (fun c k => if c = 7 ∧ k < 12 then ν2 7 k + f_X6_distance (ν2 1 (12 + k)) (ν2 6 k) else ν2 c k) c = ν2 c := fun c hc => by
            funext k
            show (if c = 7 ∧ k < 12 then _ else ν2 c k) = _
            rw [if_neg (by omega)]
          have hA2 := hA.step g4
          refine ih _ (by omega) (by omega) ?_ ?_ ?_
          · exact ⟨fun j hj => by rw [o1 4 (by decide)]; exact hA2.1 j hj, hA2.2.trans ⟨fun c hc => o1 c (by omega), fun x _ => congrFun (o1 0 (by decide)) x⟩⟩
          · rw [aM_frame (μ := ν2) (o1 1 (by decide)), g2, hr]; rfl
          · intro c hc
            show (if 7 = 7 ∧ c < 12 then ν2 7 c + f_X6_distance (ν2 1 (12 + c)) (ν2 6 c) else ν2 7 c) = _
            have e1 : ν2 1 (12 + c) = hrN (i + 1) (aM μ) (12 + c) := by
              rw [aM_at (μ := ν2) (j := 12 + c) (Or.inl (by omega)), g2, hr]; rfl
            have e2 : ν2 6 c = hrN i (aM μ) (12 + c) := by
              rw [g3 c hc, aM_at (μ := ν) (j := 12 + c) (Or.inl (by omega)), hr]
            rw [if_pos ⟨rfl, hc⟩, g4 7 (by decide) (by decide), hF c hc, e1, e2, dist_eq (hb2.2.2.2.2.1 c hc) ((hI.bd.hrN i (by omega)).2.2.2.2.1 c hc)]
            rfl
    refine key n FU 0 μ1 (by omega) (show n < 1000 by omega) as0 (by rw [r0]; rfl) (fun c hc => ?_)
    rw [m4 7 (by decide)]
    show (if 7 = 7 ∧ c < 12 then 0 else μ 7 c) = 0
    rw [if_pos ⟨rfl, hc⟩]
  · rw [if_pos a2]
    rcases a1 with a1 | a1
    · rw [if_pos a1]; exact fndB hI
    · by_cases a3 : x1 < 1
      · rw [if_pos a3]; exact fndB hI
      · rw [if_neg a3, if_neg a1]; exact fndB hI

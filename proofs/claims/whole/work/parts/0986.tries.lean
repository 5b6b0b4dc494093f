/-! ===== pure: what is tried on the water ===== -/
def AS (μ0 μ : Mem) : Prop := (∀ i, i < 74 → μ 4 i = μ0 1 i) ∧ FR μ0 μ
theorem AS.step {μ0 μ μ' : Mem} (h : AS μ0 μ) (hf : ∀ c, c ≠ 1 → c ≠ 6 → μ' c = μ c) : AS μ0 μ' := ⟨fun i hi => by rw [hf 4 (by decide) (by decide)]; exact h.1 i hi, h.2.trans (FR.of1 hf)⟩
theorem AS.row {μ0 μ : Mem} {j : Nat} {v : Int32} (h : AS μ0 μ) : AS μ0 (mst μ 1 j v) := h.step (fun c h1 _ => mst_c h1)
theorem aside (μ : Mem) : ∃ μ', f_X6_laysAside μ = some μ' ∧ AS μ μ' ∧ aM μ' = aM μ ∧ (∀ c, c ≠ 4 → μ' c = μ c) := by
  obtain ⟨μ', h1, h2, h3⟩ := laysAside_spec μ
  exact ⟨μ', h1, ⟨h2, FR.of4 h3⟩, aM_frame (h3 1 (by decide)), h3⟩
theorem AS.back {μ0 μ : Mem} (h : AS μ0 μ) (v : Int32) : ∃ μ', f_X6_takesBack v μ = some (v, μ') ∧ AS μ0 μ' ∧ aM μ' = aM μ0 ∧ (∀ c, c ≠ 1 → μ' c = μ c) := by
  obtain ⟨μ', h1, h2, h3⟩ := takesBack_spec v μ
  refine ⟨μ', h1, h.step (fun c c1 _ => h3 c c1), ?_, h3⟩
  exact NV_congr (fun i hi => by rw [h2 i hi, h.1 i hi])
theorem AS.shut {k : Nat} {σ μ0 μ : Mem} (h : AS μ0 μ) (hI : Inv k σ μ0) : μ 0 6 = 0 := by
  rw [h.2.2 6 (by omega)]; exact hI.shut
/-- the place of the row read off -/
theorem aM_at {μ : Mem} {j : Nat} (h : j < 24 ∨ (24 ≤ j ∧ j < 24 + 5 * tn (aM μ 1) ∧ j < 64)) : μ 1 j = aM μ j := by
  rw [aM_lo μ (by decide)] at h
  unfold aM NV
  rcases h with h | h
  · rw [if_pos h]
  · rw [if_neg (by omega), if_pos (by omega), if_neg (by omega)]
theorem hrN_1 (s : St) : ∀ n, hrN n s 1 = s 1
  | 0 => rfl
  | n + 1 => by
    have : hrN (n + 1) s 1 = hrN n s 1 := hrA_1 (hrN n s (4 + tn (hrN n s 0) % 8)) (hrN n s)
    rw [this, hrN_1 s n]
def fst (P : Nat → Bool) : Nat → Nat → Nat
  | 0, i => i
  | n + 1, i => if P i = true then i else fst P n (i + 1)
theorem fst_le (P : Nat → Bool) : ∀ n i, fst P n i ≤ i + n
  | 0, i => Nat.le_refl i
  | n + 1, i => by
    unfold fst
    have := fst_le P n (i + 1)
    split <;> omega
theorem fst_ge (P : Nat → Bool) : ∀ n i, i ≤ fst P n i
  | 0, i => Nat.le_refl i
  | n + 1, i => by
    unfold fst
    have := fst_ge P n (i + 1)
    split <;> omega
theorem until_eq {k : Nat} {σ μ : Mem} (hI : Inv k σ μ) (hk : k < 512) {j : Nat} (hj : j < 24 ∨ (24 ≤ j ∧ j < 24 + 5 * tn (μ 1 1))) (v b : Int32) : ∃ μ', f_X6_until (nI j) v b μ = some (nI (fst (fun i => if b = 0 then decide (v ≤ hrN i (aM μ) j) else decide (hrN i (aM μ) j ≤ v)) 201 0), μ') ∧ AS μ μ' ∧ aM μ' = aM μ ∧ (∀ c, c ≠ 1 → c ≠ 4 → c ≠ 6 → μ' c = μ c) := by
  have hm := hI.m1.2.1
  obtain ⟨μ1, a1, a2, a3, a4⟩ := aside μ
  unfold f_X6_until
  rw [a1, Option.bind_some]
  have key : ∀ n fu i (ν : Mem), i + n = 201 → n < fu → AS μ ν → aM ν = hrN i (aM μ) → (∀ c, c ≠ 1 → c ≠ 4 → c ≠ 6 → ν c = μ c) → ∃ μ', it2 (f_X6_until_B7 (nI j) v b) fu (nI i) ν = some (nI (fst (fun i => if b = 0 then decide (v ≤ hrN i (aM μ) j) else decide (hrN i (aM μ) j ≤ v)) n i), μ') ∧ AS μ μ' ∧ aM μ' = aM μ ∧ (∀ c, c ≠ 1 → c ≠ 4 → c ≠ 6 → μ' c = μ c) := by
    intro n
    induction n with
    | zero =>
      intro fu i ν hi hf hA hr hfr
      match fu, hf with
      | fu + 1, hf =>
        show ∃ μ', f_X6_until_B7 (nI j) v b (it2 (f_X6_until_B7 (nI j) v b) fu) (nI i) ν = some (nI i, μ') ∧ _
        unfold f_X6_until_B7
        obtain ⟨ν', b1, b2, b3, b4⟩ := hA.back (nI i)
        rw [if_pos (show (200 : Int32) < nI i from nI_lt (a := 200) (by omega) (by omega)), b1, Option.bind_some]
        exact ⟨ν', rfl, b2, b3, fun c c1 c4 c6 => by rw [b4 c c1, hfr c c1 c4 c6]⟩
    | succ n ih =>
      intro fu i ν hi hf hA hr hfr
      match fu, hf with
      | fu + 1, hf =>
        show ∃ μ', f_X6_until_B7 (nI j) v b (it2 (f_X6_until_B7 (nI j) v b) fu) (nI i) ν = some (nI (if (if b = 0 then decide (v ≤ hrN i (aM μ) j) else decide (hrN i (aM μ) j ≤ v)) = true then i else fst (fun i => if b = 0 then decide (v ≤ hrN i (aM μ) j) else decide (hrN i (aM μ) j ≤ v)) n (i + 1)), μ') ∧ _
        replace ih := ih fu (i + 1)
        revert ih
        generalize it2 (f_X6_until_B7 (nI j) v b) fu = R
        intro ih
        unfold f_X6_until_B7 f_X6_until_J42
        have ev : ν 1 j = hrN i (aM μ) j := by
          rw [← hr]
          refine aM_at ?_
          rw [hr, hrN_1, aM_lo μ (by decide)]
          omega
        have hb : BD (80 * k + i) (aM ν) := by rw [hr]; exact hI.bd.hrN i (by omega)
        obtain ⟨ν', b1, b2, b3, b4⟩ := hA.back (nI i)
        obtain ⟨ν2, g1, g2, -, g4⟩ := hour_open hb (hA.shut hI) (by omega)
        have nx := ih ν2 (by omega) (by omega) (hA.step g4) (by rw [g2, hr]; rfl) (fun c c1 c4 c6 => by rw [g4 c c1 c6, hfr c c1 c4 c6])
        rw [if_neg (show ¬ (200 : Int32) < nI i from nI_nlt (b := 200) (a := 200) (Nat.le_refl _) (by decide) |> fun _ => by
          rw [show (200 : Int32) = nI 200 from rfl, nI_ltI (by decide) (by omega)]; omega), chk_nI (show j < 74 by omega) (by decide), chk_nI (show j < 74 by omega) (by decide), nI_clamp (show j < 2 ^ 31 by omega), ev, g1, Option.bind_some, nI_1, b1, Option.bind_some]
        by_cases h0 : b = 0
        · rw [if_pos h0, if_pos h0]
          by_cases hv : v ≤ hrN i (aM μ) j
          · rw [if_pos hv, if_pos (decide_eq_true hv)]
            exact ⟨ν', rfl, b2, b3, fun c c1 c4 c6 => by rw [b4 c c1, hfr c c1 c4 c6]⟩
          · rw [if_neg hv, if_neg (by simp [hv])]
            exact nx
        · rw [if_neg h0, if_neg h0]
          by_cases hv : hrN i (aM μ) j ≤ v
          · rw [if_pos hv, if_pos (decide_eq_true hv)]
            exact ⟨ν', rfl, b2, b3, fun c c1 c4 c6 => by rw [b4 c c1, hfr c c1 c4 c6]⟩
          · rw [if_neg hv, if_neg (by simp [hv])]
            exact nx
  exact key 201 FU 0 μ1 (by decide) (by decide) a2 (by rw [a3]; rfl) (fun c _ c4 _ => a4 c c4)
theorem FT_tried (σ : Mem) : FT σ (f_X5_waterTried σ) := fun c hc => tried_out (by omega)
theorem FT_wsteps (σ : Mem) (n : Nat) : FT σ (wsteps 32 n σ) := fun c hc => wsteps_out (by omega) n
theorem orNone_eq {n : Nat} (hn : n ≤ 201) (μ : Mem) : f_X6_orNone (nI n) μ = if n ≤ 200 then some (nI n, μ) else ((f_X6_finds (-1000004) μ).bind fun q => some (q.1, q.2)) := by
  unfold f_X6_orNone
  by_cases h : n ≤ 200
  · rw [if_pos h, if_pos (show nI n ≤ 200 from nI_le (b := 200) h (by decide))]
  · rw [if_neg h, if_neg (show ¬ nI n ≤ 200 from nI_ge (a := 200) (by omega) (by omega))]
theorem wrun1 {w H : Nat} {σ : Mem} {s : St} (h : WT w σ s) (hB : BD H s) (hH : H < 99999) : f_X4_run w 1 σ = some (wstep w σ) ∧ WT w (wstep w σ) (hr1 s) := ⟨h.run 1 hB (by omega) (by decide), h.step hB hH⟩
theorem FT_wstep (σ : Mem) : FT σ (wstep 32 σ) := fun c hc => wstep_out (by omega)
theorem st_ahead : ST_ahead Inv := by
  intro k σ μ x1 x2 hk hI
  show RS k (f_X5_ahead x1 x2 σ) (f_X6_ahead x1 x2 μ)
  unfold f_X5_ahead f_X6_ahead f_X6_isCell f_X6_behind
  rcases gd x1 11 (M := 11) (U := 11) rfl rfl (by decide) with ⟨c, hc, rfl, a1, a2⟩ | ⟨a1, a2⟩
  · rw [if_pos a1, if_neg a2]
    rcases gd x2 100 (M := 100) (U := 100) rfl rfl (by decide) with ⟨n, hn, rfl, b1, b2⟩ | ⟨b1, b2⟩
    · have hw := tried_WT σ
      rw [hI.row] at hw
      obtain ⟨μ1, m1, m2, m3, m4⟩ := aside μ
      obtain ⟨μ2, g1, g2, g3⟩ := goesOn_open (μ := μ1) n (by rw [m3]; exact hI.bd) (m2.shut hI) (by omega) (by omega)
      obtain ⟨μ3, t1, t2, t3, t4⟩ := (m2.step g3).back (μ2 1 (12 + c))
      rw [if_pos b1, if_neg b2, hw.run n hI.bd (by omega) (by omega), Option.bind_some, chk_nI (by omega) (by decide), m1, Option.bind_some, g1, Option.bind_some, n12, chk_nI (show 12 + c < 74 by omega) (by decide), nI_clamp (show 12 + c < 2 ^ 31 by omega), t1, nI_clamp (show c < 2 ^ 31 by omega)]
      refine ⟨_, _, rfl, rfl, ?_, hI.tr ((FT_tried σ).trans (FT_wsteps _ n)) t2.2 t3⟩
      show wsteps 32 n (f_X5_waterTried σ) 33 c = μ2 1 (12 + c)
      rw [aM_at (μ := μ2) (j := 12 + c) (Or.inl (by omega)), g2, m3]
      exact (hw.steps hI.bd n (by omega)).2.2.2 c (by omega)
    · rw [if_neg b1, if_pos b2]; exact fndB hI
  · rw [if_neg a1, if_pos a2]; exact fndB hI
theorem st_reaches : ST_reaches Inv := by
  intro k σ μ x1 x2 hk hI
  show RS k (f_X5_reaches x1 x2 σ) (f_X6_reaches x1 x2 μ)
  unfold f_X5_reaches f_X6_reaches f_X6_isCell
  rcases gd x1 11 (M := 11) (U := 11) rfl rfl (by decide) with ⟨c, hc, rfl, a1, a2⟩ | ⟨a1, a2⟩
  · rw [if_pos a1, if_neg a2]
    rcases gd x2 9999 (M := 9999) (U := 9999) rfl rfl (by decide) with ⟨v, hv, rfl, b1, b2⟩ | ⟨b1, b2⟩
    · rw [if_pos b1, if_neg b2, n12]
      obtain ⟨μ1, m1, m2, m3, -⟩ := until_eq hI hk (j := 12 + c) (Or.inl (by omega)) (nI v) 0
      rw [m1, Option.bind_some]
      have hle := fst_le (fun i => if (0 : Int32) = 0 then decide (nI v ≤ hrN i (aM μ) (12 + c)) else decide (hrN i (aM μ) (12 + c) ≤ nI v)) 201 0
      have hw := tried_WT σ
      rw [hI.row] at hw
      have key : ∀ n fu i (τ : Mem), i + n = 201 → n < fu → WT 32 τ (hrN i (aM μ)) → FT σ τ → fst (fun i => if (0 : Int32) = 0 then decide (nI v ≤ hrN i (aM μ) (12 + c)) else decide (hrN i (aM μ) (12 + c) ≤ nI v)) n i ≤ 201 → RS k (it2 (f_X5_reaches_B34 (nI c) (nI v)) fu (nI i) τ) ((f_X6_orNone (nI (fst (fun i => if (0 : Int32) = 0 then decide (nI v ≤ hrN i (aM μ) (12 + c)) else decide (hrN i (aM μ) (12 + c) ≤ nI v)) n i)) μ1).bind fun q => some (q.1, q.2)) := by
        intro n
        induction n with
        | zero =>
          intro fu i τ hi hf hW hT _
          match fu, hf with
          | fu + 1, hf =>
            show RS k (f_X5_reaches_B34 (nI c) (nI v) (it2 (f_X5_reaches_B34 (nI c) (nI v)) fu) (nI i) τ) ((f_X6_orNone (nI i) μ1).bind fun q => some (q.1, q.2))
            unfold f_X5_reaches_B34
            rw [if_pos (show (200 : Int32) < nI i from nI_lt (a := 200) (by omega) (by omega)), orNone_eq (by omega), if_neg (by omega), bsome]
            exact fndN (hI.tr0 hT m2.2 m3)
        | succ n ih =>
          intro fu i τ hi hf hW hT hle
          match fu, hf with
          | fu + 1, hf =>
            show RS k (f_X5_reaches_B34 (nI c) (nI v) (it2 (f_X5_reaches_B34 (nI c) (nI v)) fu) (nI i) τ) _
            have hle2 := fst_le (fun i => if (0 : Int32) = 0 then decide (nI v ≤ hrN i (aM μ) (12 + c)) else decide (hrN i (aM μ) (12 + c) ≤ nI v)) n (i + 1)
            replace ih := ih fu (i + 1)
            revert ih
            generalize it2 (f_X5_reaches_B34 (nI c) (nI v)) fu = R
            intro ih
            unfold f_X5_reaches_B34
            have hb : BD (80 * k + i) (hrN i (aM μ)) := hI.bd.hrN i (by omega)
            obtain ⟨r1, r2⟩ := wrun1 hW hb (by omega)
            rw [if_neg (show ¬ (200 : Int32) < nI i by rw [show (200 : Int32) = nI 200 from rfl, nI_ltI (by decide) (by omega)]; omega), chk_nI (show c < 12 by omega) (by decide), nI_clamp (show c < 2 ^ 31 by omega), hW.2.2.2 c (by omega), r1, Option.bind_some, nI_1]
            unfold fst
            rw [if_pos rfl]
            by_cases hv : hrN i (aM μ) (12 + c) < nI v
            · rw [if_pos hv, if_neg (by simp only [decide_eq_true_eq]; exact Int32.not_le.mpr hv)]
              exact ih (wstep 32 τ) (by omega) (by omega) r2 (hT.trans (FT_wstep τ)) (by omega)
            · rw [if_neg hv, if_pos (decide_eq_true (Int32.not_lt.mp hv)), orNone_eq (by omega), if_pos (by omega), Option.bind_some]
              exact ⟨_, _, rfl, rfl, rfl, hI.tr hT m2.2 m3⟩
      exact key 201 FU 0 _ (by decide) (by decide) hw (FT_tried σ) (by omega)
    · rw [if_neg b1, if_pos b2]; exact fndB hI
  · rw [if_neg a1, if_pos a2]; exact fndB hI

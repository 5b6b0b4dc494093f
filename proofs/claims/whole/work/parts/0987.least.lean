/-! ===== pure: range, wantFor, watch ===== -/
def mnF (g : Nat → Nat) (v a : Nat) : Nat → Nat
  | 0 => v
  | n + 1 => min (mnF g v a n) (g (a + n + 1))
def mxF (g : Nat → Nat) (v a : Nat) : Nat → Nat
  | 0 => v
  | n + 1 => max (mxF g v a n) (g (a + n + 1))
theorem mnF_le (g : Nat → Nat) (v a : Nat) : ∀ n, mnF g v a n ≤ v
  | 0 => Nat.le_refl v
  | n + 1 => by
    have := mnF_le g v a n
    unfold mnF
    omega
theorem mxF_le {g : Nat → Nat} {v a M : Nat} (hv : v ≤ M) (hg : ∀ i, g i ≤ M) : ∀ n, mxF g v a n ≤ M
  | 0 => hv
  | n + 1 => by
    have h1 := mxF_le (a := a) hv hg n
    have h2 := hg (a + n + 1)
    unfold mxF
    omega
/-- the level of a cell behind some hours -/
def gL (s : St) (c i : Nat) : Nat := tn (hrN i s (12 + c))
theorem gL_nI {H : Nat} {s : St} (h : BD H s) {c i : Nat} (hc : c < 12) (hi : H + i < 1000000) : hrN i s (12 + c) = nI (gL s c i) ∧ gL s c i ≤ 9999 := by
  have := (h.hrN i hi).2.2.2.2.1 c hc
  exact ⟨this.2, this.1⟩
theorem jmin_nI {a b : Nat} (ha : a < 2 ^ 31) (hb : b < 2 ^ 31) : jmin (nI a) (nI b) = nI (min a b) := by
  unfold jmin
  by_cases h : b < a
  · rw [if_pos (nI_lt h ha), Nat.min_eq_right (by omega)]
  · rw [if_neg (nI_nlt (by omega) hb), Nat.min_eq_left (by omega)]
theorem jmax_nI {a b : Nat} (ha : a < 2 ^ 31) (hb : b < 2 ^ 31) : jmax (nI a) (nI b) = nI (max a b) := by
  unfold jmax
  by_cases h : a < b
  · rw [if_pos (nI_lt h hb), Nat.max_eq_right (by omega)]
  · rw [if_neg (nI_nlt (by omega) ha), Nat.max_eq_left (by omega)]
theorem imin_nI {a b : Nat} (ha : a < 2 ^ 31) (hb : b < 2 ^ 31) : (if nI a ≤ nI b then nI a else nI b) = nI (min a b) := by
  by_cases h : a ≤ b
  · rw [if_pos (nI_le h hb), Nat.min_eq_left h]
  · rw [if_neg (nI_ge (by omega) ha), Nat.min_eq_right (by omega)]
theorem imax_nI {a b : Nat} (ha : a < 2 ^ 31) (hb : b < 2 ^ 31) : (if nI b ≤ nI a then nI a else nI b) = nI (max a b) := by
  by_cases h : b ≤ a
  · rw [if_pos (nI_le h ha), Nat.max_eq_left h]
  · rw [if_neg (nI_ge (by omega) hb), Nat.max_eq_right (by omega)]
theorem leastOf_eq {k : Nat} {σ μ : Mem} (hI : Inv k σ μ) (hk : k < 512) {c a n : Nat} (hc : c < 12) (ha : a ≤ n) (hn : n ≤ 200) : ∃ μ', f_X6_leastOf (nI c) (nI a) (nI n) μ = some (nI (mnF (gL (aM μ) c) (gL (aM μ) c a) a (n - a)), μ') ∧ μ' 0 8 = nI (mxF (gL (aM μ) c) (gL (aM μ) c a) a (n - a)) ∧ FR μ μ' ∧ aM μ' = aM μ := by
  obtain ⟨μ1, m1, m2, m3, m4⟩ := aside μ
  obtain ⟨μ2, g1, g2, g3⟩ := goesOn_open (μ := μ1) a (by rw [m3]; exact hI.bd) (m2.shut hI) (by omega) (by omega)
  rw [m3] at g2
  have lv := fun i (hi : i ≤ 200) => gL_nI hI.bd (c := c) (i := i) hc (by omega)
  have lv2 : ∀ i, gL (aM μ) c i ≤ 9999 ∨ 200 < i := fun i => by
    by_cases h : i ≤ 200
    · exact Or.inl (lv i h).2
    · exact Or.inr (by omega)
  unfold f_X6_leastOf
  rw [m1, Option.bind_some, g1, Option.bind_some, n12, chk_nI (show 12 + c < 74 by omega) (by decide), nI_clamp (show 12 + c < 2 ^ 31 by omega)]
  have e2 : μ2 1 (12 + c) = nI (gL (aM μ) c a) := by
    rw [aM_at (μ := μ2) (j := 12 + c) (Or.inl (by omega)), g2]
    exact (lv a (by omega)).1
  rw [e2]
  have mxb : ∀ i, a + i ≤ 200 → mxF (gL (aM μ) c) (gL (aM μ) c a) a i ≤ 9999 := by
    intro i
    induction i with
    | zero => intro _; exact (lv a (by omega)).2
    | succ i ih =>
      intro hi
      have h1 := ih (by omega)
      have h2 := (lv (a + i + 1) (by omega)).2
      unfold mxF
      omega
  have key : ∀ d fu i (ν : Mem), a + i + d = n → d < fu → AS μ ν → aM ν = hrN (a + i) (aM μ) → ν 0 8 = nI (mxF (gL (aM μ) c) (gL (aM μ) c a) a i) → ∃ μ', it3 (f_X6_leastOf_B29 (nI c) (nI n)) fu (nI (mnF (gL (aM μ) c) (gL (aM μ) c a) a i)) (nI (a + i)) ν = some (nI (mnF (gL (aM μ) c) (gL (aM μ) c a) a (n - a)), μ') ∧ μ' 0 8 = nI (mxF (gL (aM μ) c) (gL (aM μ) c a) a (n - a)) ∧ FR μ μ' ∧ aM μ' = aM μ := by
    intro d
    induction d with
    | zero =>
      intro fu i ν hi hf hA hr h8
      match fu, hf with
      | fu + 1, hf =>
        show ∃ μ', f_X6_leastOf_B29 (nI c) (nI n) (it3 (f_X6_leastOf_B29 (nI c) (nI n)) fu) (nI (mnF (gL (aM μ) c) (gL (aM μ) c a) a i)) (nI (a + i)) ν = _ ∧ _
        unfold f_X6_leastOf_B29
        obtain ⟨ν', b1, b2, b3, b4⟩ := hA.back (nI (mnF (gL (aM μ) c) (gL (aM μ) c a) a i))
        rw [if_pos (nle (by omega) (by omega)), b1, Option.bind_some]
        obtain rfl : i = n - a := by omega
        exact ⟨ν', rfl, by rw [b4 0 (by decide)]; exact h8, b2.2, b3⟩
    | succ d ih =>
      intro fu i ν hi hf hA hr h8
      match fu, hf with
      | fu + 1, hf =>
        show ∃ μ', f_X6_leastOf_B29 (nI c) (nI n) (it3 (f_X6_leastOf_B29 (nI c) (nI n)) fu) (nI (mnF (gL (aM μ) c) (gL (aM μ) c a) a i)) (nI (a + i)) ν = _ ∧ _
        replace ih := ih fu (i + 1)
        revert ih
        generalize it3 (f_X6_leastOf_B29 (nI c) (nI n)) fu = R
        intro ih
        unfold f_X6_leastOf_B29 f_X6_leastOf_J64 f_X6_leastOf_J85
        have hb : BD (80 * k + (a + i)) (aM ν) := by rw [hr]; exact hI.bd.hrN (a + i) (by omega)
        obtain ⟨ν2, g1, g2, -, g4⟩ := hour_open hb (hA.shut hI) (by omega)
        have e3 : ν2 1 (12 + c) = nI (gL (aM μ) c (a + i + 1)) := by
          rw [aM_at (μ := ν2) (j := 12 + c) (Or.inl (by omega)), g2, hr]
          exact (lv (a + i + 1) (by omega)).1
        have q1 := mnF_le (gL (aM μ) c) (gL (aM μ) c a) a i
        have q2 := (lv a (by omega)).2
        have q3 := (lv (a + i + 1) (by omega)).2
        have q4 := mxb i (by omega)
        rw [if_neg (nnle (by omega) (by omega)), g1, Option.bind_some, n12, chk_nI (show 12 + c < 74 by omega) (by decide), nI_clamp (show 12 + c < 2 ^ 31 by omega), e3, g4 0 (by decide) (by decide), h8, imin_nI (by omega) (by omega), imax_nI (by omega) (by omega), nI_1]
        refine ih _ (by omega) (by omega) ?_ ?_ ?_
        · refine ⟨fun j hj => ?_, ?_⟩
          · rw [mst_c (by decide)]; exact (hA.step g4).1 j hj
          · refine (hA.step g4).2.trans ⟨fun x hx => mst_c (by omega), fun x hx => ?_⟩
            rw [mst_ap, if_neg (by omega)]
        · rw [aM_frame (μ := ν2) (mst_c (by decide)), g2, hr]; rfl
        · rw [mst_ap, if_pos ⟨rfl, rfl⟩]; rfl
  refine key (n - a) FU 0 _ (by omega) (show n - a < 1000 by omega) ?_ ?_ ?_
  · refine ⟨fun j hj => ?_, ?_⟩
    · rw [mst_c (by decide)]; exact (m2.step g3).1 j hj
    · refine (m2.step g3).2.trans ⟨fun x hx => mst_c (by omega), fun x hx => ?_⟩
      rw [mst_ap, if_neg (by omega)]
  · rw [aM_frame (μ := μ2) (mst_c (by decide)), g2]; rfl
  · rw [mst_ap, if_pos ⟨rfl, rfl⟩]; rfl
theorem st_range : ST_range Inv := by
  intro k σ μ x1 x2 x3 hk hI
  show RS k (f_X5_range x1 x2 x3 σ) (f_X6_range x1 x2 x3 μ)
  unfold f_X5_range f_X6_range f_X6_isCell
  rcases gd x1 11 (M := 11) (U := 11) rfl rfl (by decide) with ⟨c, hc, rfl, a1, a2⟩ | ⟨a1, a2⟩
  · rw [if_pos a1, if_neg a2]
    rcases gd x2 100 (M := 100) (U := 100) rfl rfl (by decide) with ⟨n, hn, rfl, b1, b2⟩ | ⟨b1, b2⟩
    · rw [if_pos b1, if_neg b2]
      rcases gd x3 1 (M := 1) (U := 1) rfl rfl (by decide) with ⟨v, hv, rfl, c1, c2⟩ | ⟨c1, c2⟩
      · obtain ⟨μ1, l1, l2, l3, l4⟩ := leastOf_eq hI hk (c := c) (a := 0) (n := n) (by omega) (by omega) (by omega)
        rw [if_pos c1, if_neg c2, chk_nI (show c < 12 by omega) (by decide), nI_clamp (show c < 2 ^ 31 by omega), show f_X6_leastOf (nI c) 0 (nI n) μ = _ from l1, Option.bind_some]
        dsimp only
        rw [l2]
        have hw := tried_WT σ
        rw [hI.row] at hw
        have lv := fun i (hi : i ≤ 200) => gL_nI hI.bd (c := c) (i := i) (by omega) (by omega)
        have mxb : ∀ i, 0 + i ≤ 200 → mxF (gL (aM μ) c) (gL (aM μ) c 0) 0 i ≤ 9999 := by
          intro i
          induction i with
          | zero => intro _; exact (lv 0 (by omega)).2
          | succ i ih =>
            intro hi
            have h1 := ih (by omega)
            have h2 := (lv (0 + i + 1) (by omega)).2
            unfold mxF
            omega
        have e0 : f_X5_waterTried σ 33 c = nI (gL (aM μ) c 0) := by
          rw [hw.2.2.2 c (by omega)]
          exact (lv 0 (by omega)).1
        have key : ∀ d fu i (τ : Mem), i + d = n → d < fu → WT 32 τ (hrN i (aM μ)) → FT σ τ → RS k (it4 (f_X5_range_B55 (nI c) (nI n) (nI v)) fu (nI (mnF (gL (aM μ) c) (gL (aM μ) c 0) 0 i)) (nI (mxF (gL (aM μ) c) (gL (aM μ) c 0) 0 i)) (nI (i + 1)) τ) (if nI v = 0 then some (nI (mnF (gL (aM μ) c) (gL (aM μ) c 0) 0 (n - 0)), μ1) else some (nI (mxF (gL (aM μ) c) (gL (aM μ) c 0) 0 (n - 0)), μ1)) := by
          intro d
          induction d with
          | zero =>
            intro fu i τ hi hf hW hT
            match fu, hf with
            | fu + 1, hf =>
              show RS k (f_X5_range_B55 (nI c) (nI n) (nI v) (it4 (f_X5_range_B55 (nI c) (nI n) (nI v)) fu) (nI (mnF (gL (aM μ) c) (gL (aM μ) c 0) 0 i)) (nI (mxF (gL (aM μ) c) (gL (aM μ) c 0) 0 i)) (nI (i + 1)) τ) _
              unfold f_X5_range_B55
              obtain rfl : i = n := by omega
              rw [if_pos (nI_lt (by omega) (by omega)), Nat.sub_zero]
              by_cases h0 : nI v = 0
              · rw [if_pos h0, if_pos h0]; exact ⟨_, _, rfl, rfl, rfl, hI.tr hT l3 l4⟩
              · rw [if_neg h0, if_neg h0]; exact ⟨_, _, rfl, rfl, rfl, hI.tr hT l3 l4⟩
          | succ d ih =>
            intro fu i τ hi hf hW hT
            match fu, hf with
            | fu + 1, hf =>
              show RS k (f_X5_range_B55 (nI c) (nI n) (nI v) (it4 (f_X5_range_B55 (nI c) (nI n) (nI v)) fu) (nI (mnF (gL (aM μ) c) (gL (aM μ) c 0) 0 i)) (nI (mxF (gL (aM μ) c) (gL (aM μ) c 0) 0 i)) (nI (i + 1)) τ) _
              replace ih := ih fu (i + 1)
              revert ih
              generalize it4 (f_X5_range_B55 (nI c) (nI n) (nI v)) fu = R
              intro ih
              unfold f_X5_range_B55
              have hb : BD (80 * k + i) (hrN i (aM μ)) := hI.bd.hrN i (by omega)
              obtain ⟨r1, r2⟩ := wrun1 hW hb (by omega)
              have e3 : wstep 32 τ 33 c = nI (gL (aM μ) c (0 + i + 1)) := by
                rw [r2.2.2.2 c (by omega), show 0 + i + 1 = i + 1 by omega]
                exact (lv (i + 1) (by omega)).1
              have q1 := mnF_le (gL (aM μ) c) (gL (aM μ) c 0) 0 i
              have q2 := (lv 0 (by omega)).2
              have q3 := (lv (0 + i + 1) (by omega)).2
              have q4 := mxb i (by omega)
              rw [if_neg (nI_nlt (by omega) (by omega)), r1, Option.bind_some, chk_nI (show c < 12 by omega) (by decide), chk_nI (show c < 12 by omega) (by decide), nI_clamp (show c < 2 ^ 31 by omega), e3, jmin_nI (by omega) (by omega), jmax_nI (by omega) (by omega), nI_1]
              exact ih _ (by omega) (by omega) r2 (hT.trans (FT_wstep τ))
        rw [e0]
        exact key n FU 0 _ (by omega) (show n < 1000 by omega) hw (FT_tried σ)
      · rw [if_neg c1, if_pos c2]; exact fndB hI
    · rw [if_neg b1, if_pos b2]; exact fndB hI
  · rw [if_neg a1, if_pos a2]; exact fndB hI
theorem mnF_split (g : Nat → Nat) (v : Nat) : ∀ n, mnF g v 0 (n + 1) = min (mnF g (g 1) 1 n) v
  | 0 => by
    show min v (g (0 + 0 + 1)) = min (g 1) v
    rw [Nat.min_comm]
  | n + 1 => by
    have h := mnF_split g v n
    have e1 : mnF g v 0 (n + 1 + 1) = min (mnF g v 0 (n + 1)) (g (0 + (n + 1) + 1)) := rfl
    have e2 : mnF g (g 1) 1 (n + 1) = min (mnF g (g 1) 1 n) (g (1 + n + 1)) := rfl
    rw [e1, e2, h, show 0 + (n + 1) + 1 = 1 + n + 1 by omega]
    omega
theorem gT {k : Nat} {σ μ : Mem} (hI : Inv k σ μ) (x1 x2 : Int32) : (∃ w n, w < tn (μ 1 1) ∧ n ≤ 60 ∧ x1 = nI w ∧ x2 = nI n ∧ f_X5_noTrial x1 x2 σ = 0 ∧ ¬ f_X6_isWatcher x1 μ = 0 ∧ ¬ f_X6_isSoon x2 = 0) ∨ (¬ f_X5_noTrial x1 x2 σ = 0 ∧ (f_X6_isWatcher x1 μ = 0 ∨ f_X6_isSoon x2 = 0)) := by
  unfold f_X5_noTrial f_X6_isSoon
  rcases gw hI x1 with ⟨w, hw, e, a1, a2⟩ | ⟨a1, a2⟩
  · rcases gd x2 60 (M := 60) (U := 60) rfl rfl (by decide) with ⟨n, hn, e2, b1, b2⟩ | ⟨b1, b2⟩
    · exact Or.inl ⟨w, n, hw, hn, e, e2, by rw [if_pos a1, if_pos b1], a2, b2⟩
    · exact Or.inr ⟨by rw [if_pos a1, if_neg b1]; decide, Or.inr b2⟩
  · exact Or.inr ⟨by rw [if_neg a1]; decide, Or.inl a2⟩
theorem st_wantFor : ST_wantFor Inv := by
  intro k σ μ x1 x2 hk hI
  show RS k (f_X5_wantFor x1 x2 σ) (f_X6_wantFor x1 x2 μ)
  unfold f_X5_wantFor f_X6_wantFor
  rcases gT hI x1 x2 with ⟨w, n, hw, hn, rfl, rfl, a1, a2, a3⟩ | ⟨a1, a2⟩
  · have hm := hI.m1.2.1
    have w1 := hI.ww hw (f := 1) (by decide)
    have w4 := hI.ww hw (f := 4) (by decide)
    rw [show 24 + 5 * w + 1 = 25 + 5 * w by omega] at w1
    rw [show 24 + 5 * w + 4 = 28 + 5 * w by omega] at w4
    have hcb := (hI.bd.2.2.2.2.2.1 w (by rw [aM_lo μ (by decide)]; exact hw)).1
    rw [(aM_wf hI.bd hw).2.1] at hcb
    rw [if_pos a1, if_neg a2, if_neg a3, chk_nI (show w < 8 by omega) (by decide), nI_clamp (show w < 2 ^ 31 by omega), w4, its4 (show w < 8 by omega), Option.bind_some, its1 (show w < 8 by omega), Option.bind_some]
    unfold f_X6_wantFor_J38
    have e999 : f_X6_wantFor_J56 999 μ = some (999, μ) := by
      unfold f_X6_wantFor_J56
      rw [if_pos (Int32.le_refl _)]
    rw [e999]
    by_cases h9 : μ 1 (28 + 5 * w) = 9999
    · rw [if_pos h9, if_pos h9, ite_self]
      exact ⟨_, _, rfl, rfl, rfl, hI.same⟩
    · rw [if_neg h9, if_neg h9]
      obtain ⟨c, hc, ec⟩ : ∃ c, c < 12 ∧ μ 1 (25 + 5 * w) = nI c := ⟨tn (μ 1 (25 + 5 * w)), by have := hcb.1; omega, hcb.2⟩
      have lv := fun i (hi : i ≤ 200) => gL_nI hI.bd (c := c) (i := i) hc (by omega)
      have hwt := tried_WT σ
      rw [hI.row] at hwt
      have key : ∀ d fu i (τ : Mem), i + d = n → d < fu → WT 32 τ (hrN i (aM μ)) → FT σ τ → ∃ τ', it3 (f_X5_wantFor_B54 (nI w) (nI n)) fu (nI (mnF (gL (aM μ) c) 999 0 i)) (nI (i + 1)) τ = some (nI (mnF (gL (aM μ) c) 999 0 n), τ') ∧ FT σ τ' := by
        intro d
        induction d with
        | zero =>
          intro fu i τ hi hf hW hT
          match fu, hf with
          | fu + 1, hf =>
            show ∃ τ', f_X5_wantFor_B54 (nI w) (nI n) (it3 (f_X5_wantFor_B54 (nI w) (nI n)) fu) (nI (mnF (gL (aM μ) c) 999 0 i)) (nI (i + 1)) τ = _ ∧ _
            unfold f_X5_wantFor_B54
            obtain rfl : i = n := by omega
            rw [if_pos (nI_lt (by omega) (by omega))]
            exact ⟨τ, rfl, hT⟩
        | succ d ih =>
          intro fu i τ hi hf hW hT
          match fu, hf with
          | fu + 1, hf =>
            show ∃ τ', f_X5_wantFor_B54 (nI w) (nI n) (it3 (f_X5_wantFor_B54 (nI w) (nI n)) fu) (nI (mnF (gL (aM μ) c) 999 0 i)) (nI (i + 1)) τ = _ ∧ _
            replace ih := ih fu (i + 1)
            revert ih
            generalize it3 (f_X5_wantFor_B54 (nI w) (nI n)) fu = R
            intro ih
            unfold f_X5_wantFor_B54
            have hb : BD (80 * k + i) (hrN i (aM μ)) := hI.bd.hrN i (by omega)
            obtain ⟨r1, r2⟩ := wrun1 hW hb (by omega)
            have e3 : wstep 32 τ 33 c = nI (gL (aM μ) c (0 + i + 1)) := by
              rw [r2.2.2.2 c (by omega), show 0 + i + 1 = i + 1 by omega]
              exact (lv (i + 1) (by omega)).1
            have q1 := mnF_le (gL (aM μ) c) 999 0 i
            have q3 := (lv (0 + i + 1) (by omega)).2
            have ew : wstep 32 τ (8 + w) 1 = nI c := by
              rw [(hT.trans (FT_wstep τ)) (8 + w) (by omega), w1, ec]
            rw [if_neg (nI_nlt (by omega) (by omega)), r1, Option.bind_some, nI_clamp (show w < 2 ^ 31 by omega), ew, chk_nI hc (by decide), nI_clamp (show c < 2 ^ 31 by omega), e3, jmin_nI (by omega) (by omega), nI_1]
            exact ih _ (by omega) (by omega) r2 (hT.trans (FT_wstep τ))
      obtain ⟨τ', t1, t2⟩ := key n FU 0 _ (by omega) (show n < 1000 by omega) hwt (FT_tried σ)
      rw [show it3 (f_X5_wantFor_B54 (nI w) (nI n)) FU 999 1 (f_X5_waterTried σ) = _ from t1]
      by_cases h0 : n = 0
      · subst h0
        rw [if_pos nI_0]
        exact ⟨_, _, rfl, rfl, rfl, hI.tr t2 (FR.rfl' μ) rfl⟩
      · obtain ⟨μ1, l1, l2, l3, l4⟩ := leastOf_eq hI hk (c := c) (a := 1) (n := n) hc (by omega) (by omega)
        rw [if_neg (nI_ne0 (by omega) (by omega)), ec, show f_X6_leastOf (nI c) 1 (nI n) μ = _ from l1, Option.bind_some]
        unfold f_X6_wantFor_J56
        have q1 := mnF_le (gL (aM μ) c) (gL (aM μ) c 1) 1 (n - 1)
        have q2 := (lv 1 (by omega)).2
        have es := mnF_split (gL (aM μ) c) 999 (n - 1)
        rw [show n - 1 + 1 = n by omega] at es
        rw [es]
        by_cases hle : mnF (gL (aM μ) c) (gL (aM μ) c 1) 1 (n - 1) ≤ 999
        · rw [if_pos (show nI (mnF (gL (aM μ) c) (gL (aM μ) c 1) 1 (n - 1)) ≤ 999 from nI_le (b := 999) hle (by decide)), Nat.min_eq_left hle]
          exact ⟨_, _, rfl, rfl, rfl, hI.tr t2 l3 l4⟩
        · rw [if_neg (show ¬ nI (mnF (gL (aM μ) c) (gL (aM μ) c 1) 1 (n - 1)) ≤ 999 from nI_ge (a := 999) (by omega) (by omega)), Nat.min_eq_right (by omega)]
          exact ⟨_, _, rfl, rfl, rfl, hI.tr t2 l3 l4⟩
  · rw [if_neg a1]
    by_cases h1 : f_X6_isWatcher x1 μ = 0
    · rw [if_pos h1]; exact fndB hI
    · rw [if_neg h1, if_pos (a2.resolve_left h1)]; exact fndB hI

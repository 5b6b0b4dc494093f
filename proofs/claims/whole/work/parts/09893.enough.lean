/-! ===== pure: more let in never leaves less; enough ===== -/
theorem hrN_p (s : St) {h : Nat} (hh : h < 8) : ∀ n, hrN n s (4 + h) = s (4 + h)
  | 0 => rfl
  | n + 1 => by
    have : hrN (n + 1) s (4 + h) = hrN n s (4 + h) := by
      show hrA (hrN n s (4 + tn (hrN n s 0) % 8)) (hrN n s) (4 + h) = _
      rw [hrA_lo (by omega), flA_out (by omega) (by omega) (by omega)]
    rw [this, hrN_p s hh n]
theorem hrN_w {s : St} (hm : tn (s 1) ≤ 8) {w f : Nat} (hw : w < tn (s 1)) (hf : f < 3) : ∀ n, hrN n s (24 + 5 * w + f) = s (24 + 5 * w + f)
  | 0 => rfl
  | n + 1 => by
    have : hrN (n + 1) s (24 + 5 * w + f) = hrN n s (24 + 5 * w + f) := by
      show hrA (hrN n s (4 + tn (hrN n s 0) % 8)) (hrN n s) (24 + 5 * w + f) = _
      rw [hrA_w (by rw [hrN_1]; exact hw) (by rw [hrN_1]; exact hm) (by omega), if_neg (by omega), if_neg (by omega)]
    rw [this, hrN_w hm hw hf n]
theorem gL_step {H : Nat} {s : St} (h : BD H s) {v c i : Nat} (hv : v ≤ 99) (hc : c < 12) (hi : H + i < 900000) : gL (opA (nI v) s) c (i + 1) = min (gL (opA (nI v) s) c i - gL (opA (nI v) s) c i / 2 + (if c = 0 then v else gL (opA (nI v) s) (c - 1) i / 2)) 9999 := by
  have hb : BD (H + i) (hrN i (opA (nI v) s)) := (h.op (Bn_nI hv (by omega))).hrN i (by omega)
  have e : hrN (i + 1) (opA (nI v) s) (12 + c) = lvW (nI v) (fun k => hrN i (opA (nI v) s) (12 + k)) c := by
    show hrA (hrN i (opA (nI v) s) (4 + tn (hrN i (opA (nI v) s) 0) % 8)) (hrN i (opA (nI v) s)) (12 + c) = _
    rw [hrA_lo (by omega), flA_l hc, hrN_p _ (Nat.mod_lt _ (by decide))]
    have : opA (nI v) s (4 + tn (hrN i (opA (nI v) s) 0) % 8) = nI v := if_pos (by omega)
    rw [this]
  unfold gL
  rw [e, lvW_nI (Bn_nI hv (by omega)) hb.2.2.2.2.1 hc, tn_nI (by omega), tn_nI (by omega)]
theorem gL_mono {H : Nat} {s : St} (h : BD H s) {v u : Nat} (hvu : v ≤ u) (hu : u ≤ 99) : ∀ i, H + i < 900000 → ∀ c, c < 12 → gL (opA (nI v) s) c i ≤ gL (opA (nI u) s) c i
  | 0, _, c, hc => by
    have e : ∀ v : Nat, gL (opA (nI v) s) c 0 = tn (s (12 + c)) := fun v => by
      show tn (opA (nI v) s (12 + c)) = _
      unfold opA
      rw [if_neg (by omega)]
    rw [e, e]
    exact Nat.le_refl _
  | i + 1, hi, c, hc => by
    have h1 := gL_mono h hvu hu i (by omega) c hc
    rw [gL_step h (by omega) hc (by omega), gL_step h hu hc (by omega)]
    by_cases h0 : c = 0
    · rw [if_pos h0, if_pos h0]; omega
    · rw [if_neg h0, if_neg h0]
      have h2 := gL_mono h hvu hu i (by omega) (c - 1) (by omega)
      omega
theorem setA_0 {P : Nat → Bool} : ∀ n, (∀ i, i < n → P i = false) → setA P n = 0
  | 0, _ => rfl
  | n + 1, h => by
    show (if P n = true then setA P n ||| (1 <<< (nI n &&& 31)) else setA P n) = 0
    rw [if_neg (by rw [h n (by omega)]; decide), setA_0 n (fun i hi => h i (by omega))]
/-- an opening is enough -/
def enB (s : St) (n v : Nat) : Bool := decide (wtA (hrN n (opA (nI v) s)) = 0)
theorem enB_iff {H : Nat} {s : St} (h : BD H s) {n v : Nat} (hv : v ≤ 99) (hn : H + n < 900000) : enB s n v = true ↔ ∀ w, w < tn (s 1) → s (26 + 5 * w) ≤ nI (gL (opA (nI v) s) (tn (s (25 + 5 * w))) n) := by
  have hb0 := h.op (Bn_nI (j := v) hv (by omega))
  have hb : BD (H + n) (hrN n (opA (nI v) s)) := hb0.hrN n (by omega)
  have hm := h.2.1.1
  have e1 : hrN n (opA (nI v) s) 1 = s 1 := by rw [hrN_1]; rfl
  have ew : ∀ w, w < tn (s 1) → wtB (hrN n (opA (nI v) s)) w = decide (¬ s (26 + 5 * w) ≤ nI (gL (opA (nI v) s) (tn (s (25 + 5 * w))) n)) := by
    intro w hw
    have o : ∀ i, 24 ≤ i → opA (nI v) s i = s i := fun i hi => if_neg (by omega)
    have f1 := hrN_w (s := opA (nI v) s) hm hw (f := 1) (by decide) n
    have f2 := hrN_w (s := opA (nI v) s) hm hw (f := 2) (by decide) n
    rw [o _ (by omega), show 24 + 5 * w + 1 = 25 + 5 * w by omega] at f1
    rw [o _ (by omega), show 24 + 5 * w + 2 = 26 + 5 * w by omega] at f2
    unfold wtB
    have hc := (h.2.2.2.2.2.1 w hw).1
    rw [f1, f2, (gL_nI hb0 (c := tn (s (25 + 5 * w))) (i := n) (by have := hc.1; omega) (by omega)).1]
  unfold enB
  rw [decide_eq_true_eq]
  unfold wtA
  rw [e1]
  constructor
  · intro h0 w hw
    have := (setA_low hm).1 h0 w hw
    rw [ew w hw, decide_eq_false_iff_not] at this
    exact Decidable.not_not.mp this
  · intro hall
    refine setA_0 _ (fun w hw => ?_)
    rw [ew w hw, decide_eq_false_iff_not]
    exact fun q => q (hall w hw)
theorem enB_mono {H : Nat} {s : St} (h : BD H s) {n v u : Nat} (hvu : v ≤ u) (hu : u ≤ 99) (hn : H + n < 900000) (he : enB s n v = true) : enB s n u = true := by
  rw [enB_iff h (by omega) hn] at he
  rw [enB_iff h hu hn]
  intro w hw
  have hc := (h.2.2.2.2.2.1 w hw).1
  have h1 := gL_mono h hvu hu n hn (tn (s (25 + 5 * w))) (by have := hc.1; omega)
  have h2 := (gL_nI (h.op (Bn_nI (j := u) hu (by omega))) (c := tn (s (25 + 5 * w))) (i := n) (by have := hc.1; omega) (by omega)).2
  exact Int32.le_trans (he w hw) (nI_le h1 (by omega))
theorem lacking_raw {b m : Nat} {σ : Mem} (hm : σ b 3 = nI m) (h8 : m ≤ 8) (hc : ∀ w, w < m → Bn (σ (b + 7 + w) 1) 11) : f_X2_lacking b σ = some (setA (fun w => decide (¬ σ (b + 7 + w) 2 ≤ σ (b + 2) (tn (σ (b + 7 + w) 1)))) m) := by
  unfold f_X2_lacking
  refine it2_for' m (fun i => setA (fun w => decide (¬ σ (b + 7 + w) 2 ≤ σ (b + 2) (tn (σ (b + 7 + w) 1)))) i) rfl (by omega) (fun rec i hi => ?_) (fun rec => ?_)
  · unfold f_X2_lacking_B4 f_X2_lacking_J47 f_X3_lacks
    rw [hm, if_neg (nnle hi (by omega)), chk_nI (show i < 8 by omega) (by decide), chk_nI (show i < 8 by omega) (by decide), nI_clamp (show i < 2 ^ 31 by omega), (hc i hi).chk (by decide) (by decide)]
    congr 1
    · show _ = if decide (¬ σ (b + 7 + i) 2 ≤ σ (b + 2) (tn (σ (b + 7 + i) 1))) = true then _ else _
      by_cases h0 : σ (b + 7 + i) 2 ≤ σ (b + 2) (tn (σ (b + 7 + i) 1))
      · simp [h0]
      · simp [h0]
    · exact nI_1 i
  · unfold f_X2_lacking_B4
    rw [hm, if_pos (nle (Nat.le_refl m) (by omega))]
theorem isEnough_eq {k : Nat} {σ μ τ : Mem} (hI : Inv k σ μ) (hk : k < 512) (hT : FT σ τ) {v n : Nat} (hv : v ≤ 99) (hn : n ≤ 80) : ∃ τ', f_X5_isEnough (nI v) (nI n) τ = some ((if enB (aM μ) n v = true then 1 else 0), τ') ∧ FT σ τ' := by
  obtain ⟨τ1, t1, t2, t3, -⟩ := trial hI hT
  unfold f_X5_isEnough
  have hb := hI.bd.op (Bn_nI (j := v) hv (by omega))
  have hW : WT 32 (wopen 32 (nI v) τ1) (opA (nI v) (aM μ)) := by
    have := WT_aC 31 (wopen (31 + 1) (nI v) τ1)
    rw [aC_open, t2] at this
    exact this
  have hr : aC 31 (wopen 32 (nI v) τ1) = opA (nI v) (aM μ) := by
    have := aC_open 31 (nI v) τ1
    rw [t2] at this
    exact this
  have hWn := hW.steps hb n (by omega)
  have ft2 : FT τ1 (wopen 32 (nI v) τ1) := fun c hc => by
    funext i
    unfold wopen
    rw [if_neg (by omega)]
  have hm : tn (aM μ 1) ≤ 8 := hI.bd.2.1.1
  have ev : ∀ w f, w < tn (aM μ 1) → f < 5 → wsteps 32 n (wopen 32 (nI v) τ1) (31 + 7 + w) f = aM μ (24 + 5 * w + f) := by
    intro w f hw hf
    rw [wsteps_out (by omega)]
    have e1 : aC 31 (wopen 32 (nI v) τ1) 1 = aM μ 1 := by rw [hr]; rfl
    rw [aC_at (b := 31) (τ := wopen 32 (nI v) τ1) (w := w) (by rw [e1]; exact hw) (by rw [e1]; exact hm) hf, hr]
    unfold opA
    rw [if_neg (by omega)]
  have e3 : wsteps 32 n (wopen 32 (nI v) τ1) 31 3 = nI (tn (aM μ 1)) := by
    rw [wsteps_out (by omega)]
    have : aC 31 (wopen 32 (nI v) τ1) 1 = aM μ 1 := by rw [hr]; rfl
    rw [aC_1] at this
    rw [this]
    exact hI.bd.2.1.2
  have hl := lacking_raw (b := 31) e3 hm (fun w hw => by
    have := (hI.bd.2.2.2.2.2.1 w hw).1
    rw [ev w 1 hw (by decide), show 24 + 5 * w + 1 = 25 + 5 * w by omega]
    exact this)
  rw [t1, Option.bind_some, openAll_eq, Option.bind_some, hW.run n hb (by omega) (by omega), Option.bind_some, hl, Option.bind_some]
  have es : setA (fun w => decide (¬ wsteps 32 n (wopen 32 (nI v) τ1) (31 + 7 + w) 2 ≤ wsteps 32 n (wopen 32 (nI v) τ1) (31 + 2) (tn (wsteps 32 n (wopen 32 (nI v) τ1) (31 + 7 + w) 1)))) (tn (aM μ 1)) = wtA (hrN n (opA (nI v) (aM μ))) := by
    unfold wtA
    rw [show hrN n (opA (nI v) (aM μ)) 1 = aM μ 1 from by rw [hrN_1]; rfl]
    refine setA_congr _ (fun w hw => ?_)
    have o : ∀ i, 24 ≤ i → opA (nI v) (aM μ) i = aM μ i := fun i hi => if_neg (by omega)
    have f1 := hrN_w (s := opA (nI v) (aM μ)) hm hw (f := 1) (by decide) n
    have f2 := hrN_w (s := opA (nI v) (aM μ)) hm hw (f := 2) (by decide) n
    rw [o _ (by omega), show 24 + 5 * w + 1 = 25 + 5 * w by omega] at f1
    rw [o _ (by omega), show 24 + 5 * w + 2 = 26 + 5 * w by omega] at f2
    have hc := (hI.bd.2.2.2.2.2.1 w hw).1
    unfold wtB
    rw [ev w 1 hw (by decide), ev w 2 hw (by decide), show 24 + 5 * w + 1 = 25 + 5 * w by omega, show 24 + 5 * w + 2 = 26 + 5 * w by omega, f1, f2, ← hWn.2.2.2 (tn (aM μ (25 + 5 * w))) (by have := hc.1; omega)]
  rw [es]
  unfold enB
  by_cases h0 : wtA (hrN n (opA (nI v) (aM μ))) = 0
  · rw [if_pos h0, if_pos (decide_eq_true h0)]
    exact ⟨_, rfl, (t3.trans ft2).trans (FT_wsteps _ n)⟩
  · rw [if_neg h0, if_neg (by simp only [decide_eq_true_eq]; exact h0)]
    exact ⟨_, rfl, (t3.trans ft2).trans (FT_wsteps _ n)⟩
def stp : Nat → Nat
  | 0 => 0
  | j + 1 => 2 ^ j
theorem stp_half : ∀ j, stp (j + 1) / 2 = stp j
  | 0 => rfl
  | j + 1 => by
    show 2 ^ (j + 1) / 2 = 2 ^ j
    rw [Nat.pow_succ, Nat.mul_div_cancel _ (by decide)]
theorem st_enough : ST_enough Inv := by
  intro k σ μ x1 hk hI
  show RS k (f_X5_enough x1 σ) (f_X6_enough x1 μ)
  unfold f_X5_enough f_X6_enough
  rcases gd x1 80 (M := 80) (U := 80) rfl rfl (by decide) with ⟨n, hn, rfl, a1, a2⟩ | ⟨a1, a2⟩
  · obtain ⟨μ1, m1, m2, m3, -⟩ := aside μ
    rw [if_pos a1, if_neg a2, m1, Option.bind_some]
    have hT100 := fst_le (enB (aM μ) n) 100 0
    -- below it is too little, from it on it is enough
    have lo : ∀ v, v < fst (enB (aM μ) n) 100 0 → enB (aM μ) n v = false := fun v hv => fst_no 100 0 v (by omega) hv
    have hi : ∀ v, fst (enB (aM μ) n) 100 0 ≤ v → v ≤ 99 → enB (aM μ) n v = true := fun v h1 h2 => enB_mono hI.bd h1 h2 (by omega) (fst_yes 100 0 (by omega))
    generalize hTT : fst (enB (aM μ) n) 100 0 = T at hT100 lo hi
    -- the reference
    have mdl : ∀ d fu v (ν : Mem), v + d = 100 → d + 1 < fu → AS μ ν → aM ν = aM μ → v ≤ T → ∃ ν', FR μ ν' ∧ aM ν' = aM μ ∧ it3 (f_X6_enough_B27 (nI n)) fu (-1) (nI v) ν = (if T ≤ 99 then some (nI T, ν') else ((f_X6_finds (-1000004) ν').bind fun q => some (q.1, q.2))) := by
      intro d
      induction d with
      | zero =>
        intro fu v ν hd hf hA hr hv
        match fu, hf with
        | fu + 1, hf =>
          refine ⟨ν, hA.2, hr, ?_⟩
          show f_X6_enough_B27 (nI n) (it3 (f_X6_enough_B27 (nI n)) fu) (-1) (nI v) ν = _
          unfold f_X6_enough_B27 f_X6_enough_J70
          rw [if_pos (show (99 : Int32) < nI v from nI_lt (a := 99) (by omega) (by omega)), if_neg (by decide), if_neg (by omega)]
      | succ d ih =>
        intro fu v ν hd hf hA hr hv
        match fu, hf with
        | fu + 1, hf =>
          have ex : it3 (f_X6_enough_B27 (nI n)) (fu + 1) (-1) (nI v) ν = f_X6_enough_B27 (nI n) (it3 (f_X6_enough_B27 (nI n)) fu) (-1) (nI v) ν := rfl
          rw [ex]
          replace ih := ih fu (v + 1)
          have e3 : ∀ ν' : Mem, it3 (f_X6_enough_B27 (nI n)) fu (nI v) (nI (v + 1)) ν' = some (nI v, ν') := by
            intro ν'
            obtain ⟨g', rfl⟩ : ∃ g', fu = g' + 1 := ⟨fu - 1, by omega⟩
            show f_X6_enough_B27 (nI n) (it3 (f_X6_enough_B27 (nI n)) g') (nI v) (nI (v + 1)) ν' = _
            unfold f_X6_enough_B27 f_X6_enough_J70
            rw [if_pos (nI_pos' (show v < 2 ^ 31 by omega)), if_pos (nI_pos' (show v < 2 ^ 31 by omega)), ite_self]
          revert ih e3
          generalize it3 (f_X6_enough_B27 (nI n)) fu = R
          intro ih e3
          unfold f_X6_enough_B27 f_X6_enough_J60
          obtain ⟨ν1, o1, o2, o3⟩ := mopens_spec (nI v) ν
          rw [hr] at o2
          have hb := hI.bd.op (Bn_nI (j := v) (show v ≤ 99 by omega) (by omega))
          have hA1 : AS μ ν1 := hA.step (fun c c1 _ => o3 c c1)
          obtain ⟨ν2, g1, g2, g3⟩ := goesOn_open (μ := ν1) n (by rw [o2]; exact hb) (hA1.shut hI) (by omega) (by omega)
          rw [o2] at g2
          have hbn : BD (80 * k + n) (hrN n (opA (nI v) (aM μ))) := hb.hrN n (by omega)
          rw [if_neg (show ¬ (99 : Int32) < nI v by rw [show (99 : Int32) = nI 99 from rfl, nI_ltI (by decide) (by omega)]; omega), if_neg (by decide), o1, Option.bind_some, g1, Option.bind_some, mwanting_eq (H := 80 * k + n) (by rw [g2]; exact hbn), Option.bind_some, g2, nI_1]
          by_cases hv2 : v = T
          · have he : wtA (hrN n (opA (nI v) (aM μ))) = 0 := by
              have := hi v (by omega) (by omega)
              unfold enB at this
              exact of_decide_eq_true this
            obtain ⟨ν3, u1, u2, u3, u4⟩ := (hA1.step g3).back (nI v)
            rw [if_pos he, u1, Option.bind_some]
            dsimp only
            refine ⟨ν3, u2.2, u3, ?_⟩
            rw [e3 ν3, if_pos (by omega), hv2]
          · have he : ¬ wtA (hrN n (opA (nI v) (aM μ))) = 0 := by
              have := lo v (by omega)
              unfold enB at this
              exact of_decide_eq_false this
            obtain ⟨ν3, u1, u2, u3, u4⟩ := (hA1.step g3).back (-1)
            rw [if_neg he, u1, Option.bind_some]
            exact ih ν3 (by omega) (by omega) u2 u3 (by omega)
    -- the class
    have cls : ∀ j fu t (τ : Mem), j ≤ 7 → j < fu → FT σ τ → t ≤ T → T < t + 2 ^ j → ∃ τ', FT σ τ' ∧ it3 (f_X5_enough_B21 (nI n)) fu (nI t) (nI (stp j)) τ = (if T ≤ 99 then some (nI T, τ') else ((f_X5_finding (-1000004) τ').bind fun q => some (q.1, q.2))) := by
      intro j
      induction j with
      | zero =>
        intro fu t τ hj hf hT h1 h2
        match fu, hf with
        | fu + 1, hf =>
          refine ⟨τ, hT, ?_⟩
          show f_X5_enough_B21 (nI n) (it3 (f_X5_enough_B21 (nI n)) fu) (nI t) 0 τ = _
          unfold f_X5_enough_B21
          obtain rfl : t = T := by omega
          rw [if_pos (Int32.le_refl _)]
          by_cases h : t ≤ 99
          · rw [if_pos h, if_pos (show nI t ≤ 99 from nI_le (b := 99) h (by decide))]
          · rw [if_neg h, if_neg (show ¬ nI t ≤ 99 from nI_ge (a := 99) (by omega) (by omega))]
      | succ j ih =>
        intro fu t τ hj hf hT h1 h2
        match fu, hf with
        | fu + 1, hf =>
          have ex : it3 (f_X5_enough_B21 (nI n)) (fu + 1) (nI t) (nI (stp (j + 1))) τ = f_X5_enough_B21 (nI n) (it3 (f_X5_enough_B21 (nI n)) fu) (nI t) (nI (stp (j + 1))) τ := rfl
          rw [ex]
          replace ih := ih fu
          revert ih
          generalize it3 (f_X5_enough_B21 (nI n)) fu = R
          intro ih
          unfold f_X5_enough_B21 f_X5_enough_J54
          have hs : 1 ≤ stp (j + 1) ∧ stp (j + 1) ≤ 64 := by
            show 1 ≤ 2 ^ j ∧ 2 ^ j ≤ 64
            rcases (show j = 0 ∨ j = 1 ∨ j = 2 ∨ j = 3 ∨ j = 4 ∨ j = 5 ∨ j = 6 by omega) with rfl | rfl | rfl | rfl | rfl | rfl | rfl <;> decide
          have hst : stp (j + 1) = 2 ^ j := rfl
          rw [Nat.pow_succ, ← hst] at h2
          have eh : nI (stp (j + 1)) / 2 = nI (stp j) := by rw [half_nI (by omega), stp_half]
          have e1 : nI t + nI (stp (j + 1)) = nI (t + stp (j + 1)) := nI_add _ _
          have e2 : nI (t + stp (j + 1)) - 1 = nI (t + stp (j + 1) - 1) := pk_sub (a := t + stp (j + 1)) (b := 1) (by omega)
          rw [if_neg (nI_nle (by omega) (by omega)), eh, e1, e2]
          by_cases h99 : t + stp (j + 1) - 1 ≤ 99
          · obtain ⟨τ1, q1, q2⟩ := isEnough_eq hI hk hT (v := t + stp (j + 1) - 1) (n := n) h99 hn
            rw [if_neg (show ¬ (99 : Int32) < nI (t + stp (j + 1) - 1) by rw [show (99 : Int32) = nI 99 from rfl, nI_ltI (by decide) (by omega)]; omega), q1, Option.bind_some]
            dsimp only
            by_cases hT2 : t + stp (j + 1) ≤ T
            · rw [lo (t + stp (j + 1) - 1) (by omega), if_neg (show ¬ false = true by decide), if_pos rfl]
              exact ih _ τ1 (by omega) (by omega) q2 hT2 (by omega)
            · rw [hi (t + stp (j + 1) - 1) (by omega) h99, if_pos (show true = true from rfl), if_neg (by decide)]
              exact ih _ τ1 (by omega) (by omega) q2 h1 (by omega)
          · rw [if_pos (show (99 : Int32) < nI (t + stp (j + 1) - 1) from nI_lt (a := 99) (by omega) (by omega))]
            exact ih _ τ (by omega) (by omega) hT h1 (by omega)
    obtain ⟨ν', n1, n2, n3⟩ := mdl 100 FU 0 μ1 (by decide) (by decide) m2 m3 (by omega)
    obtain ⟨τ', q1, q2⟩ := cls 7 FU 0 σ (by decide) (by decide) (FT.rfl' σ) (by omega) (by show T < 0 + 128; omega)
    rw [show it3 (f_X5_enough_B21 (nI n)) FU 0 64 σ = _ from q2, show it3 (f_X6_enough_B27 (nI n)) FU (-1) 0 μ1 = _ from n3]
    by_cases h0 : T ≤ 99
    · rw [if_pos h0, if_pos h0]
      exact ⟨_, _, rfl, rfl, rfl, hI.tr q1 n1 n2⟩
    · rw [if_neg h0, if_neg h0]
      exact fndN (hI.tr0 q1 n1 n2)
  · rw [if_neg a1, if_pos a2]; exact fndB hI

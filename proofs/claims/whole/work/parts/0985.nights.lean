/-! ===== pure: nights, odds ===== -/
def nz (z : Int32) : Int32 := z * 1103515245 + 12345
def dr (z : Int32) : Nat := z.toBitVec.toNat / 256
theorem dr_lt (z : Int32) : dr z < 2 ^ 24 := by
  have := z.toBitVec.isLt
  unfold dr
  omega
theorem jus_dr (z : Int32) : jus z 8 = nI (dr z) := by
  have h : (jus z 8).toBitVec.toNat = z.toBitVec.toNat / 2 ^ 8 := by
    unfold jus
    exact pk_ushr z 8 8 (by decide)
  have hl := dr_lt z
  apply Int32.toBitVec_inj.mp
  apply BitVec.eq_of_toNat_eq
  rw [h]
  show z.toBitVec.toNat / 2 ^ 8 = (BitVec.ofNat 32 (dr z)).toNat
  rw [BitVec.toNat_ofNat, Nat.mod_eq_of_lt (by omega)]
  rfl
theorem jrem40 (h : Nat) (hh : h < 2 ^ 31) : jrem (nI h) 40 = nI (h % 40) := pk_rem (a := h) (d := 40) hh (by decide) (by decide)
def ntS (s : St) : St := sU (sU (sU s 3 (nz (s 3))) 3 (nz (nz (s 3)))) (4 + dr (nz (s 3)) % 8) (nI (dr (nz (nz (s 3))) % 40))
theorem BD.nt {H : Nat} {s : St} (h : BD H s) : BD H (ntS s) := h.z.z.p (Nat.mod_lt _ (by decide)) (Bn_nI (by omega) (by omega))
theorem st_nights : ST_nights Inv := by
  intro k σ μ x1 hk hI
  show RS k (f_X5_nights x1 σ) (f_X6_nights x1 μ)
  unfold f_X5_nights f_X6_nights
  rcases gd1 x1 1 20 (A := 1) (B := 20) (L := 1) (U := 20) rfl rfl rfl rfl (by decide) with ⟨n, h1, h2, rfl, a1, a2, a3⟩ | ⟨a1, a2⟩
  · rw [if_neg a1, if_pos a2, if_neg a3, hI.h0]
    have b0 := hI.bd.2.2.1
    rw [aM_lo μ (by decide)] at b0
    have b01 := b0.1
    have le : μ 1 0 + nI n ≤ 99999 := by
      rw [b0.2, nI_add]
      exact nI_le (b := 99999) (by omega) (by decide)
    rw [if_pos le, if_pos le]
    have key : ∀ fu i (σ' μ' : Mem), i ≤ n → n - i < fu → aC 1 σ' = aM μ' → BD (80 * k + i) (aM μ') → FC σ σ' → FR μ μ' → RS k (it2 (f_X5_nights_B44 (nI n)) fu (nI i) σ') (it2 (f_X6_nights_B41 (nI n)) fu (nI i) μ') := by
      intro fu
      induction fu with
      | zero => intro i _ _ _ h; omega
      | succ fu ih =>
        intro i σ' μ' hi hf hr hb hfc hfr
        show RS k (f_X5_nights_B44 (nI n) (it2 (f_X5_nights_B44 (nI n)) fu) (nI i) σ') (f_X6_nights_B41 (nI n) (it2 (f_X6_nights_B41 (nI n)) fu) (nI i) μ')
        revert ih
        generalize it2 (f_X5_nights_B44 (nI n)) fu = R5
        generalize it2 (f_X6_nights_B41 (nI n)) fu = R6
        intro ih
        unfold f_X5_nights_B44 f_X6_nights_B41
        have hb1 : BD (80 * k + i) (aC 1 σ') := by rw [hr]; exact hb
        by_cases he : n ≤ i
        · rw [if_pos (nle he (by omega)), if_pos (nle he (by omega)), knowing_eq hb1, mknowing_eq hb, Option.bind_some, Option.bind_some, ones_eq hb, Option.bind_some, hr]
          exact ⟨_, _, rfl, rfl, rfl, hI.go hfc hfr hr (hb.up (by omega))⟩
        · rw [if_neg (nnle (by omega) (by omega)), if_neg (nnle (by omega) (by omega))]
          have z5 : σ' 1 4 = aM μ' 3 := by
            have := congrFun hr 3
            rw [aC_3] at this; exact this
          have z6 : μ' 1 3 = aM μ' 3 := (aM_lo μ' (by decide)).symm
          unfold f_X2_draw f_X6_draw
          dsimp only
          have m5 : ∀ v, mst σ' 1 4 v 1 4 = v := fun v => by rw [mst_ap, if_pos ⟨rfl, rfl⟩]
          have m5' : ∀ v u, mst (mst σ' 1 4 v) 1 4 u 1 4 = u := fun v u => by rw [mst_ap, if_pos ⟨rfl, rfl⟩]
          have m6 : ∀ v, mst μ' 1 3 v 1 3 = v := fun v => by rw [mst_ap, if_pos ⟨rfl, rfl⟩]
          have m6' : ∀ v u, mst (mst μ' 1 3 v) 1 3 u 1 3 = u := fun v u => by rw [mst_ap, if_pos ⟨rfl, rfl⟩]
          rw [m5', m6', m5, m6, z5, z6]
          have d1 := dr_lt (nz (aM μ' 3))
          have d2 := dr_lt (nz (nz (aM μ' 3)))
          rw [show aM μ' 3 * 1103515245 + 12345 = nz (aM μ' 3) from rfl, show nz (aM μ' 3) * 1103515245 + 12345 = nz (nz (aM μ' 3)) from rfl, jus_dr, jus_dr, jrem_nI _ (by omega), jrem40 _ (by omega), n4, chk_nI (show dr (nz (aM μ' 3)) % 8 < 8 by omega) (by decide), chk_nI (show 4 + dr (nz (aM μ' 3)) % 8 < 74 by omega) (by decide), nI_clamp (show dr (nz (aM μ' 3)) % 8 < 2 ^ 31 by omega), nI_clamp (show 4 + dr (nz (aM μ' 3)) % 8 < 2 ^ 31 by omega)]
          have h8 : dr (nz (aM μ' 3)) % 8 < 8 := by omega
          have rc : aC 1 (mst (mst (mst σ' 1 4 (nz (aM μ' 3))) 1 4 (nz (nz (aM μ' 3)))) 5 (dr (nz (aM μ' 3)) % 8) (nI (dr (nz (nz (aM μ' 3))) % 40))) = ntS (aM μ') := by
            rw [show (5 : Nat) = 1 + 4 from rfl, aC_sp h8, aC_sz, aC_sz, hr]
            rfl
          have rm : aM (mst (mst (mst μ' 1 3 (nz (aM μ' 3))) 1 3 (nz (nz (aM μ' 3)))) 1 (4 + dr (nz (aM μ' 3)) % 8) (nI (dr (nz (nz (aM μ' 3))) % 40))) = ntS (aM μ') := by
            rw [aM_mst (PL_lo (by omega) (by omega)), aM_mst (PL_lo (by omega) (by omega)), aM_mst (PL_lo (by omega) (by omega))]
            rfl
          have hn := hb.nt
          rw [show f_X2_pass 1 1 _ = _ from pass_eq (b := 1) 1 (H := 80 * k + i) (by rw [rc]; exact hn) (by omega) (by decide), Option.bind_some]
          obtain ⟨v1, v2⟩ := vhs_spec (b := 1) (H := 80 * k + i) (by rw [rc]; exact hn) 1 (by omega)
          obtain ⟨μ'', u1, u2, -, u4⟩ := hour_open (H := 80 * k + i) (by rw [rm]; exact hn) (by rw [mst_c (by decide), mst_c (by decide), mst_c (by decide), hfr.2 6 (by omega)]; exact hI.shut) (by omega)
          rw [u1, Option.bind_some, nI_1]
          rw [rc] at v1
          rw [rm] at u2
          refine ih (i + 1) _ _ (by omega) (by omega) ?_ ?_ ?_ ?_
          · rw [v1, u2]; rfl
          · rw [u2]; exact hn.hr hn.inf (by omega)
          · intro c hc
            rw [v2 c (by omega), mst_c (by omega), mst_c (by omega), mst_c (by omega)]
            exact hfc c hc
          · refine hfr.trans (FR.trans (FR.ofr (fun c hc => ?_)) (FR.of1 u4))
            rw [mst_c hc, mst_c hc, mst_c hc]
    exact key FU 0 σ μ (by omega) (show n - 0 < 1000 by omega) hI.row hI.bd (fun _ _ => rfl) (FR.rfl' μ)
  · rw [if_pos a2]
    rcases a1 with a1 | a1
    · rw [if_pos a1]; exact fndB hI
    · by_cases a3 : x1 < 1
      · rw [if_pos a3]; exact fndB hI
      · rw [if_neg a3, if_neg a1]; exact fndB hI
-- odds
def dv (c : Nat) : Nat := if c % 8 = 0 then 8 else if c % 4 = 0 then 4 else if c % 2 = 0 then 2 else 1
theorem cd_eq : ∀ c, c < 9 → f_X5_commonDivisor (nI c) = some (nI (dv c)) := by decide +kernel
theorem dv_ok : ∀ c, c < 9 → c % dv c = 0 ∧ 8 % dv c = 0 ∧ 1 ≤ dv c ∧ dv c ≤ 8 := by decide
theorem dv_no : ∀ c, c < 9 → ∀ j, j < 9 → dv c < j → ¬ (c % j = 0 ∧ 8 % j = 0) := by decide
def pwI (b : Int32) : Nat → Int64
  | 0 => 1
  | n + 1 => pwI b n * b.toInt64
theorem power_eq (b : Int32) {n : Nat} (hn : n < 1000) : f_X5_power b (nI n) = some (pwI b n) := by
  unfold f_X5_power
  refine it2_for' n (fun i => pwI b i) rfl hn (fun rec i hi => ?_) (fun rec => ?_)
  · unfold f_X5_power_B5
    rw [if_neg (nnle hi (by omega)), nI_1]
    rfl
  · unfold f_X5_power_B5
    rw [if_pos (nle (Nat.le_refl n) (by omega))]
theorem mpower_eq (x2 : Int32) (μ : Mem) (c j : Nat) {n : Nat} (hn : n < 1000) (hj : 0 < j) (hj2 : j < 2 ^ 31) : it2 (f_X6_odds_B99 (nI n) x2 μ (nI c) (nI j)) FU 1 0 = some (pwI (if x2 = 0 then nI c / nI j else 8 / nI j) n, μ) := by
  refine it2_for' n (fun i => pwI (if x2 = 0 then nI c / nI j else 8 / nI j) i) rfl hn (fun rec i hi => ?_) (fun rec => ?_)
  · unfold f_X6_odds_B99 f_X6_odds_J125 cnz
    rw [if_neg (nnle hi (by omega)), nI_1, if_neg (nI_ne0 hj hj2), if_neg (nI_ne0 hj hj2)]
    by_cases h : x2 = 0
    · rw [if_pos h]
      simp only [if_pos h]
      rfl
    · rw [if_neg h]
      simp only [if_neg h]
      rfl
  · unfold f_X6_odds_B99
    rw [if_pos (nle (Nat.le_refl n) (by omega))]
theorem modd_loop (x1 x2 : Int32) (μ : Mem) {c : Nat} (hc : c < 9) : ∀ fu j, dv c ≤ j → j ≤ 8 → j - dv c < fu → it1 (f_X6_odds_B72 x1 x2 μ (nI c)) fu (nI j) = it2 (f_X6_odds_B99 x1 x2 μ (nI c) (nI (dv c))) FU 1 0 := by
  intro fu
  induction fu with
  | zero => intro j _ _ h; omega
  | succ fu ih =>
    intro j h1 h2 h3
    obtain ⟨o1, o2, o3, o4⟩ := dv_ok c hc
    show f_X6_odds_B72 x1 x2 μ (nI c) (it1 (f_X6_odds_B72 x1 x2 μ (nI c)) fu) (nI j) = _
    revert ih
    generalize it1 (f_X6_odds_B72 x1 x2 μ (nI c)) fu = R
    intro ih
    unfold f_X6_odds_B72 f_X6_odds_J87 cnz
    have r1 : jrem (nI c) (nI j) = nI (c % j) := pk_rem (a := c) (d := j) (by omega) (by omega) (by omega)
    have r2 : jrem 8 (nI j) = nI (8 % j) := pk_rem (a := 8) (d := j) (by omega) (by omega) (by omega)
    rw [if_neg (nI_ne0 (show 0 < j by omega) (by omega)), if_neg (nI_ne0 (show 0 < j by omega) (by omega)), r1, r2]
    by_cases e : j = dv c
    · subst e
      rw [o1, o2, if_pos nI_0, if_pos nI_0]
    · have hno := dv_no c hc j (by omega) (by omega)
      have en : nI j + -1 = nI (j - 1) := by
        rw [← Int32.sub_eq_add_neg]
        exact pk_sub (a := j) (b := 1) (by omega)
      rw [en]
      have key : R (nI (j - 1)) = it2 (f_X6_odds_B99 x1 x2 μ (nI c) (nI (dv c))) FU 1 0 := ih (j - 1) (by omega) (by omega) (by omega)
      by_cases m1 : c % j = 0
      · rw [if_pos (by rw [m1]; rfl), if_neg (nI_ne0 (by omega) (by have := Nat.mod_lt 8 (show 0 < j by omega); omega))]
        exact key
      · rw [if_neg (nI_ne0 (by omega) (by have := Nat.mod_lt c (show 0 < j by omega); omega))]
        exact key
theorem modds_eq {k : Nat} {σ μ : Mem} (hI : Inv k σ μ) (x1 x2 : Int32) : it2 (f_X6_odds_B35 x1 x2 μ) FU 0 0 = it1 (f_X6_odds_B72 x1 x2 μ (nI (cntN (fun h => decide (σ 5 h ≠ 0)) 8))) FU 8 := by
  refine it2_for' 8 (fun i => nI (cntN (fun h => decide (σ 5 h ≠ 0)) i)) rfl (by decide) (fun rec i hi => ?_) (fun rec => ?_)
  · unfold f_X6_odds_B35 f_X6_odds_J60
    rw [if_neg (show ¬ (8 : Int32) ≤ nI i from nnle hi (by decide)), n4, chk_nI (show 4 + i < 74 by omega) (by decide), nI_clamp (show 4 + i < 2 ^ 31 by omega), ← hI.pp hi, nI_1]
    congr 1
    have hb := hI.bd.2.2.2.1 i hi
    rw [aM_lo μ (by omega), ← hI.pp hi] at hb
    by_cases h : σ 5 i = 0
    · simp [h, cntN]
    · have h' : ¬ σ 5 i ≤ 0 := by
        rw [hb.2]
        have : tn (σ 5 i) ≠ 0 := fun q => h (by rw [hb.2, q]; rfl)
        exact nI_nle (by omega) (by have := hb.1; omega)
      simp [h, h', cntN, nI_1]
  · unfold f_X6_odds_B35
    rw [if_pos (show (8 : Int32) ≤ nI 8 from nle (Nat.le_refl 8) (by decide))]
theorem st_odds : ST_odds Inv := by
  intro k σ μ x1 x2 hk hI
  have fb : ∃ (q1 : Int64 × Mem) (q2 : Int64 × Mem), ((f_X5_finding (-1000001) σ).bind fun q => some (q.1.toInt64, q.2)) = some q1 ∧ ((f_X6_finds (-1000001) μ).bind fun q => some (q.1.toInt64, q.2)) = some q2 ∧ q1.1 = q2.1 ∧ Inv (k + 1) q1.2 q2.2 := by
    rw [finding_eq (j := 0) (by decide) (by decide), finds_eq (j := 0) (by decide) (by decide)]
    exact ⟨_, _, rfl, rfl, rfl, hI.find (by decide)⟩
  unfold f_X5_odds f_X6_odds
  rcases gd x1 20 (M := 20) (U := 20) rfl rfl (by decide) with ⟨n, hn, rfl, a1, a2⟩ | ⟨a1, a2⟩
  · rw [if_pos a1, if_neg a2]
    rcases gd x2 1 (M := 1) (U := 1) rfl rfl (by decide) with ⟨v, hv, rfl, b1, b2⟩ | ⟨b1, b2⟩
    · rw [if_pos b1, if_neg b2, show f_X4_hoursOpen 2 σ = _ from hoursOpen_eq 2 σ, Option.bind_some, modds_eq hI]
      show ∃ q1 q2, ((f_X5_commonDivisor (nI (cntN (fun h => decide (σ 5 h ≠ 0)) 8))).bind _) = some q1 ∧ _
      have hc := cntN_le (fun h => decide (σ 5 h ≠ 0)) 8
      generalize cntN (fun h => decide (σ 5 h ≠ 0)) 8 = c at hc ⊢
      obtain ⟨o1, o2, o3, o4⟩ := dv_ok c (by omega)
      rw [cd_eq c (by omega), Option.bind_some, show it1 (f_X6_odds_B72 (nI n) (nI v) μ (nI c)) FU 8 = _ from modd_loop (nI n) (nI v) μ (c := c) (by omega) FU 8 o4 (by decide) (show 8 - dv c < 1000 by omega), mpower_eq _ _ _ _ (by omega) (by omega) (by omega)]
      unfold cnz
      rw [if_neg (nI_ne0 (show 0 < dv c by omega) (by omega)), if_neg (nI_ne0 (show 0 < dv c by omega) (by omega)), power_eq _ (by omega), power_eq _ (by omega), Option.bind_some, Option.bind_some]
      by_cases h0 : nI v = 0
      · rw [if_pos h0]
        simp only [if_pos h0]
        exact ⟨_, _, rfl, rfl, rfl, hI.same⟩
      · rw [if_neg h0]
        simp only [if_neg h0]
        exact ⟨_, _, rfl, rfl, rfl, hI.same⟩
    · rw [if_neg b1, if_pos b2]; exact fb
  · rw [if_neg a1, if_pos a2]; exact fb

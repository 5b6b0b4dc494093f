/-! ===== pure: who knows never forgets; safe, sleep ===== -/
theorem kn_hrA {x : Int32} {s : St} {w : Nat} (hw : w < tn (s 1)) (hm : tn (s 1) ≤ 8) (h : knB s w = true) : knB (hrA x s) w = true := by
  unfold knB at h ⊢
  rw [decide_eq_true_eq] at h ⊢
  have e := hrA_w (x := x) (f := 3) hw hm (by decide)
  rw [show 24 + 5 * w + 3 = 27 + 5 * w by omega, if_pos rfl, h] at e
  rw [e]
  unfold nbA
  rw [if_pos rfl]
theorem kn_hrN {s : St} {w : Nat} (hw : w < tn (s 1)) (hm : tn (s 1) ≤ 8) (i : Nat) : ∀ d, knB (hrN i s) w = true → knB (hrN (i + d) s) w = true
  | 0, h => h
  | d + 1, h => kn_hrA (by rw [hrN_1]; exact hw) (by rw [hrN_1]; exact hm) (kn_hrN hw hm i d h)
theorem hrZ_1 (s : St) : ∀ n, hrZ n s 1 = s 1
  | 0 => rfl
  | n + 1 => by
    have : hrZ (n + 1) s 1 = hrZ n s 1 := hrA_1 0 (hrZ n s)
    rw [this, hrZ_1 s n]
theorem kn_hrZ {s : St} {w : Nat} (hw : w < tn (s 1)) (hm : tn (s 1) ≤ 8) (i : Nat) : ∀ d, knB (hrZ i s) w = true → knB (hrZ (i + d) s) w = true
  | 0, h => h
  | d + 1, h => kn_hrA (by rw [hrZ_1]; exact hw) (by rw [hrZ_1]; exact hm) (kn_hrZ hw hm i d h)
theorem kn_stay {s : St} (hm : tn (s 1) ≤ 8) {n : Nat} (h : knA (hrN n s) = knA s) {i : Nat} (hi : i ≤ n) : knA (hrN i s) = knA s := by
  unfold knA at h ⊢
  rw [hrN_1] at h ⊢
  refine setA_congr _ (fun w hw => ?_)
  have h0 := kn_hrN hw hm 0 i
  have h1 := kn_hrN hw hm i (n - i)
  rw [show 0 + i = i by omega] at h0
  rw [show i + (n - i) = n by omega, setA_inj hm h hw] at h1
  exact Bool.eq_iff_iff.mpr ⟨h1, h0⟩
theorem stays_eq {τ : Mem} {s : St} {H : Nat} {n : Nat} (c : Int32) (hr : aC 31 τ = s) (h : BD H s) (hn : H + n ≤ 90000) (hn2 : n < 900) : ∃ v τ', f_X2_staysHidden 31 (nI n) c τ = some (v, τ') ∧ FT τ τ' ∧ (∀ x, (x < 31 ∨ 31 + 15 ≤ x) → τ' x = τ x) ∧ ((v = 1 ∧ ∀ i, i < n → knA (hrN (i + 1) s) = c) ∨ (v = 0 ∧ ∃ i, i < n ∧ ¬ knA (hrN (i + 1) s) = c)) := by
  unfold f_X2_staysHidden
  have key : ∀ d fu i (θ : Mem), i + d = n → d < fu → aC 31 θ = hrN i s → (∀ x, (x < 31 ∨ 31 + 15 ≤ x) → θ x = τ x) → (∀ t, t < i → knA (hrN (t + 1) s) = c) → ∃ v τ', it2 (f_X2_staysHidden_B2 31 (nI n) c) fu (nI i) θ = some (v, τ') ∧ FT τ τ' ∧ (∀ x, (x < 31 ∨ 31 + 15 ≤ x) → τ' x = τ x) ∧ ((v = 1 ∧ ∀ i, i < n → knA (hrN (i + 1) s) = c) ∨ (v = 0 ∧ ∃ i, i < n ∧ ¬ knA (hrN (i + 1) s) = c)) := by
    intro d
    induction d with
    | zero =>
      intro fu i θ hd hf hW hT hall
      match fu, hf with
      | fu + 1, hf =>
        show ∃ v τ', f_X2_staysHidden_B2 31 (nI n) c (it2 (f_X2_staysHidden_B2 31 (nI n) c) fu) (nI i) θ = some (v, τ') ∧ _
        unfold f_X2_staysHidden_B2
        rw [if_pos (nle (by omega) (by omega))]
        exact ⟨1, θ, rfl, FT_out (Or.inl rfl) hT, hT, Or.inl ⟨rfl, fun t ht => hall t (by omega)⟩⟩
    | succ d ih =>
      intro fu i θ hd hf hW hT hall
      match fu, hf with
      | fu + 1, hf =>
        show ∃ v τ', f_X2_staysHidden_B2 31 (nI n) c (it2 (f_X2_staysHidden_B2 31 (nI n) c) fu) (nI i) θ = some (v, τ') ∧ _
        replace ih := ih fu (i + 1)
        revert ih
        generalize it2 (f_X2_staysHidden_B2 31 (nI n) c) fu = R
        intro ih
        unfold f_X2_staysHidden_B2
        have hb : BD (H + i) (hrN i s) := h.hrN i (by omega)
        have hb2 : BD (H + (i + 1)) (hrN (i + 1) s) := h.hrN (i + 1) (by omega)
        obtain ⟨τ2, r1, r2, r3, r4⟩ := passT 1 (Or.inl rfl) hW hb (by omega) (by decide)
        have r5 : aC 31 τ2 = hrN (i + 1) s := r2
        have hT2 : ∀ x, (x < 31 ∨ 31 + 15 ≤ x) → τ2 x = τ x := fun x hx => by rw [r4 x hx, hT x hx]
        rw [if_neg (nnle (by omega) (by omega)), show f_X2_pass 31 1 θ = _ from r1, Option.bind_some, knowing_eq (b := 31) (H := H + (i + 1)) (by rw [r5]; exact hb2), Option.bind_some, r5, nI_1]
        by_cases he : knA (hrN (i + 1) s) = c
        · rw [if_pos he]
          refine ih τ2 (by omega) (by omega) r5 hT2 (fun t ht => ?_)
          by_cases e : t = i
          · rw [e]; exact he
          · exact hall t (by omega)
        · rw [if_neg he]
          exact ⟨0, τ2, rfl, FT_out (Or.inl rfl) hT2, hT2, Or.inr ⟨rfl, i, by omega, he⟩⟩
  exact key n FU 0 τ (by omega) (show n < 1000 by omega) (by rw [hr]; rfl) (fun _ _ => rfl) (fun t ht => by omega)
theorem kn_plan {s : St} {h : Nat} {v : Int32} (hh : h < 8) : knA (sU s (4 + h) v) = knA s := by
  unfold knA
  rw [sU_ne (show 1 ≠ 4 + h by omega)]
  refine setA_congr _ (fun w _ => ?_)
  unfold knB
  rw [sU_ne (by omega)]
theorem st_safe : ST_safe Inv := by
  intro k σ μ x1 x2 hk hI
  show RS k (f_X5_safe x1 x2 σ) (f_X6_safe x1 x2 μ)
  unfold f_X5_safe f_X6_safe f_X6_isHour f_X6_isSoon
  rcases gd x1 7 (M := 7) (U := 7) rfl rfl (by decide) with ⟨h, hh, rfl, a1, a2⟩ | ⟨a1, a2⟩
  · rw [if_pos a1, if_neg a2]
    rcases gd x2 60 (M := 60) (U := 60) rfl rfl (by decide) with ⟨n, hn, rfl, b1, b2⟩ | ⟨b1, b2⟩
    · obtain ⟨μ1, m1, m2, m3, -⟩ := aside μ
      rw [if_pos b1, if_neg b2, knowing_eq hI.bd1, Option.bind_some, mknowing_eq hI.bd, Option.bind_some, m1, Option.bind_some, hI.row]
      have h8 : h < 8 := by omega
      have key : ∀ d fu gu v (τ ν : Mem), v + d = 100 → d < fu → d + 1 < gu → FT σ τ → AS μ ν → aM ν = aM μ → RS k (it2 (f_X5_safe_B36 (nI h) (nI n) (knA (aM μ))) fu (nI v) τ) (it3 (f_X6_safe_B36 (nI h) (nI n) (knA (aM μ))) gu (-1) (nI v) ν) := by
        intro d
        induction d with
        | zero =>
          intro fu gu v τ ν hd hf hg hT hA hr
          match fu, hf, gu, hg with
          | fu + 1, hf, gu + 1, hg =>
            show RS k (f_X5_safe_B36 (nI h) (nI n) (knA (aM μ)) (it2 (f_X5_safe_B36 (nI h) (nI n) (knA (aM μ))) fu) (nI v) τ) (f_X6_safe_B36 (nI h) (nI n) (knA (aM μ)) (it3 (f_X6_safe_B36 (nI h) (nI n) (knA (aM μ))) gu) (-1) (nI v) ν)
            unfold f_X5_safe_B36 f_X6_safe_B36 f_X6_safe_J89
            rw [if_pos (show (99 : Int32) < nI v from nI_lt (a := 99) (by omega) (by omega)), if_pos (show (99 : Int32) < nI v from nI_lt (a := 99) (by omega) (by omega)), if_neg (by decide)]
            exact fndN (hI.tr0 hT hA.2 hr)
        | succ d ih =>
          intro fu gu v τ ν hd hf hg hT hA hr
          match fu, hf, gu, hg with
          | fu + 1, hf, gu + 1, hg =>
            show RS k (f_X5_safe_B36 (nI h) (nI n) (knA (aM μ)) (it2 (f_X5_safe_B36 (nI h) (nI n) (knA (aM μ))) fu) (nI v) τ) (f_X6_safe_B36 (nI h) (nI n) (knA (aM μ)) (it3 (f_X6_safe_B36 (nI h) (nI n) (knA (aM μ))) gu) (-1) (nI v) ν)
            replace ih := ih fu gu (v + 1)
            have e3 : ∀ ν' : Mem, it3 (f_X6_safe_B36 (nI h) (nI n) (knA (aM μ))) gu (nI v) (nI (v + 1)) ν' = some (nI v, ν') := by
              intro ν'
              obtain ⟨g', rfl⟩ : ∃ g', gu = g' + 1 := ⟨gu - 1, by omega⟩
              show f_X6_safe_B36 (nI h) (nI n) (knA (aM μ)) (it3 (f_X6_safe_B36 (nI h) (nI n) (knA (aM μ))) g') (nI v) (nI (v + 1)) ν' = _
              unfold f_X6_safe_B36 f_X6_safe_J89
              rw [if_pos (nI_pos' (show v < 2 ^ 31 by omega)), if_pos (nI_pos' (show v < 2 ^ 31 by omega)), ite_self]
            revert ih e3
            generalize it2 (f_X5_safe_B36 (nI h) (nI n) (knA (aM μ))) fu = R5
            generalize it3 (f_X6_safe_B36 (nI h) (nI n) (knA (aM μ))) gu = R6
            intro ih e3
            unfold f_X5_safe_B36 f_X6_safe_B36 f_X6_safe_J78
            obtain ⟨τ1, t1, t2, t3, -⟩ := trial hI hT
            have hb : BD (80 * k) (sU (aM μ) (4 + h) (nI v)) := hI.bd.p h8 (Bn_nI (by omega) (by omega))
            have r5 : aC 31 (mst τ1 35 h (nI v)) = sU (aM μ) (4 + h) (nI v) := by
              rw [show (35 : Nat) = 31 + 4 from rfl, aC_sp h8, t2]
            have r6 : aM (mst ν 1 (4 + h) (nI v)) = sU (aM μ) (4 + h) (nI v) := by
              rw [aM_mst (PL_lo (by omega) (by omega)), hr]
            have ftS : FT σ (mst τ1 35 h (nI v)) := t3.trans (fun c hc => mst_c (by omega))
            obtain ⟨vv, τ2, s1, s2, -, s3⟩ := stays_eq (knA (aM μ)) (n := n) r5 hb (by omega) (by omega)
            obtain ⟨ν2, g1, g2, g3⟩ := goesOn_open (μ := mst ν 1 (4 + h) (nI v)) n (by rw [r6]; exact hb) (by rw [mst_c (by decide)]; exact hA.shut hI) (by omega) (by omega)
            rw [r6] at g2
            have hb2 : BD (80 * k + n) (hrN n (sU (aM μ) (4 + h) (nI v))) := hb.hrN n (by omega)
            have hA2 := (hA.row (j := 4 + h) (v := nI v)).step g3
            have n99 : ¬ (99 : Int32) < nI v := by
              rw [show (99 : Int32) = nI 99 from rfl, nI_ltI (by decide) (by omega)]; omega
            rw [if_neg n99, if_neg n99, if_neg (by decide), t1, Option.bind_some, chk_nI h8 (by decide), n4, chk_nI (show 4 + h < 74 by omega) (by decide), nI_clamp (show h < 2 ^ 31 by omega), nI_clamp (show 4 + h < 2 ^ 31 by omega), s1, Option.bind_some, g1, Option.bind_some, mknowing_eq (H := 80 * k + n) (by rw [g2]; exact hb2), Option.bind_some, g2, nI_1]
            dsimp only
            rcases s3 with ⟨rfl, hall⟩ | ⟨rfl, i, hi, hne⟩
            · have e : knA (hrN n (sU (aM μ) (4 + h) (nI v))) = knA (aM μ) := by
                by_cases h0 : n = 0
                · rw [h0]; exact kn_plan h8
                · have := hall (n - 1) (by omega)
                  rw [show n - 1 + 1 = n by omega] at this
                  exact this
              obtain ⟨ν3, u1, u2, u3, u4⟩ := hA2.back (nI v)
              rw [if_pos e, if_neg (by decide), u1, Option.bind_some]
              dsimp only
              rw [e3 ν3]
              exact ⟨_, _, rfl, rfl, rfl, hI.tr (ftS.trans s2) u2.2 u3⟩
            · have e : ¬ knA (hrN n (sU (aM μ) (4 + h) (nI v))) = knA (aM μ) := fun q => by
                rw [← kn_plan (s := aM μ) (v := nI v) h8] at q hne
                exact hne (kn_stay hb.2.1.1 q (by omega))
              obtain ⟨ν3, u1, u2, u3, u4⟩ := hA2.back (-1)
              rw [if_neg e, if_pos rfl, u1, Option.bind_some]
              exact ih τ2 ν3 (by omega) (by omega) (by omega) (ftS.trans s2) u2 u3
      exact key 100 FU FU 0 σ μ1 (by decide) (by decide) (by decide) (FT.rfl' σ) m2 m3
    · rw [if_neg b1, if_pos b2]; exact fndB hI
  · rw [if_neg a1, if_pos a2]; exact fndB hI
-- sleep
/-- the greatest of the numbers of hours asleep -/
def slp (s : St) (n : Nat) : Nat → Nat → Int32 → Int32
  | 0, _, bs => bs
  | d + 1, i, bs => slp s n d (i + 1) (if knA (hrN n (hrZ i s)) = knA s then nI i else bs)
theorem kn_lost {s : St} (hm : tn (s 1) ≤ 8) {i : Nat} (h : ¬ knA (hrZ i s) = knA s) (n : Nat) : ∀ j, i ≤ j → ¬ knA (hrN n (hrZ j s)) = knA s := by
  intro j hj q
  refine h ?_
  unfold knA at q ⊢
  rw [hrN_1, hrZ_1] at q
  rw [hrZ_1]
  refine setA_congr _ (fun w hw => ?_)
  have h0 := kn_hrZ hw hm 0 i
  rw [show 0 + i = i by omega] at h0
  have h1 := kn_hrZ hw hm i (j - i)
  rw [show i + (j - i) = j by omega] at h1
  have h2 := kn_hrN (s := hrZ j s) (w := w) (by rw [hrZ_1]; exact hw) (by rw [hrZ_1]; exact hm) 0 n
  rw [show 0 + n = n by omega, setA_inj hm q hw] at h2
  exact Bool.eq_iff_iff.mpr ⟨fun a => h2 (h1 a), h0⟩
theorem slp_same {s : St} {n : Nat} : ∀ d i bs, (∀ j, i ≤ j → ¬ knA (hrN n (hrZ j s)) = knA s) → slp s n d i bs = bs
  | 0, _, _, _ => rfl
  | d + 1, i, bs, h => by
    unfold slp
    rw [if_neg (h i (Nat.le_refl i))]
    exact slp_same d (i + 1) bs (fun j hj => h j (by omega))
theorem st_sleep : ST_sleep Inv := by
  intro k σ μ x1 hk hI
  show RS k (f_X5_sleep x1 σ) (f_X6_sleep x1 μ)
  unfold f_X5_sleep f_X6_sleep
  rcases gd x1 20 (M := 20) (U := 20) rfl rfl (by decide) with ⟨n, hn, rfl, a1, a2⟩ | ⟨a1, a2⟩
  · obtain ⟨μ1, m1, m2, m3, -⟩ := aside μ
    obtain ⟨τ0, c1, c2, c3⟩ := become_spec (b := 46) (c := 1) (σ := σ) (by unfold isV; omega) (by unfold isV; omega) (by decide) hI.bd1
    rw [if_pos a1, if_neg a2, knowing_eq hI.bd1, Option.bind_some, c1, Option.bind_some, mknowing_eq hI.bd, Option.bind_some, m1, Option.bind_some, hI.row]
    have hm := hI.bd.2.1.1
    -- the reference
    have mdl : ∀ d fu i (ν : Mem) (bs : Int32), i + d = 61 → d < fu → AS μ ν → aM ν = aM μ → ∃ ν', FR μ ν' ∧ aM ν' = aM μ ∧ it3 (f_X6_sleep_B33 (nI n) (knA (aM μ))) fu bs (nI i) ν = (if 0 ≤ slp (aM μ) n d i bs then some (slp (aM μ) n d i bs, ν') else ((f_X6_finds (-1000004) ν').bind fun q => some (q.1, q.2))) := by
      intro d
      induction d with
      | zero =>
        intro fu i ν bs hd hf hA hr
        match fu, hf with
        | fu + 1, hf =>
          refine ⟨ν, hA.2, hr, ?_⟩
          show f_X6_sleep_B33 (nI n) (knA (aM μ)) (it3 (f_X6_sleep_B33 (nI n) (knA (aM μ))) fu) bs (nI i) ν = _
          unfold f_X6_sleep_B33
          rw [if_pos (show (60 : Int32) < nI i from nI_lt (a := 60) (by omega) (by omega))]
          rfl
      | succ d ih =>
        intro fu i ν bs hd hf hA hr
        match fu, hf with
        | fu + 1, hf =>
          have ex : it3 (f_X6_sleep_B33 (nI n) (knA (aM μ))) (fu + 1) bs (nI i) ν = f_X6_sleep_B33 (nI n) (knA (aM μ)) (it3 (f_X6_sleep_B33 (nI n) (knA (aM μ))) fu) bs (nI i) ν := rfl
          rw [ex]
          replace ih := ih fu (i + 1)
          revert ih
          generalize it3 (f_X6_sleep_B33 (nI n) (knA (aM μ))) fu = R
          intro ih
          unfold f_X6_sleep_B33 f_X6_sleep_J76
          have hrs : aM (mst ν 0 6 1) = aM μ := by rw [aM_frame (μ := ν) (mst_c (by decide)), hr]
          obtain ⟨ν2, g1, g2, g3⟩ := goesOn_shut (μ := mst ν 0 6 1) i (by rw [hrs]; exact hI.bd) (by rw [mst_ap, if_pos ⟨rfl, rfl⟩]) (by omega) (by omega)
          rw [hrs] at g2
          have hbz : BD (80 * k + i) (hrZ i (aM μ)) := hI.bd.hrZ i (by omega)
          have hrs2 : aM (mst ν2 0 6 0) = hrZ i (aM μ) := by rw [aM_frame (μ := ν2) (mst_c (by decide)), g2]
          obtain ⟨ν3, v1, v2, v3⟩ := goesOn_open (μ := mst ν2 0 6 0) n (by rw [hrs2]; exact hbz) (by rw [mst_ap, if_pos ⟨rfl, rfl⟩]) (by omega) (by omega)
          rw [hrs2] at v2
          have hbn : BD (80 * k + i + n) (hrN n (hrZ i (aM μ))) := hbz.hrN n (by omega)
          have hA2 : AS μ (mst ν2 0 6 0) := by
            refine ⟨fun j hj => ?_, ?_, ?_⟩
            · rw [mst_c (by decide), g3 4 (by decide) (by decide), mst_c (by decide)]; exact hA.1 j hj
            · intro c hc
              rw [mst_c (by omega), g3 c (by omega) (by omega), mst_c (by omega)]; exact hA.2.1 c hc
            · intro x hx
              rw [mst_ap]
              by_cases e : x = 6
              · rw [if_pos ⟨rfl, e⟩, e]; exact hI.shut.symm
              · rw [if_neg (by omega), g3 0 (by decide) (by decide), mst_ap, if_neg (by omega)]; exact hA.2.2 x hx
          obtain ⟨ν4, u1, u2, u3, u4⟩ := (hA2.step v3).back (if knA (hrN n (hrZ i (aM μ))) = knA (aM μ) then nI i else bs)
          rw [if_neg (show ¬ (60 : Int32) < nI i by rw [show (60 : Int32) = nI 60 from rfl, nI_ltI (by decide) (by omega)]; omega), g1, Option.bind_some, v1, Option.bind_some, mknowing_eq (H := 80 * k + i + n) (by rw [v2]; exact hbn), Option.bind_some, v2, u1, Option.bind_some, nI_1]
          exact ih ν4 _ (by omega) (by omega) u2 u3
    -- the class
    have cls : ∀ d fu i (τ : Mem) (bs : Int32), i + d = 61 → d < fu → aC 46 τ = hrZ i (aM μ) → FT σ τ → ∃ τ', FT σ τ' ∧ it3 (f_X5_sleep_B40 (nI n) (knA (aM μ))) fu bs (nI i) τ = (if 0 ≤ slp (aM μ) n d i bs then some (slp (aM μ) n d i bs, τ') else ((f_X5_finding (-1000004) τ').bind fun q => some (q.1, q.2))) := by
      intro d
      induction d with
      | zero =>
        intro fu i τ bs hd hf hW hT
        match fu, hf with
        | fu + 1, hf =>
          refine ⟨τ, hT, ?_⟩
          show f_X5_sleep_B40 (nI n) (knA (aM μ)) (it3 (f_X5_sleep_B40 (nI n) (knA (aM μ))) fu) bs (nI i) τ = _
          unfold f_X5_sleep_B40 f_X5_sleep_J97
          rw [if_pos (show (60 : Int32) < nI i from nI_lt (a := 60) (by omega) (by omega))]
          rfl
      | succ d ih =>
        intro fu i τ bs hd hf hW hT
        match fu, hf with
        | fu + 1, hf =>
          have ex : it3 (f_X5_sleep_B40 (nI n) (knA (aM μ))) (fu + 1) bs (nI i) τ = f_X5_sleep_B40 (nI n) (knA (aM μ)) (it3 (f_X5_sleep_B40 (nI n) (knA (aM μ))) fu) bs (nI i) τ := rfl
          rw [ex]
          replace ih := ih fu (i + 1)
          revert ih
          generalize it3 (f_X5_sleep_B40 (nI n) (knA (aM μ))) fu = R
          intro ih
          unfold f_X5_sleep_B40 f_X5_sleep_J84 f_X5_sleep_J97
          have hbz : BD (80 * k + i) (hrZ i (aM μ)) := hI.bd.hrZ i (by omega)
          have hb46 : BD (80 * k + i) (aC 46 τ) := by rw [hW]; exact hbz
          rw [if_neg (show ¬ (60 : Int32) < nI i by rw [show (60 : Int32) = nI 60 from rfl, nI_ltI (by decide) (by omega)]; omega), knowing_eq hb46, Option.bind_some, hW]
          by_cases hk0 : knA (hrZ i (aM μ)) = knA (aM μ)
          · rw [if_pos hk0]
            obtain ⟨τ1, d1, d2, d3⟩ := become_spec (b := 31) (c := 46) (σ := τ) (by unfold isV; omega) (by unfold isV; omega) (by decide) hb46
            rw [hW] at d2
            obtain ⟨v, τ2, s1, s2, s4, s3⟩ := stays_eq (knA (aM μ)) (n := n) d2 hbz (by omega) (by omega)
            have e46 : aC 46 τ2 = hrZ i (aM μ) := by
              rw [← hW]
              exact aC_frame (fun x h1 h2 => by rw [s4 x (by omega), d3 x (by omega)])
            have hb3 : BD (80 * k + i) (aC 46 τ2) := by rw [e46]; exact hbz
            have e47 : aC 46 (vhour 46 0 τ2) = hrZ (i + 1) (aM μ) := by
              rw [aC_hour hb3 (by omega), e46]; rfl
            have ft3 : FT τ2 (vhour 46 0 τ2) := FT_out (Or.inr rfl) (fun x hx => vhour_out (by have := hb3.2.1.1; rw [aC_1] at this; exact this) hx)
            have ft4 : FT σ (vhour 46 0 τ2) := (hT.trans (FT_out (Or.inl rfl) d3)).trans (s2.trans ft3)
            rw [d1, Option.bind_some, s1, Option.bind_some]
            dsimp only
            rw [passShut_eq hb3, Option.bind_some, nI_1]
            have ev : (if v = 0 then bs else nI i) = (if knA (hrN n (hrZ i (aM μ))) = knA (aM μ) then nI i else bs) := by
              rcases s3 with ⟨rfl, hall⟩ | ⟨rfl, t, ht, hne⟩
              · have e : knA (hrN n (hrZ i (aM μ))) = knA (aM μ) := by
                  by_cases h0 : n = 0
                  · rw [h0]; exact hk0
                  · have := hall (n - 1) (by omega)
                    rw [show n - 1 + 1 = n by omega] at this
                    exact this
                rw [if_pos e, if_neg (by decide)]
              · have e : ¬ knA (hrN n (hrZ i (aM μ))) = knA (aM μ) := fun q => by
                  rw [← hk0] at q hne
                  exact hne (kn_stay hbz.2.1.1 q (by omega))
                rw [if_neg e, if_pos rfl]
            rw [ev]
            exact ih _ _ (by omega) (by omega) e47 ft4
          · rw [if_neg hk0, slp_same (d + 1) i bs (kn_lost hm hk0 n)]
            exact ⟨τ, hT, rfl⟩
    obtain ⟨ν', n1, n2, n3⟩ := mdl 61 FU 0 μ1 (-1) (by decide) (by decide) m2 m3
    obtain ⟨τ', q1, q2⟩ := cls 61 FU 0 τ0 (-1) (by decide) (by decide) (by rw [c2, hI.row]; rfl) (FT_out (Or.inr rfl) c3)
    rw [show it3 (f_X5_sleep_B40 (nI n) (knA (aM μ))) FU (-1) 0 τ0 = _ from q2, show it3 (f_X6_sleep_B33 (nI n) (knA (aM μ))) FU (-1) 0 μ1 = _ from n3]
    by_cases h0 : 0 ≤ slp (aM μ) n 61 0 (-1)
    · rw [if_pos h0, if_pos h0]
      exact ⟨_, _, rfl, rfl, rfl, hI.tr q1 n1 n2⟩
    · rw [if_neg h0, if_neg h0]
      exact fndN (hI.tr0 q1 n1 n2)
  · rw [if_neg a1, if_pos a2]; exact fndB hI

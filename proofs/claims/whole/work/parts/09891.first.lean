/-! ===== pure: first, hide, seat, kindFor ===== -/
theorem st_first : ST_first Inv := by
  intro k σ μ hk hI
  show RS k (f_X5_first σ) (f_X6_first μ)
  have hm := hI.m1.2.1
  have hM := hI.m1.2.2
  -- when a watcher comes to know
  let P : Nat → Nat → Bool := fun w i => if (1 : Int32) = 0 then decide (0 ≤ hrN i (aM μ) (27 + 5 * w)) else decide (hrN i (aM μ) (27 + 5 * w) ≤ 0)
  have hP : ∀ w i, w < tn (μ 1 1) → i ≤ 201 → (P w i = true ↔ knB (hrN i (aM μ)) w = true) := by
    intro w i hw hi
    have hb : BD (80 * k + i) (hrN i (aM μ)) := hI.bd.hrN i (by omega)
    have e1 : hrN i (aM μ) 1 = μ 1 1 := by rw [hrN_1, aM_lo μ (by decide)]
    have bb := (hb.2.2.2.2.2.1 w (by rw [e1]; exact hw)).2.1
    have z : hrN i (aM μ) (27 + 5 * w) ≤ 0 ↔ hrN i (aM μ) (27 + 5 * w) = 0 := by
      have := bb.1
      rw [bb.2, show (0 : Int32) = nI 0 from rfl, nI_leI (by omega) (by decide), nI_eq (by omega) (by decide)]
      omega
    show (if (1 : Int32) = 0 then decide (0 ≤ hrN i (aM μ) (27 + 5 * w)) else decide (hrN i (aM μ) (27 + 5 * w) ≤ 0)) = true ↔ decide (hrN i (aM μ) (27 + 5 * w) = 0) = true
    rw [if_neg (by decide), decide_eq_true_eq, decide_eq_true_eq]
    exact z
  -- the class
  have cls : ∀ n fu i (τ : Mem), i + n = 201 → n < fu → aC 31 τ = hrN i (aM μ) → FT σ τ → (∀ t, t < i → ∀ w, w < tn (μ 1 1) → knB (hrN t (aM μ)) w = false) → (∃ t w τ', t ≤ 200 ∧ w < tn (μ 1 1) ∧ knB (hrN t (aM μ)) w = true ∧ (∀ w', w' < w → knB (hrN t (aM μ)) w' = false) ∧ (∀ t', t' < t → ∀ w', w' < tn (μ 1 1) → knB (hrN t' (aM μ)) w' = false) ∧ FT σ τ' ∧ it2 f_X5_first_B13 fu (nI i) τ = some (nI w, τ')) ∨ ((∀ t, t < 201 → ∀ w, w < tn (μ 1 1) → knB (hrN t (aM μ)) w = false) ∧ ∃ τ', FT σ τ' ∧ it2 f_X5_first_B13 fu (nI i) τ = ((f_X5_finding (-1000004) τ').bind fun q => some (q.1, q.2))) := by
    intro n
    induction n with
    | zero =>
      intro fu i τ hi hf hW hT hno
      match fu, hf with
      | fu + 1, hf =>
        refine Or.inr ⟨fun t ht w hw => hno t (by omega) w hw, τ, hT, ?_⟩
        show f_X5_first_B13 (it2 f_X5_first_B13 fu) (nI i) τ = _
        unfold f_X5_first_B13
        rw [if_pos (show (200 : Int32) < nI i from nI_lt (a := 200) (by omega) (by omega))]
    | succ n ih =>
      intro fu i τ hi hf hW hT hno
      match fu, hf with
      | fu + 1, hf =>
        have hb : BD (80 * k + i) (hrN i (aM μ)) := hI.bd.hrN i (by omega)
        have e1 : hrN i (aM μ) 1 = μ 1 1 := by rw [hrN_1, aM_lo μ (by decide)]
        obtain ⟨τ2, r1, r2, r3, -⟩ := passT 1 (Or.inl rfl) hW hb (by omega) (by decide)
        obtain ⟨l1, l2⟩ := setA_low (P := knB (hrN i (aM μ))) (n := tn (μ 1 1)) hm
        have ek : knA (hrN i (aM μ)) = setA (knB (hrN i (aM μ))) (tn (μ 1 1)) := by
          unfold knA
          rw [e1]
        have ex : it2 f_X5_first_B13 (fu + 1) (nI i) τ = f_X5_first_B13 (it2 f_X5_first_B13 fu) (nI i) τ := rfl
        rw [ex]
        replace ih := ih fu (i + 1)
        revert ih
        generalize it2 f_X5_first_B13 fu = R
        intro ih
        unfold f_X5_first_B13
        rw [if_neg (show ¬ (200 : Int32) < nI i by rw [show (200 : Int32) = nI 200 from rfl, nI_ltI (by decide) (by omega)]; omega), knowing_eq (b := 31) (H := 80 * k + i) (by rw [hW]; exact hb), Option.bind_some, hW, ek, show f_X2_pass 31 1 τ = _ from r1, Option.bind_some, nI_1]
        by_cases h0 : setA (knB (hrN i (aM μ))) (tn (μ 1 1)) = 0
        · rw [if_pos h0]
          refine ih τ2 (by omega) (by omega) r2 (hT.trans r3) ?_
          intro t ht w hw
          by_cases e : t = i
          · rw [e]; exact l1 h0 w hw
          · exact hno t (by omega) w hw
        · rw [if_neg h0]
          obtain ⟨w, w1, w2, w3, w4⟩ := l2 h0
          refine Or.inl ⟨i, w, τ, by omega, w1, w2, w3, hno, hT, ?_⟩
          rw [w4]
  obtain ⟨τ1, t1, t2, t3, -⟩ := trial hI (FT.rfl' σ)
  unfold f_X5_first
  rw [t1, Option.bind_some]
  -- one watcher of the reference
  have un : ∀ (ν : Mem) (w : Nat), w < tn (μ 1 1) → aM ν = aM μ → FR μ ν → ∃ ν', f_X6_until (f_X6_place (nI w) 3) 0 1 ν = some (nI (fst (P w) 201 0), ν') ∧ aM ν' = aM μ ∧ FR μ ν' := by
    intro ν w hw hr hfr
    have hI2 : Inv k σ ν := hI.tr0 (FT.rfl' σ) hfr hr
    have p3 : f_X6_place (nI w) 3 = nI (27 + 5 * w) := by
      have := place_nI w 3
      rw [show 24 + 5 * w + 3 = 27 + 5 * w by omega] at this
      exact this
    have e1 : ν 1 1 = μ 1 1 := by
      have := congrFun hr 1
      rw [aM_lo ν (by decide), aM_lo μ (by decide)] at this
      exact this
    obtain ⟨ν', u1, u2, u3, -⟩ := until_eq hI2 hk (j := 27 + 5 * w) (Or.inr (by rw [e1]; omega)) 0 1
    rw [p3, u1, hr]
    exact ⟨ν', rfl, by rw [u3, hr], hfr.trans u2.2⟩
  rcases cls 201 FU 0 τ1 (by decide) (by decide) t2 t3 (fun t ht => by omega) with ⟨t, w0, τ', h200, hw0, hk0, hlow, hbef, hT, hc⟩ | ⟨hno, τ', hT, hc⟩
  · rw [show it2 f_X5_first_B13 FU 0 τ1 = _ from hc]
    have n0 : fst (P w0) 201 0 = t := fst_is (by omega) (by omega) ((hP w0 t hw0 (by omega)).mpr hk0) (fun t' _ h => by
      have := hbef t' h w0 hw0
      cases hq : P w0 t' with
      | false => rfl
      | true => rw [(hP w0 t' hw0 (by omega)).mp hq] at this; exact absurd this (by decide))
    have nge : ∀ w, w < tn (μ 1 1) → t ≤ fst (P w) 201 0 := fun w hw => by
      by_cases q : fst (P w) 201 0 < t
      · have := fst_yes 201 0 (P := P w) (by omega)
        rw [hP w _ hw (by omega), hbef _ q w hw] at this
        exact absurd this (by decide)
      · omega
    have ngt : ∀ w, w < w0 → t < fst (P w) 201 0 := fun w hw => by
      have h1 := nge w (by omega)
      by_cases q : fst (P w) 201 0 = t
      · have := fst_yes 201 0 (P := P w) (by omega)
        rw [hP w _ (by omega) (by omega), q, hlow w hw] at this
        exact absurd this (by decide)
      · omega
    have mdl : ∀ d fu w (ν : Mem) (bs : Int32) (ls : Nat), w + d = tn (μ 1 1) → d < fu → aM ν = aM μ → FR μ ν → ls ≤ 201 → (w ≤ w0 → t < ls) → (w0 < w → bs = nI w0 ∧ ls = t) → RS k (some (nI w0, τ')) (it4 f_X6_first_B8 fu bs (nI ls) (nI w) ν) := by
      intro d
      induction d with
      | zero =>
        intro fu w ν bs ls hd hf hr hfr hls q1 q2
        match fu, hf with
        | fu + 1, hf =>
          show RS k _ (f_X6_first_B8 (it4 f_X6_first_B8 fu) bs (nI ls) (nI w) ν)
          unfold f_X6_first_B8
          have e1 : ν 1 1 = μ 1 1 := by
            have := congrFun hr 1
            rw [aM_lo ν (by decide), aM_lo μ (by decide)] at this
            exact this
          obtain ⟨rfl, -⟩ := q2 (by omega)
          rw [e1, hM, if_pos (nle (by omega) (by omega)), if_pos (nI_pos' (by omega))]
          exact ⟨_, _, rfl, rfl, rfl, hI.tr hT hfr hr⟩
      | succ d ih =>
        intro fu w ν bs ls hd hf hr hfr hls q1 q2
        match fu, hf with
        | fu + 1, hf =>
          show RS k _ (f_X6_first_B8 (it4 f_X6_first_B8 fu) bs (nI ls) (nI w) ν)
          replace ih := ih fu (w + 1)
          revert ih
          generalize it4 f_X6_first_B8 fu = R
          intro ih
          unfold f_X6_first_B8 f_X6_first_J42 f_X6_first_J55
          have e1 : ν 1 1 = μ 1 1 := by
            have := congrFun hr 1
            rw [aM_lo ν (by decide), aM_lo μ (by decide)] at this
            exact this
          obtain ⟨ν', u1, u2, u3⟩ := un ν w (by omega) hr hfr
          have fl := fst_le (P w) 201 0
          rw [e1, if_neg (show ¬ μ 1 1 ≤ nI w by rw [hM]; exact nnle (by omega) (by omega)), u1, Option.bind_some, nI_1]
          dsimp only
          by_cases hle : ls ≤ fst (P w) 201 0
          · rw [if_pos (nle hle (by omega)), if_pos (nle hle (by omega))]
            refine ih ν' bs ls (by omega) (by omega) u2 u3 hls (fun q => q1 (by omega)) (fun q => ?_)
            by_cases e : w = w0
            · subst e
              have := q1 (Nat.le_refl w)
              omega
            · exact q2 (by omega)
          · rw [if_neg (nnle (by omega) (by omega)), if_neg (nnle (by omega) (by omega))]
            refine ih ν' (nI w) (fst (P w) 201 0) (by omega) (by omega) u2 u3 (by omega) (fun q => ?_) (fun q => ?_)
            · exact ngt w (by omega)
            · by_cases e : w = w0
              · subst e
                exact ⟨rfl, n0⟩
              · have h1 := (q2 (by omega)).2
                have h2 := nge w (by omega)
                omega
    unfold f_X6_first
    exact mdl (tn (μ 1 1)) FU 0 μ (-1) 201 (by omega) (show tn (μ 1 1) < 1000 by omega) rfl (FR.rfl' μ) (by omega) (fun _ => by omega) (fun q => by omega)
  · rw [show it2 f_X5_first_B13 FU 0 τ1 = _ from hc]
    have na : ∀ w, w < tn (μ 1 1) → fst (P w) 201 0 = 201 := fun w hw => by
      refine fst_all (i := 0) (n := 201) (fun t' _ h => ?_)
      have := hno t' (by omega) w hw
      cases hq : P w t' with
      | false => rfl
      | true => rw [(hP w t' hw (by omega)).mp hq] at this; exact absurd this (by decide)
    have mdl : ∀ d fu w (ν : Mem), w + d = tn (μ 1 1) → d < fu → aM ν = aM μ → FR μ ν → RS k ((f_X5_finding (-1000004) τ').bind fun q => some (q.1, q.2)) (it4 f_X6_first_B8 fu (-1) 201 (nI w) ν) := by
      intro d
      induction d with
      | zero =>
        intro fu w ν hd hf hr hfr
        match fu, hf with
        | fu + 1, hf =>
          show RS k _ (f_X6_first_B8 (it4 f_X6_first_B8 fu) (-1) 201 (nI w) ν)
          unfold f_X6_first_B8
          have e1 : ν 1 1 = μ 1 1 := by
            have := congrFun hr 1
            rw [aM_lo ν (by decide), aM_lo μ (by decide)] at this
            exact this
          rw [e1, hM, if_pos (nle (by omega) (by omega)), if_neg (by decide)]
          exact fndN (hI.tr0 hT hfr hr)
      | succ d ih =>
        intro fu w ν hd hf hr hfr
        match fu, hf with
        | fu + 1, hf =>
          show RS k _ (f_X6_first_B8 (it4 f_X6_first_B8 fu) (-1) 201 (nI w) ν)
          replace ih := ih fu (w + 1)
          revert ih
          generalize it4 f_X6_first_B8 fu = R
          intro ih
          unfold f_X6_first_B8 f_X6_first_J42 f_X6_first_J55
          have e1 : ν 1 1 = μ 1 1 := by
            have := congrFun hr 1
            rw [aM_lo ν (by decide), aM_lo μ (by decide)] at this
            exact this
          obtain ⟨ν', u1, u2, u3⟩ := un ν w (by omega) hr hfr
          rw [na w (by omega)] at u1
          rw [e1, if_neg (show ¬ μ 1 1 ≤ nI w by rw [hM]; exact nnle (by omega) (by omega)), u1, Option.bind_some, nI_1]
          dsimp only
          rw [if_pos (show (201 : Int32) ≤ nI 201 from Int32.le_refl _), if_pos (show (201 : Int32) ≤ nI 201 from Int32.le_refl _)]
          exact ih ν' (by omega) (by omega) u2 u3
    unfold f_X6_first
    exact mdl (tn (μ 1 1)) FU 0 μ (by omega) (show tn (μ 1 1) < 1000 by omega) rfl (FR.rfl' μ)
theorem st_hide : ST_hide Inv := by
  intro k σ μ x1 x2 hk hI
  show RS k (f_X5_hide x1 x2 σ) (f_X6_hide x1 x2 μ)
  unfold f_X5_hide f_X6_hide f_X6_isOpening f_X6_isSoon
  rcases gd x1 99 (M := 99) (U := 99) rfl rfl (by decide) with ⟨v, hv, rfl, a1, a2⟩ | ⟨a1, a2⟩
  · rw [if_pos a1, if_neg a2]
    rcases gd x2 60 (M := 60) (U := 60) rfl rfl (by decide) with ⟨n, hn, rfl, b1, b2⟩ | ⟨b1, b2⟩
    · rw [if_pos b1, if_neg b2]
      obtain ⟨μ1, m1, m2, m3, -⟩ := aside μ
      rw [m1, Option.bind_some]
      have key : ∀ d fu h (τ ν : Mem) (bs fw : Int32), h + d = 8 → d < fu → FT σ τ → AS μ ν → aM ν = aM μ → RS k (it4 (f_X5_hide_B34 (nI v) (nI n)) fu bs fw (nI h) τ) (it4 (f_X6_hide_B34 (nI v) (nI n)) fu bs fw (nI h) ν) := by
        intro d
        induction d with
        | zero =>
          intro fu h τ ν bs fw hd hf hT hA hr
          match fu, hf with
          | fu + 1, hf =>
            show RS k (f_X5_hide_B34 (nI v) (nI n) (it4 (f_X5_hide_B34 (nI v) (nI n)) fu) bs fw (nI h) τ) (f_X6_hide_B34 (nI v) (nI n) (it4 (f_X6_hide_B34 (nI v) (nI n)) fu) bs fw (nI h) ν)
            unfold f_X5_hide_B34 f_X6_hide_B34
            rw [if_pos (show (8 : Int32) ≤ nI h from nI_le (a := 8) (by omega) (by omega)), if_pos (show (8 : Int32) ≤ nI h from nI_le (a := 8) (by omega) (by omega))]
            exact ⟨_, _, rfl, rfl, rfl, hI.tr hT hA.2 hr⟩
        | succ d ih =>
          intro fu h τ ν bs fw hd hf hT hA hr
          match fu, hf with
          | fu + 1, hf =>
            show RS k (f_X5_hide_B34 (nI v) (nI n) (it4 (f_X5_hide_B34 (nI v) (nI n)) fu) bs fw (nI h) τ) (f_X6_hide_B34 (nI v) (nI n) (it4 (f_X6_hide_B34 (nI v) (nI n)) fu) bs fw (nI h) ν)
            replace ih := ih fu (h + 1)
            revert ih
            generalize it4 (f_X5_hide_B34 (nI v) (nI n)) fu = R5
            generalize it4 (f_X6_hide_B34 (nI v) (nI n)) fu = R6
            intro ih
            unfold f_X5_hide_B34 f_X6_hide_B34 f_X5_hide_J100 f_X6_hide_J82 f_X6_hide_J97
            have h8 : h < 8 := by omega
            obtain ⟨τ1, t1, t2, t3, -⟩ := trial hI hT
            have hb : BD (80 * k) (sU (aM μ) (4 + h) (nI v)) := hI.bd.p h8 (Bn_nI hv (by omega))
            have r5 : aC 31 (mst τ1 35 h (nI v)) = sU (aM μ) (4 + h) (nI v) := by
              rw [show (35 : Nat) = 31 + 4 from rfl, aC_sp h8, t2]
            have r6 : aM (mst ν 1 (4 + h) (nI v)) = sU (aM μ) (4 + h) (nI v) := by
              rw [aM_mst (PL_lo (by omega) (by omega)), hr]
            obtain ⟨τ2, p1, p2, p3, -⟩ := passT n (Or.inl rfl) r5 hb (by omega) (by omega)
            obtain ⟨ν2, g1, g2, g3⟩ := goesOn_open (μ := mst ν 1 (4 + h) (nI v)) n (by rw [r6]; exact hb) (by rw [mst_c (by decide)]; exact hA.shut hI) (by omega) (by omega)
            rw [r6] at g2
            have hb2 : BD (80 * k + n) (hrN n (sU (aM μ) (4 + h) (nI v))) := hb.hrN n (by omega)
            obtain ⟨ν3, u1, u2, u3, u4⟩ := ((hA.row (j := 4 + h) (v := nI v)).step g3).back (f_J6_bitCount_0f7a4 (knA (hrN n (sU (aM μ) (4 + h) (nI v)))))
            have ftS : FT σ (mst τ1 35 h (nI v)) := t3.trans (fun c hc => mst_c (by omega))
            rw [if_neg (show ¬ (8 : Int32) ≤ nI h from nnle h8 (by decide)), if_neg (show ¬ (8 : Int32) ≤ nI h from nnle h8 (by decide)), t1, Option.bind_some, chk_nI h8 (by decide), n4, chk_nI (show 4 + h < 74 by omega) (by decide), nI_clamp (show h < 2 ^ 31 by omega), nI_clamp (show 4 + h < 2 ^ 31 by omega), p1, Option.bind_some, g1, Option.bind_some, knowing_eq (b := 31) (H := 80 * k + n) (by rw [p2]; exact hb2), Option.bind_some, p2, mknowing_eq (H := 80 * k + n) (by rw [g2]; exact hb2), Option.bind_some, g2, ones_eq hb2, Option.bind_some, u1, Option.bind_some, nI_1]
            dsimp only
            by_cases hle : fw ≤ f_J6_bitCount_0f7a4 (knA (hrN n (sU (aM μ) (4 + h) (nI v))))
            · rw [if_pos hle, if_pos hle, if_pos hle]
              exact ih τ2 ν3 bs fw (by omega) (by omega) (ftS.trans p3) u2 u3
            · rw [if_neg hle, if_neg hle, if_neg hle]
              exact ih τ2 ν3 _ _ (by omega) (by omega) (ftS.trans p3) u2 u3
      exact key 8 FU 0 σ μ1 0 9 (by decide) (by decide) (FT.rfl' σ) m2 m3
    · rw [if_neg b1, if_pos b2]; exact fndB hI
  · rw [if_neg a1, if_pos a2]; exact fndB hI
theorem most_eq {k : Nat} {σ μ : Mem} (hI : Inv k σ μ) (hk : k < 512) {w n f top : Nat} (hw : w < tn (μ 1 1)) (hn : n ≤ 60) (hf : f < 5) (ht : top < 100) (e5 : f_X5_mostOf (nI f) = nI top) (e6 : f_X6_most (nI f) = nI top) (h1 : f = 1 → top ≤ 11) (h3 : f ≠ 3) (h4 : f ≠ 4) : RS k ((f_X5_mostBelieving (nI w) (nI f) (nI n) σ).bind fun q => some (q.1, q.2)) ((f_X6_mostBelief (nI w) (nI f) (nI n) μ).bind fun q => some (q.1, q.2)) := by
  rw [bsome, bsome]
  unfold f_X5_mostBelieving f_X6_mostBelief
  have hm := hI.m1.2.1
  have hwa : w < tn (aM μ 1) := by rw [aM_lo μ (by decide)]; exact hw
  obtain ⟨μ1, m1, m2, m3, -⟩ := aside μ
  rw [m1, Option.bind_some]
  have key : ∀ d fu v (τ ν : Mem) (bs ms : Int32), v + d = top + 1 → d < fu → FT σ τ → AS μ ν → aM ν = aM μ → RS k (it4 (f_X5_mostBelieving_B9 (nI w) (nI f) (nI n)) fu bs ms (nI v) τ) (it4 (f_X6_mostBelief_B13 (nI w) (nI f) (nI n)) fu bs ms (nI v) ν) := by
    intro d
    induction d with
    | zero =>
      intro fu v τ ν bs ms hd hf2 hT hA hr
      match fu, hf2 with
      | fu + 1, hf2 =>
        show RS k (f_X5_mostBelieving_B9 (nI w) (nI f) (nI n) (it4 (f_X5_mostBelieving_B9 (nI w) (nI f) (nI n)) fu) bs ms (nI v) τ) (f_X6_mostBelief_B13 (nI w) (nI f) (nI n) (it4 (f_X6_mostBelief_B13 (nI w) (nI f) (nI n)) fu) bs ms (nI v) ν)
        unfold f_X5_mostBelieving_B9 f_X6_mostBelief_B13
        rw [e5, e6, if_pos (nI_lt (by omega) (by omega)), if_pos (nI_lt (by omega) (by omega))]
        exact ⟨_, _, rfl, rfl, rfl, hI.tr hT hA.2 hr⟩
    | succ d ih =>
      intro fu v τ ν bs ms hd hf2 hT hA hr
      match fu, hf2 with
      | fu + 1, hf2 =>
        show RS k (f_X5_mostBelieving_B9 (nI w) (nI f) (nI n) (it4 (f_X5_mostBelieving_B9 (nI w) (nI f) (nI n)) fu) bs ms (nI v) τ) (f_X6_mostBelief_B13 (nI w) (nI f) (nI n) (it4 (f_X6_mostBelief_B13 (nI w) (nI f) (nI n)) fu) bs ms (nI v) ν)
        replace ih := ih fu (v + 1)
        revert ih
        generalize it4 (f_X5_mostBelieving_B9 (nI w) (nI f) (nI n)) fu = R5
        generalize it4 (f_X6_mostBelief_B13 (nI w) (nI f) (nI n)) fu = R6
        intro ih
        unfold f_X5_mostBelieving_B9 f_X6_mostBelief_B13 f_X5_mostBelieving_J82 f_X6_mostBelief_J65 f_X6_mostBelief_J81
        obtain ⟨τ1, t1, t2, t3, -⟩ := trial hI hT
        have hb : BD (80 * k) (sU (aM μ) (24 + 5 * w + f) (nI v)) := hI.bd.w hwa hf (fun q => Bn_nI (by have := h1 q; omega) (by omega)) (fun q => absurd q h3) (fun q => absurd q h4)
        have q3 : τ1 31 3 = μ 1 1 := by
          have := congrFun t2 1
          rw [aC_1, aM_lo μ (by decide)] at this
          exact this
        have r5 : aC 31 (mst τ1 (38 + w) f (nI v)) = sU (aM μ) (24 + 5 * w + f) (nI v) := by
          rw [show 38 + w = 31 + 7 + w by omega, aC_sw (by rw [q3]; exact hw) (by rw [q3]; exact hm) hf, t2]
        have r6 : aM (mst ν 1 (24 + 5 * w + f) (nI v)) = sU (aM μ) (24 + 5 * w + f) (nI v) := by
          rw [aM_mst (by rw [hr]; exact PL_w hwa hI.bd.2.1.1 hf), hr]
        obtain ⟨τ2, p1, p2, p3, -⟩ := passT n (Or.inl rfl) r5 hb (by omega) (by omega)
        obtain ⟨ν2, g1, g2, g3⟩ := goesOn_open (μ := mst ν 1 (24 + 5 * w + f) (nI v)) n (by rw [r6]; exact hb) (by rw [mst_c (by decide)]; exact hA.shut hI) (by omega) (by omega)
        rw [r6] at g2
        have e1 : hrN n (sU (aM μ) (24 + 5 * w + f) (nI v)) 1 = μ 1 1 := by
          rw [hrN_1, sU_ne (by omega), aM_lo μ (by decide)]
        have v5 : τ2 (38 + w) 3 = hrN n (sU (aM μ) (24 + 5 * w + f) (nI v)) (27 + 5 * w) := by
          have := aC_at (b := 31) (τ := τ2) (w := w) (f := 3) (by rw [p2, e1]; exact hw) (by rw [p2, e1]; exact hm) (by decide)
          rw [p2, show 24 + 5 * w + 3 = 27 + 5 * w by omega] at this
          exact this
        have v6 : ν2 1 (27 + 5 * w) = hrN n (sU (aM μ) (24 + 5 * w + f) (nI v)) (27 + 5 * w) := by
          rw [aM_at (μ := ν2) (j := 27 + 5 * w) (Or.inr (by rw [g2, e1]; omega)), g2]
        obtain ⟨ν3, u1, u2, u3, u4⟩ := ((hA.row (j := 24 + 5 * w + f) (v := nI v)).step g3).back (hrN n (sU (aM μ) (24 + 5 * w + f) (nI v)) (27 + 5 * w))
        have ftS : FT σ (mst τ1 (38 + w) f (nI v)) := t3.trans (fun c hc => mst_c (by omega))
        rw [e5, e6, if_neg (nI_nlt (by omega) (by omega)), if_neg (nI_nlt (by omega) (by omega)), t1, Option.bind_some, chk_nI (show w < 8 by omega) (by decide), nI_clamp (show w < 2 ^ 31 by omega), x3set_eq hf, place_nI, chk_nI (show 24 + 5 * w + f < 74 by omega) (by decide), nI_clamp (show 24 + 5 * w + f < 2 ^ 31 by omega), p1, Option.bind_some, chk_nI (show w < 8 by omega) (by decide), v5, g1, Option.bind_some, its3 (show w < 8 by omega), Option.bind_some, v6, u1, Option.bind_some, nI_1]
        dsimp only
        by_cases hle : hrN n (sU (aM μ) (24 + 5 * w + f) (nI v)) (27 + 5 * w) ≤ ms
        · rw [if_pos hle, if_pos hle, if_pos hle]
          exact ih τ2 ν3 bs ms (by omega) (by omega) (ftS.trans p3) u2 u3
        · rw [if_neg hle, if_neg hle, if_neg hle]
          exact ih τ2 ν3 _ _ (by omega) (by omega) (ftS.trans p3) u2 u3
  exact key (top + 1) FU 0 σ μ1 0 (-1) (by omega) (show top + 1 < 1000 by omega) (FT.rfl' σ) m2 m3
theorem st_seat : ST_seat Inv := by
  intro k σ μ x1 x2 hk hI
  show RS k (f_X5_seat x1 x2 σ) (f_X6_seat x1 x2 μ)
  unfold f_X5_seat f_X6_seat
  rcases gT hI x1 x2 with ⟨w, n, hw, hn, rfl, rfl, a1, a2, a3⟩ | ⟨a1, a2⟩
  · rw [if_pos a1, if_neg a2, if_neg a3]
    exact most_eq hI hk (f := 1) (top := 11) hw hn (by decide) (by decide) (by decide) (by decide) (fun _ => by decide) (by decide) (by decide)
  · rw [if_neg a1]
    by_cases h1 : f_X6_isWatcher x1 μ = 0
    · rw [if_pos h1]; exact fndB hI
    · rw [if_neg h1, if_pos (a2.resolve_left h1)]; exact fndB hI
theorem st_kindFor : ST_kindFor Inv := by
  intro k σ μ x1 x2 hk hI
  show RS k (f_X5_kindFor x1 x2 σ) (f_X6_kindFor x1 x2 μ)
  unfold f_X5_kindFor f_X6_kindFor
  rcases gT hI x1 x2 with ⟨w, n, hw, hn, rfl, rfl, a1, a2, a3⟩ | ⟨a1, a2⟩
  · rw [if_pos a1, if_neg a2, if_neg a3]
    exact most_eq hI hk (f := 0) (top := 6) hw hn (by decide) (by decide) (by decide) (by decide) (fun q => absurd q (by decide)) (by decide) (by decide)
  · rw [if_neg a1]
    by_cases h1 : f_X6_isWatcher x1 μ = 0
    · rw [if_pos h1]; exact fndB hI
    · rw [if_neg h1, if_pos (a2.resolve_left h1)]; exact fndB hI

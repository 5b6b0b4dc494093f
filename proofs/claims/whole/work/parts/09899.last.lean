/-! ===== pure: text ===== -/
/-- how a text ends, in both -/
abbrev TX (σ0 μ0 : Mem) (H : Nat) (cl ml : Option (Int32 × Mem)) : Prop := ∃ n σ' r μ', cl = some (n, σ') ∧ ml = some (r, μ') ∧ CFr σ0 σ' ∧ (∀ c, c ≠ 0 → c ≠ 1 → μ' c = μ0 c) ∧ (∀ x, (x < 13 ∨ 18 ≤ x) → μ' 0 x = μ0 0 x) ∧ μ' 0 13 = 0 ∧ ((σ' 71 2 = -1 ∧ r = n ∧ aC 31 σ' = aM μ' ∧ BD H (aM μ')) ∨ (∃ p, p ≤ 120 ∧ σ' 71 2 = nI p ∧ r = -1 - nI p ∧ aM μ' = NV (μ0 3)))
theorem J78_eq {μ0 μ : Mem} {p : Nat} (n : Int32) (hm : MFr μ0 μ) (h14 : μ 0 14 = nI p) : ∃ μ', f_X6_text_J78 n μ = some (-1 - nI p, μ') ∧ (∀ c, c ≠ 0 → c ≠ 1 → μ' c = μ0 c) ∧ (∀ x, (x < 13 ∨ 18 ≤ x) → μ' 0 x = μ0 0 x) ∧ μ' 0 13 = 0 ∧ aM μ' = NV (μ0 3) := by
  obtain ⟨μ1, b1, b2, b3⟩ := putsBack_spec (mst μ 0 17 1)
  unfold f_X6_text_J78 f_X6_text_J83 f_X6_text_J97 cbz
  have e17 : mst μ 0 17 1 0 17 = 1 := by rw [mst_ap, if_pos ⟨rfl, rfl⟩]
  have f17 : mst μ1 0 13 0 0 17 = 1 := by rw [mst_ap, if_neg (by decide), b3 0 (by decide), e17]
  have f14 : mst μ1 0 13 0 0 14 = nI p := by rw [mst_ap, if_neg (by decide), b3 0 (by decide), mst_ap, if_neg (by decide), h14]
  rw [if_pos (Or.inr rfl), e17, if_neg (by decide), b1, Option.bind_some, f17, if_neg (by decide), f14]
  refine ⟨_, rfl, fun c c0 c1 => ?_, fun x hx => ?_, ?_, ?_⟩
  · rw [mst_c c0, b3 c c1, mst_c c0]; exact hm.1 c c0 c1
  · rw [mst_ap, if_neg (by omega), b3 0 (by decide), mst_ap, if_neg (by omega)]; exact hm.2 x (by omega)
  · rw [mst_ap, if_pos ⟨rfl, rfl⟩]
  · have e1 : mst μ1 0 13 0 1 = μ1 1 := mst_c (by decide)
    unfold aM
    rw [e1]
    refine NV_congr (fun i hi => ?_)
    rw [b2 i hi, mst_c (by decide), hm.1 3 (by decide) (by decide)]
theorem text_loop {σ0 μ0 : Mem} {H L : Nat} {B : Nat → Nat} : ∀ d fu gu i (σ μ : Mem) (s e : Nat), L - s ≤ d → d < fu → d < gu → 1 ≤ i → 2 * (i - 1) ≤ s → GD σ0 μ0 H L B σ μ s e → TX σ0 μ0 H (it2 (f_X0_read_B16 31) fu (nI i) σ) ((f_X6_item μ).bind fun q => it2 f_X6_text_B24 gu (nI i) q) := by
  intro d
  induction d with
  | zero =>
    intro fu gu i σ μ s e hd hf hg hi h2i h
    match fu, hf, gu, hg with
    | fu + 1, hf, gu + 1, hg =>
      -- nothing is left: no word
      obtain ⟨σ1, μ1, i1, i2, i3⟩ := item_sim h
      have hL := h.2.2.1.2.2.1
      have hs : s ≤ L := h.2.2.2.1.2.2.2.2.2.1
      rw [i2, Option.bind_some]
      rcases i3 with ⟨s1, e1, g1, hs1⟩ | g1
      · exfalso
        have : s1 ≤ L := g1.2.2.2.1.2.2.2.2.2.1
        omega
      · show TX σ0 μ0 H (f_X0_read_B16 31 (it2 (f_X0_read_B16 31) fu) (nI i) σ) (f_X6_text_B24 (it2 f_X6_text_B24 gu) (nI i) μ1)
        unfold f_X0_read_B16 f_X6_text_B24 f_X6_text_J59
        have hf1 := g1.fault
        have hw1 := g1.wrong
        obtain ⟨c1, c2, p, e', hp, he, q1, q2, q3, q4⟩ := g1
        obtain ⟨μ2, j1, j2, j3, j4, j5⟩ := J78_eq (nI i) c2 q3
        rw [if_neg (show ¬ (120 : Int32) < nI i by rw [show (120 : Int32) = nI 120 from rfl, nI_ltI (by decide) (by omega)]; omega), i1, Option.bind_some, if_neg hf1, if_neg hw1, if_neg hw1, j1]
        exact ⟨_, _, _, _, rfl, rfl, c1, j2, j3, j4, Or.inr ⟨p, hp, q1, rfl, j5⟩⟩
  | succ d ih =>
    intro fu gu i σ μ s e hd hf hg hi h2i h
    match fu, hf, gu, hg with
    | fu + 1, hf, gu + 1, hg =>
      obtain ⟨σ1, μ1, i1, i2, i3⟩ := item_sim h
      have hL := h.2.2.1.2.2.1
      have hs : s ≤ L := h.2.2.2.1.2.2.2.2.2.1
      rw [i2, Option.bind_some]
      show TX σ0 μ0 H (f_X0_read_B16 31 (it2 (f_X0_read_B16 31) fu) (nI i) σ) (f_X6_text_B24 (it2 f_X6_text_B24 gu) (nI i) μ1)
      replace ih := ih fu gu (i + 1)
      revert ih
      generalize it2 (f_X0_read_B16 31) fu = R5
      generalize it2 f_X6_text_B24 gu = R6
      intro ih
      have n120 : ¬ (120 : Int32) < nI i := by
        rw [show (120 : Int32) = nI 120 from rfl, nI_ltI (by decide) (by omega)]; omega
      rcases i3 with ⟨s1, e1, g1, hs1⟩ | g1
      · obtain ⟨σ2, μ2, s2, e2, a1, a2, a3, a4, a5, -⟩ := g1.adv
        have hb := g1.bad
        have g0 := g1
        obtain ⟨h1, h2, h3, h4, h5, h6, h7, h8⟩ := g1
        have hle := h4.le
        have hs1L : s1 ≤ L := h4.2.2.2.2.2.1
        have hkb := kdT_b L B s1
        have ek : ∀ j, j ≤ 4 → (σ1 71 3 = nI j ↔ kdT L B s1 = j) := fun j hj => by
          rw [h4.2.2.1, nI_eq (by omega) (by omega)]
        have ek0 : σ1 71 3 = 0 ↔ kdT L B s1 = 0 := ek 0 (by decide)
        have ek3 : σ1 71 3 = 3 ↔ kdT L B s1 = 3 := ek 3 (by decide)
        unfold f_X0_read_B16 f_X6_text_B24
        rw [if_neg n120, i1, Option.bind_some, if_pos (hasFault_no h5), if_pos h6, h4.2.2.2.1, byteAt_eq h3 hs1L, Option.bind_some, a1, Option.bind_some, must1 h6, a2, Option.bind_some, nI_1]
        by_cases k3 : kdT L B s1 = 3
        · -- a sign: another item
          have hs1l : s1 < L := by
            by_cases q : s1 < L
            · exact q
            · unfold kdT at k3
              rw [if_neg q] at k3
              exact absurd k3 (by decide)
          have b59 : B s1 = 59 := by
            unfold kdT at k3
            rw [if_pos hs1l] at k3
            unfold cdB at k3
            by_cases x1 : 97 ≤ B s1 ∧ B s1 ≤ 122
            · rw [if_pos x1] at k3; exact absurd k3 (by decide)
            · rw [if_neg x1] at k3
              by_cases x2 : 48 ≤ B s1 ∧ B s1 ≤ 57
              · rw [if_pos x2] at k3; exact absurd k3 (by decide)
              · rw [if_neg x2] at k3
                by_cases x3 : B s1 = 59
                · exact x3
                · rw [if_neg x3] at k3; exact absurd k3 (by decide)
          have hse1 := h4.2.2.2.2.2.2.2.1 hs1l
          have hs2 : s2 ≤ L := a3.2.2.2.1.2.2.2.2.2.1
          rw [if_neg (fun q => by have := ek0.mp q; omega), if_pos (ek3.mpr k3), if_pos (by rw [if_pos hs1l, b59]; rfl)]
          exact ih σ2 μ2 s2 e2 (by omega) (by omega) (by omega) (by omega) (by omega) a3
        · have n59 : ¬ (if s1 < L then nI (B s1) else -1) = 59 := by
            by_cases q : s1 < L
            · rw [if_pos q]
              intro q2
              have hB := h3.b s1 q
              have : B s1 = 59 := (nI_eq (b := 59) (by omega) (by decide)).mp q2
              refine k3 ?_
              unfold kdT
              rw [if_pos q, this]
              decide
            · rw [if_neg q]; decide
          rw [if_neg n59]
          unfold f_X6_text_J59
          rw [if_pos h6, h3.2.1, h4.2.2.2.1]
          by_cases k0 : kdT L B s1 = 0
          · -- the end
            have hs1l : ¬ s1 < L := by
              intro q
              unfold kdT at k0
              rw [if_pos q] at k0
              have := cdB_b (B s1)
              omega
            rw [if_pos (ek0.mpr k0), if_pos (nle (by omega) (by omega))]
            unfold f_X6_text_J83 f_X6_text_J97 cbz
            have e13 : mst μ1 0 13 0 0 17 = 0 := by rw [mst_ap, if_neg (by decide)]; exact h6
            rw [if_pos (Or.inl rfl), mst_same h6, if_pos h6, e13, if_pos rfl]
            have rr : aM (mst μ1 0 13 0) = aM μ1 := aM_frame (mst_c (by decide))
            refine ⟨_, _, _, _, rfl, rfl, h1, fun c c0 c1 => ?_, fun x hx => ?_, ?_, Or.inl ⟨h5, rfl, ?_, ?_⟩⟩
            · rw [mst_c c0]; exact h2.1 c c0 c1
            · rw [mst_ap, if_neg (by omega)]; exact h2.2 x (by omega)
            · rw [mst_ap, if_pos ⟨rfl, rfl⟩]
            · rw [rr]; exact h7
            · rw [rr]; exact h8
          · have hs1l : s1 < L := by
              by_cases q : s1 < L
              · exact q
              · refine absurd ?_ k0
                unfold kdT
                rw [if_neg q]
            rw [if_neg (fun q => k0 (ek0.mp q)), if_neg (fun q => k3 (ek3.mp q)), if_neg (nnle hs1l (by omega))]
            obtain ⟨μ3, j1, j2, j3, j4, j5⟩ := J78_eq (nI i) h2 h4.2.2.2.1
            rw [j1]
            refine ⟨_, _, _, _, rfl, rfl, hb.1, j2, j3, j4, Or.inr ⟨s1, by omega, ?_, rfl, j5⟩⟩
            unfold f_X0_faultHere
            rw [mst_ap, if_pos ⟨rfl, rfl⟩]
            exact h4.1
      · unfold f_X0_read_B16 f_X6_text_B24 f_X6_text_J59
        have hf1 := g1.fault
        have hw1 := g1.wrong
        obtain ⟨c1, c2, p, e', hp, he, q1, q2, q3, q4⟩ := g1
        obtain ⟨μ2, j1, j2, j3, j4, j5⟩ := J78_eq (nI i) c2 q3
        rw [if_neg n120, i1, Option.bind_some, if_neg hf1, if_neg hw1, if_neg hw1, j1]
        exact ⟨_, _, _, _, rfl, rfl, c1, j2, j3, j4, Or.inr ⟨p, hp, q1, rfl, j5⟩⟩
theorem Inv.tx {k : Nat} {σ μ σ' μ' : Mem} (h : Inv k σ μ) (hc : ∀ c, (c = 0 ∨ (16 ≤ c ∧ c < 31) ∨ (62 ≤ c ∧ c ≠ 71)) → σ' c = σ c) (h71 : σ' 71 1 = 0) (hm : ∀ c, (c = 2 ∨ c = 5 ∨ (8 ≤ c ∧ c ≤ 11)) → μ' c = μ c) (h0 : ∀ x, x < 13 → μ' 0 x = μ 0 x) (h13 : μ' 0 13 = 0) (hr : aC 1 σ' = aM μ') (hb : BD (80 * (k + 1)) (aM μ')) : Inv (k + 1) σ' μ' := by
  have e5 : μ' 0 5 = μ 0 5 := h0 5 (by decide)
  refine ⟨hr, hb, ?_, ?_, ?_, ?_, ?_, ?_, ?_, ?_, ?_, ?_⟩
  · rw [hc 0 (by omega), e5]; exact h.kp
  · rw [e5, hm 2 (by omega), aC_frame (σ' := σ') (σ := σ) (b := 16) (fun x h1 h2 => hc x (by omega))]
    intro hk
    exact ⟨(h.kept hk).1, (h.kept hk).2.up (by omega)⟩
  · intro i hi
    rw [hc 73 (by omega), hm 5 (by omega)]; exact h.fn i hi
  · rw [h71, h13]
  · rw [h13]; exact Bn_0 120
  · intro i hi
    rw [h13] at hi
    exact absurd hi (by rw [show tn 0 = 0 from rfl]; omega)
  · intro s hs
    rw [hc _ (by omega), hm 9 (by omega)]; exact h.sb s hs
  · intro s hs
    rw [hc _ (by omega), hm 10 (by omega)]; exact h.sz s hs
  · intro s hs i hi
    rw [hc _ (by omega), hm 11 (by omega)]; exact h.sn s hs i hi
  · rw [h0 6 (by decide)]; exact h.shut
theorem st_text : ST_text Inv := by
  intro k σ μ hk hI
  show RS k (f_X5_text σ) (f_X6_text μ)
  obtain ⟨τ0, t1, t2, t3, t4⟩ := trial hI (FT.rfl' σ)
  obtain ⟨μ1, v1, v2, v3⟩ := saves_spec μ
  unfold f_X5_text f_X6_text f_X0_read
  rw [t1, Option.bind_some, v1, Option.bind_some]
  -- the tape
  have hL := hI.lenB.1
  have hT : TPR (mst (mst τ0 71 2 (-1)) 71 5 0) (mst (mst μ1 0 17 0) 0 15 0) (tn (μ 0 13)) (fun i => tn (μ 8 i)) := by
    refine ⟨?_, ?_, hL, fun i hi => ?_⟩
    · rw [mst_ap, if_neg (by decide), mst_ap, if_neg (by decide), t3 71 (by omega), hI.len]; exact hI.lenB.2
    · rw [mst_ap, if_neg (by decide), mst_ap, if_neg (by decide), v3 0 (by decide)]; exact hI.lenB.2
    · obtain ⟨p1, p2⟩ := hI.tape i hi
      rw [mst_c (c := 71) (c' := 72) (by decide), mst_c (c := 71) (c' := 72) (by decide), t3 72 (by omega), p1, mst_c (c := 0) (c' := 8) (by decide), mst_c (c := 0) (c' := 8) (by decide), v3 8 (by decide)]
      exact ⟨p2.2, p2.2, p2.1⟩
  obtain ⟨σ2, μ2, s, e, a1, a2, a3, a4, a5, a6⟩ := adv_sim (e := 0) hT (by rw [mst_ap, if_pos ⟨rfl, rfl⟩]; rfl) (by rw [mst_ap, if_pos ⟨rfl, rfl⟩]; rfl) (by omega)
  rw [a1, a2, Option.bind_some, Option.bind_some]
  have rm : aM μ2 = aM μ := by
    rw [aM_frame (a4.1 1 (by decide)), aM_frame (μ := μ1) (by rw [mst_c (by decide), mst_c (by decide)]), aM_frame (v3 1 (by decide))]
  have g : GD τ0 μ1 (80 * k) (tn (μ 0 13)) (fun i => tn (μ 8 i)) σ2 μ2 s e := by
    refine ⟨fun c hc h71 => ?_, ⟨fun c c0 c1 => ?_, fun x hx => ?_⟩, hT.fr a3 a4, a5, ?_, ?_, ?_, by rw [rm]; exact hI.bd⟩
    · rw [a3.1 c h71, mst_c h71, mst_c h71]
    · rw [a4.1 c c0, mst_c c0, mst_c c0]
    · rw [a4.2 x (by omega) (by omega), mst_ap, if_neg (by omega), mst_ap, if_neg (by omega)]
    · rw [a3.2.2, mst_ap, if_neg (by decide), mst_ap, if_pos ⟨rfl, rfl⟩]
    · rw [a4.2 17 (by decide) (by decide), mst_ap, if_neg (by decide), mst_ap, if_pos ⟨rfl, rfl⟩]
    · rw [rm, ← t2]
      exact aC_frame (fun x x1 x2 => by rw [a3.1 x (by omega), mst_c (by omega), mst_c (by omega)])
  obtain ⟨n, σ', r, μ', c1, m1, q1, q2, q3, q4, q5⟩ := text_loop (tn (μ 0 13)) FU FU 1 σ2 μ2 s e (by omega) (show tn (μ 0 13) < 1000 by omega) (show tn (μ 0 13) < 1000 by omega) (by decide) (by omega) g
  rw [show it2 (f_X0_read_B16 31) FU 1 σ2 = _ from c1, show ((f_X6_item μ2).bind fun q_5 => it2 f_X6_text_B24 FU 1 q_5) = _ from m1, Option.bind_some]
  dsimp only
  have fm : ∀ c, (c = 2 ∨ c = 5 ∨ (8 ≤ c ∧ c ≤ 11)) → μ' c = μ c := fun c hc => by
    rw [q2 c (by omega) (by omega), v3 c (by omega)]
  have f0 : ∀ x, x < 13 → μ' 0 x = μ 0 x := fun x hx => by
    rw [q3 x (Or.inl hx), v3 0 (by decide)]
  have fc : ∀ c, (c < 31 ∨ 62 ≤ c) → c ≠ 71 → mst σ' 71 1 0 c = σ c := fun c hc h71 => by
    rw [mst_c h71, q1 c (by omega) h71, t3 c hc]
  have e2 : mst σ' 71 1 0 71 2 = σ' 71 2 := by rw [mst_ap, if_neg (by decide)]
  rcases q5 with ⟨p1, rfl, p3, p4⟩ | ⟨p, hp, p1, rfl, p3⟩
  · rw [if_pos (hasFault_no (e2.trans p1))]
    have r31 : aC 31 (mst σ' 71 1 0) = aM μ' := by
      rw [← p3]
      exact aC_frame (fun x x1 x2 => mst_c (by omega))
    obtain ⟨σ3, d1, d2, d3⟩ := become_spec (b := 1) (c := 31) (σ := mst σ' 71 1 0) (H := 80 * k) (by unfold isV; omega) (by unfold isV; omega) (by decide) (by rw [r31]; exact p4)
    rw [d1, Option.bind_some]
    refine ⟨_, _, rfl, rfl, rfl, hI.tx (fun c hc => ?_) ?_ fm f0 q4 (by rw [d2, r31]) (p4.up (by omega))⟩
    · show σ3 c = σ c
      rw [d3 c (by omega), fc c (by omega) (by omega)]
    · show σ3 71 1 = 0
      rw [d3 71 (by omega), mst_ap, if_pos ⟨rfl, rfl⟩]
  · have hf : ¬ f_X0_hasFault (mst σ' 71 1 0) = 0 := by
      unfold f_X0_hasFault
      rw [e2, p1, if_neg]
      · decide
      · intro q
        have := congrArg Int32.toInt q
        rw [nI_toInt (by omega), show (-1 : Int32).toInt = -1 from rfl] at this
        omega
    have rb : aM μ' = aM μ := by
      rw [p3]
      exact NV_congr (fun i hi => v2 i hi)
    rw [if_neg hf]
    refine ⟨_, _, rfl, rfl, ?_, hI.tx (fun c hc => fc c (by omega) (by omega)) ?_ fm f0 q4 ?_ ?_⟩
    · show -1 - mst σ' 71 1 0 71 2 = -1 - nI p
      rw [e2, p1]
    · show mst σ' 71 1 0 71 1 = 0
      rw [mst_ap, if_pos ⟨rfl, rfl⟩]
    · show aC 1 (mst σ' 71 1 0) = aM μ'
      rw [rb, ← hI.row]
      exact aC_frame (fun x x1 x2 => fc x (by omega) (by omega))
    · show BD _ (aM μ')
      rw [rb]
      exact hI.bd.up (by omega)

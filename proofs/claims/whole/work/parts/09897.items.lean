/-! ===== pure: the items of a text ===== -/
def CFr (σ0 σ : Mem) : Prop := ∀ c, (c < 31 ∨ 46 ≤ c) → c ≠ 71 → σ c = σ0 c
def MFr (μ0 μ : Mem) : Prop := (∀ c, c ≠ 0 → c ≠ 1 → μ c = μ0 c) ∧ (∀ x, (x < 14 ∨ 18 ≤ x) → μ 0 x = μ0 0 x)
/-- all is well so far -/
abbrev GD (σ0 μ0 : Mem) (H L : Nat) (B : Nat → Nat) (σ μ : Mem) (s e : Nat) : Prop := CFr σ0 σ ∧ MFr μ0 μ ∧ TPR σ μ L B ∧ TS L B σ μ s e ∧ σ 71 2 = -1 ∧ μ 0 17 = 0 ∧ aC 31 σ = aM μ ∧ BD H (aM μ)
/-- a fault -/
abbrev BX (σ0 μ0 : Mem) (σ μ : Mem) : Prop := CFr σ0 σ ∧ MFr μ0 μ ∧ ∃ p e, p ≤ 120 ∧ e ≤ 120 ∧ σ 71 2 = nI p ∧ μ 0 17 = 1 ∧ μ 0 14 = nI p ∧ μ 0 15 = nI e
theorem mst_same {μ : Mem} {c k : Nat} {v : Int32} (h : μ c k = v) : mst μ c k v = μ := by
  funext c' k'
  rw [mst_ap]
  by_cases q : c' = c ∧ k' = k
  · rw [if_pos q, q.1, q.2, h]
  · rw [if_neg q]
theorem bid {A : Type} (o : Option A) : (o.bind fun q => some q) = o := by cases o <;> rfl
theorem must1 {μ : Mem} (h : μ 0 17 = 0) : f_X6_must 1 μ = f_X6_token μ := by
  unfold f_X6_must f_X6_must_J17 cbz
  rw [if_pos h, if_neg (by decide), if_pos (Or.inl rfl), mst_same h, if_pos h, bid]
theorem must0 {μ : Mem} (h : μ 0 17 = 0) : f_X6_must 0 μ = some (mst μ 0 17 1) := by
  unfold f_X6_must f_X6_must_J12 f_X6_must_J17 cbz
  have e : mst μ 0 17 1 0 17 = 1 := by rw [mst_ap, if_pos ⟨rfl, rfl⟩]
  rw [if_pos h, if_pos rfl, if_pos (Or.inr rfl), e, if_neg (by decide)]
variable {σ0 μ0 : Mem} {H L : Nat} {B : Nat → Nat}
theorem GD.adv {σ μ : Mem} {s e : Nat} (h : GD σ0 μ0 H L B σ μ s e) : ∃ σ' μ' s' e', f_X0_advance σ = some σ' ∧ f_X6_token μ = some μ' ∧ GD σ0 μ0 H L B σ' μ' s' e' ∧ e ≤ s' ∧ aM μ' = aM μ ∧ μ' 0 16 = μ 0 16 := by
  obtain ⟨h1, h2, h3, h4, h5, h6, h7, h8⟩ := h
  obtain ⟨σ', μ', s', e', a1, a2, a3, a4, a5, a6⟩ := adv_sim h3 h4.2.1 h4.2.2.2.2.1 h4.2.2.2.2.2.2.1
  have r6 : aM μ' = aM μ := aM_frame (a4.1 1 (by decide))
  refine ⟨σ', μ', s', e', a1, a2, ⟨?_, ⟨?_, ?_⟩, h3.fr a3 a4, a5, ?_, ?_, ?_, ?_⟩, a6, r6, a4.2 16 (by decide) (by decide)⟩
  · intro c hc h71
    rw [a3.1 c h71]; exact h1 c hc h71
  · intro c c0 c1
    rw [a4.1 c c0]; exact h2.1 c c0 c1
  · intro x hx
    rw [a4.2 x (by omega) (by omega)]; exact h2.2 x hx
  · rw [a3.2.2]; exact h5
  · rw [a4.2 17 (by decide) (by decide)]; exact h6
  · rw [r6, ← h7]
    exact aC_frame (fun x x1 x2 => a3.1 x (by omega))
  · rw [r6]; exact h8
theorem GD.bad {σ μ : Mem} {s e : Nat} (h : GD σ0 μ0 H L B σ μ s e) : BX σ0 μ0 (f_X0_faultHere σ) (mst μ 0 17 1) := by
  obtain ⟨h1, h2, h3, h4, h5, h6, h7, h8⟩ := h
  obtain ⟨t1, t2, t3, t4, t5, t6, t7, t8⟩ := h4
  have hL := h3.2.2.1
  unfold f_X0_faultHere
  refine ⟨fun c hc h71 => ?_, ⟨fun c c0 c1 => ?_, fun x hx => ?_⟩, s, e, by omega, by omega, ?_, ?_, ?_, ?_⟩
  · rw [mst_c h71]; exact h1 c hc h71
  · rw [mst_c c0]; exact h2.1 c c0 c1
  · rw [mst_ap, if_neg (by omega)]; exact h2.2 x hx
  · rw [mst_ap, if_pos ⟨rfl, rfl⟩]; exact t1
  · rw [mst_ap, if_pos ⟨rfl, rfl⟩]
  · rw [mst_ap, if_neg (by decide)]; exact t4
  · rw [mst_ap, if_neg (by decide)]; exact t5
theorem GD.v16 {σ μ : Mem} {s e : Nat} (h : GD σ0 μ0 H L B σ μ s e) (v : Int32) : GD σ0 μ0 H L B σ (mst μ 0 16 v) s e := by
  obtain ⟨h1, h2, h3, h4, h5, h6, h7, h8⟩ := h
  obtain ⟨t1, t2, t3, t4, t5, t6⟩ := h4
  obtain ⟨p1, p2, p3, p4⟩ := h3
  have r6 : aM (mst μ 0 16 v) = aM μ := aM_frame (mst_c (by decide))
  refine ⟨h1, ⟨fun c c0 c1 => ?_, fun x hx => ?_⟩, ⟨p1, ?_, p3, ?_⟩, ⟨t1, t2, t3, ?_, ?_, t6⟩, h5, ?_, by rw [r6]; exact h7, by rw [r6]; exact h8⟩
  · rw [mst_c c0]; exact h2.1 c c0 c1
  · rw [mst_ap, if_neg (by omega)]; exact h2.2 x hx
  · rw [mst_ap, if_neg (by decide)]; exact p2
  · rw [mst_c (by decide)]; exact p4
  · rw [mst_ap, if_neg (by decide)]; exact t4
  · rw [mst_ap, if_neg (by decide)]; exact t5
  · rw [mst_ap, if_neg (by decide)]; exact h6
/-- the row of both changed at once -/
theorem GD.row {σ μ σ' μ' : Mem} {s e : Nat} (h : GD σ0 μ0 H L B σ μ s e) (hc : ∀ c, (c < 31 ∨ 46 ≤ c) → σ' c = σ c) (hm : ∀ c, c ≠ 1 → μ' c = μ c) (hr : aC 31 σ' = aM μ') (hb : BD H (aM μ')) : GD σ0 μ0 H L B σ' μ' s e := by
  obtain ⟨h1, h2, h3, h4, h5, h6, h7, h8⟩ := h
  have e71 : σ' 71 = σ 71 := hc 71 (by omega)
  have e72 : σ' 72 = σ 72 := hc 72 (by omega)
  have e0 : μ' 0 = μ 0 := hm 0 (by decide)
  have e8 : μ' 8 = μ 8 := hm 8 (by decide)
  refine ⟨fun c hcc h71 => by rw [hc c hcc]; exact h1 c hcc h71, ⟨fun c c0 c1 => by rw [hm c c1]; exact h2.1 c c0 c1, fun x hx => by rw [e0]; exact h2.2 x hx⟩, ?_, ?_, by rw [e71]; exact h5, by rw [e0]; exact h6, hr, hb⟩
  · unfold TPR
    rw [e71, e72, e0, e8]; exact h3
  · unfold TS
    rw [e71, e0]; exact h4
theorem BX.row {σ μ σ' μ' : Mem} (h : BX σ0 μ0 σ μ) (hc : ∀ c, (c < 31 ∨ 46 ≤ c) → σ' c = σ c) (hm : ∀ c, c ≠ 1 → μ' c = μ c) : BX σ0 μ0 σ' μ' := by
  obtain ⟨h1, h2, p, e, h3⟩ := h
  have e71 : σ' 71 = σ 71 := hc 71 (by omega)
  have e0 : μ' 0 = μ 0 := hm 0 (by decide)
  refine ⟨fun c hcc h71 => by rw [hc c hcc]; exact h1 c hcc h71, ⟨fun c c0 c1 => by rw [hm c c1]; exact h2.1 c c0 c1, fun x hx => by rw [e0]; exact h2.2 x hx⟩, p, e, ?_⟩
  rw [e71, e0]; exact h3
theorem hasFault_no {σ : Mem} (h : σ 71 2 = -1) : f_X0_hasFault σ = 0 := by
  unfold f_X0_hasFault
  rw [if_pos h]
theorem BX.fault {σ μ : Mem} (h : BX σ0 μ0 σ μ) : ¬ f_X0_hasFault σ = 0 := by
  obtain ⟨-, -, p, e, hp, he, h1, -⟩ := h
  unfold f_X0_hasFault
  rw [h1, if_neg]
  · decide
  · intro q
    have := congrArg Int32.toInt q
    rw [nI_toInt (by omega), show (-1 : Int32).toInt = -1 from rfl] at this
    omega
theorem BX.wrong {σ μ : Mem} (h : BX σ0 μ0 σ μ) : ¬ μ 0 17 = 0 := by
  obtain ⟨-, -, p, e, hp, he, h1, h2, -⟩ := h
  rw [h2]; decide
theorem BX.word {σ μ : Mem} (h : BX σ0 μ0 σ μ) : f_X6_word μ = some 0 := by
  have hw := h.wrong
  obtain ⟨-, -, p, e, hp, he, h1, h2, h3, h4⟩ := h
  exact word_bad h3 h4 hw hp he
theorem BX.number {σ μ : Mem} (h : BX σ0 μ0 σ μ) (x1 x2 : Int32) : f_X6_number x1 x2 μ = some μ := by
  unfold f_X6_number
  rw [if_neg h.wrong]
theorem num_sim {σ μ : Mem} {s e hi : Nat} (h : GD σ0 μ0 H L B σ μ s e) (hh : hi ≤ 9999) : (∃ v σ' μ' s' e', v ≤ hi ∧ f_X0_takeNumber (nI hi) σ = some (nI v, σ') ∧ f_X6_number 0 (nI hi) μ = some μ' ∧ μ' 0 16 = nI v ∧ GD σ0 μ0 H L B σ' μ' s' e' ∧ e ≤ s' ∧ aM μ' = aM μ) ∨ (∃ σ' μ', f_X0_takeNumber (nI hi) σ = some (0, σ') ∧ f_X6_number 0 (nI hi) μ = some μ' ∧ BX σ0 μ0 σ' μ') := by
  have h0 := h
  obtain ⟨h1, h2, h3, h4, h5, h6, h7, h8⟩ := h
  obtain ⟨v, m1, m2⟩ := mnumber_eq h3 h4 h6 0 (nI hi)
  have hkb := kdT_b L B s
  have ek : σ 71 3 = 2 ↔ kdT L B s = 2 := by
    rw [h4.2.2.1, show (2 : Int32) = nI 2 from rfl, nI_eq (by omega) (by decide)]
  have g16 := h0.v16 v
  have b17 : mst μ 0 16 v 0 17 = 0 := g16.2.2.2.2.2.1
  rw [m1]
  unfold f_X0_takeNumber f_X0_takeNumber_J18 f_X6_number_J79
  rw [bid, bid, must0 b17, must1 b17]
  by_cases hk : kdT L B s = 2
  · rw [if_pos (ek.mpr hk), numberHere_eq h3 h4 hk, Option.bind_some, if_neg (fun q => ((digitAt h3.b s).mp q) hk)]
    have hsL : s < L := by
      by_cases q : s < L
      · exact q
      · unfold kdT at hk
        rw [if_neg q] at hk
        exact absurd hk (by decide)
    have hse := h4.2.2.2.2.2.2.2.1 hsL
    have hB : ∀ i, i < e - s → 48 ≤ B (s + i) ∧ B (s + i) ≤ 57 := fun i hi => digit_rng (h4.2.2.2.2.2.2.2.2.2.2 hk (s + i) (by omega) (by omega))
    obtain ⟨n1, n2⟩ := nCM (e - s) hB
    have nc := nC_le B s (e - s)
    rw [m2 hk]
    have gi := in_iff (nI (nuM B s (e - s))) (0 : Int32).toInt64 (nI hi).toInt64
    rw [Int32.toInt_toInt64, Int32.toInt_toInt64, nI_toInt (by omega), nI_toInt (by omega), show (0 : Int32).toInt = 0 from rfl] at gi
    by_cases hle : nuM B s (e - s) ≤ hi
    · have ec : nuC B s (e - s) = nuM B s (e - s) := by omega
      rw [ec, if_pos (nI_le hle (by omega)), if_neg (fun q => (gi.mp q) (by omega))]
      rw [m2 hk] at g16
      obtain ⟨σ', μ', s', e', a1, a2, a3, a4, a5, a6⟩ := g16.adv
      rw [a1, a2, Option.bind_some]
      refine Or.inl ⟨nuM B s (e - s), σ', μ', s', e', hle, rfl, rfl, ?_, a3, a4, ?_⟩
      · rw [a6, mst_ap, if_pos ⟨rfl, rfl⟩]
      · rw [a5]; exact aM_frame (mst_c (by decide))
    · rw [if_neg (nI_ge (by omega) (by omega)), if_pos (gi.mpr (by omega))]
      rw [m2 hk] at g16
      exact Or.inr ⟨_, _, rfl, rfl, g16.bad⟩
  · rw [if_neg (fun q => hk (ek.mp q)), if_pos ((digitAt h3.b s).mpr hk), if_neg (show ¬ (10000 : Int32) ≤ nI hi from nI_ge (b := 10000) (by omega) (by decide))]
    exact Or.inr ⟨_, _, rfl, rfl, g16.bad⟩
/-- a word is there, in both -/
theorem lgw {W : Prop} [Decidable W] {V z : Nat} (hV : V < 2 ^ 61) (hz : z < 13) : lg_cmp (if W then lN V else 0) (lN (cWn z)) = 0 ↔ W ∧ V = cWn z := by
  obtain ⟨c1, c2, c3⟩ := cWn_val z hz
  rw [lg_cmp_eq]
  by_cases hw : W
  · rw [if_pos hw, pk_lEQ (by omega) (by omega)]
    exact ⟨fun q => ⟨hw, q⟩, fun q => q.2⟩
  · rw [if_neg hw, show (0 : Int64) = lN 0 from rfl, pk_lEQ (by decide) (by omega)]
    have hne : cWn z ≠ 0 := by
      have : ∀ z, z < 13 → cWn z ≠ 0 := by decide
      exact this z hz
    exact ⟨fun q => absurd q.symm hne, fun q => absurd q.1 hw⟩
theorem capV_ok {σ μ : Mem} {s e : Nat} (h4 : TS L B σ μ s e) (hk : kdT L B s = 1) : capV B s (e - s) < 2 ^ 61 := capV_bd (fun i hi => letter_rng (h4.2.2.2.2.2.2.2.2.2.1 hk (s + i) (by omega) (by omega)))
theorem lgw' {σ μ : Mem} {s e z : Nat} (h4 : TS L B σ μ s e) (hz : z < 13) : lg_cmp (if kdT L B s = 1 then lN (capV B s (e - s)) else 0) (lN (cWn z)) = 0 ↔ (kdT L B s = 1 ∧ capV B s (e - s) = cWn z) := by
  by_cases hk : kdT L B s = 1
  · exact lgw (capV_ok h4 hk) hz
  · rw [if_neg hk]
    have := lgw (W := False) (V := 0) (z := z) (by decide) hz
    rw [if_neg (fun q => q)] at this
    exact ⟨fun q => absurd (this.mp q).1 id, fun q => absurd q.1 hk⟩
theorem takes_no {σ μ : Mem} {s e z : Nat} (h : GD σ0 μ0 H L B σ μ s e) (hz : z < 13) (hw : ¬ (kdT L B s = 1 ∧ capV B s (e - s) = cWn z)) : f_X0_takes z σ = some (0, σ) := by
  unfold f_X0_takes cbz
  rw [isWord_eq h.2.2.1 h.2.2.2.1 hz, Option.bind_some, if_neg hw, if_pos rfl, if_pos (Or.inl rfl)]
theorem takes_yes {σ μ σ' : Mem} {s e z : Nat} (h : GD σ0 μ0 H L B σ μ s e) (hz : z < 13) (hw : kdT L B s = 1 ∧ capV B s (e - s) = cWn z) (ha : f_X0_advance σ = some σ') : f_X0_takes z σ = some (1, σ') := by
  unfold f_X0_takes cbz
  rw [isWord_eq h.2.2.1 h.2.2.2.1 hz, Option.bind_some, if_pos hw, if_neg (by decide), ha, Option.bind_some, if_pos (Or.inr rfl)]
/-- a field of a watcher, perhaps -/
theorem perh_sim {σ μ : Mem} {s e z w f hi : Nat} (h : GD σ0 μ0 H L B σ μ s e) (hz : z < 13) (hw : w < tn (aM μ 1)) (hf : f < 5) (hh : hi ≤ 9999) (f1 : f = 1 → hi ≤ 11) (f3 : f = 3 → hi ≤ 99) (f4 : f ≠ 4) {R : Type} (K : Mem → Option R) : ∃ σ' μ', ((f_X0_takes z σ).bind fun q => (if q.1 = 0 then K q.2 else ((f_X0_takeNumber (nI hi) q.2).bind fun q' => K (mst q'.2 (31 + 7 + w) f q'.1)))) = K σ' ∧ f_X6_perhaps (lN (cWn z)) (nI (24 + 5 * w + f)) (nI hi) μ = some μ' ∧ ((∃ s' e', GD σ0 μ0 H L B σ' μ' s' e' ∧ s ≤ s' ∧ aM μ' 1 = aM μ 1) ∨ BX σ0 μ0 σ' μ') := by
  have h0 := h
  obtain ⟨h1, h2, h3, h4, h5, h6, h7, h8⟩ := h
  have hm := h8.2.1.1
  unfold f_X6_perhaps
  rw [word_eq h3 h4 h6, Option.bind_some]
  by_cases hW : kdT L B s = 1 ∧ capV B s (e - s) = cWn z
  · obtain ⟨σ1, μ1, s1, e1, a1, a2, a3, a4, a5, -⟩ := h0.adv
    have hsL : s < L := by
      by_cases q : s < L
      · exact q
      · have := hW.1
        unfold kdT at this
        rw [if_neg q] at this
        exact absurd this (by decide)
    have hse := h4.2.2.2.2.2.2.2.1 hsL
    rw [takes_yes h0 hz hW a1, Option.bind_some]
    dsimp only
    rw [if_neg (show ¬ (1 : Int32) = 0 by decide), if_pos ((lgw' h4 hz).mpr hW), must1 h6, a2, Option.bind_some]
    rcases num_sim a3 hh with ⟨v, σ2, μ2, s2, e2, n1, n2, n3, n4, n5, n6, n7⟩ | ⟨σ2, μ2, n2, n3, n5⟩
    · rw [n2, n3, Option.bind_some, Option.bind_some]
      dsimp only
      have w0 : μ2 0 17 = 0 := n5.2.2.2.2.2.1
      have r2 : aM μ2 = aM μ := by rw [n7, a5]
      have rr : aC 31 σ2 = aM μ := by rw [n5.2.2.2.2.2.2.1, r2]
      have e3 : σ2 31 3 = aM μ 1 := by
        have := congrFun rr 1
        rw [aC_1] at this
        exact this
      have hs1 : s1 ≤ e1 ∧ s1 ≤ L := by
        have := a3.2.2.2.1
        refine ⟨?_, this.2.2.2.2.2.1⟩
        by_cases q : s1 < L
        · have := this.2.2.2.2.2.2.2.1 q; omega
        · have := this.2.2.2.2.2.2.2.2.1 q; omega
      rw [if_pos w0, chk_nI (show 24 + 5 * w + f < 74 by omega) (by decide), nI_clamp (show 24 + 5 * w + f < 2 ^ 31 by omega), n4]
      refine ⟨_, _, rfl, rfl, Or.inl ⟨s2, e2, n5.row (fun c hc => mst_c (by omega)) (fun c hc => mst_c hc) ?_ ?_, by omega, ?_⟩⟩
      · rw [aC_sw (by rw [e3]; exact hw) (by rw [e3]; exact hm) hf, rr, aM_mst (by rw [r2]; exact PL_w hw hm hf), r2]
      · rw [aM_mst (by rw [r2]; exact PL_w hw hm hf), r2]
        exact h8.w hw hf (fun q => Bn_nI (by have := f1 q; omega) (by omega)) (fun q => Bn_nI (by have := f3 q; omega) (by omega)) (fun q => absurd q f4)
      · rw [aM_mst (by rw [r2]; exact PL_w hw hm hf), sU_ne (by omega), r2]
    · rw [n2, n3, Option.bind_some, Option.bind_some]
      dsimp only
      rw [if_neg n5.wrong, chk_nI (show 24 + 5 * w + f < 74 by omega) (by decide), chk_nI (show 24 + 5 * w + f < 74 by omega) (by decide)]
      exact ⟨_, _, rfl, rfl, Or.inr (n5.row (fun c hc => mst_c (by omega)) (fun c hc => mst_c hc))⟩
  · rw [takes_no h0 hz hW, Option.bind_some]
    dsimp only
    rw [if_pos rfl, if_neg (fun q => hW ((lgw' h4 hz).mp q))]
    exact ⟨σ, μ, rfl, rfl, Or.inl ⟨s, e, h0, Nat.le_refl s, rfl⟩⟩
theorem perh_bad {σ μ : Mem} {z : Nat} (h : BX σ0 μ0 σ μ) (hz : z < 13) (x3 x4 : Int32) : f_X6_perhaps (lN (cWn z)) x3 x4 μ = some μ := by
  unfold f_X6_perhaps
  rw [h.word, Option.bind_some, if_neg]
  have := lgw (W := False) (V := 0) (z := z) (by decide) hz
  rw [if_neg (fun q => q)] at this
  exact fun q => absurd (this.mp q).1 id

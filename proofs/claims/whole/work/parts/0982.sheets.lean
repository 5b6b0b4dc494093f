/-! ===== pure: images, tape, sheets ===== -/
theorem st_wipe : ST_wipe Inv := by
  intro k σ μ hk hI
  have h1 := hI.same
  suffices key : Inv (k + 1) (mst σ 71 1 0) (mst μ 0 13 0) from ⟨hI.len, key⟩
  refine ⟨?_, ?_, ?_, ?_, ?_, ?_, ?_, ?_, ?_, ?_, ?_, ?_⟩
  · rw [aC_frame (σ := σ) (fun x _ h2 => mst_c (by omega)), aM_frame (μ := μ) (mst_c (by decide))]; exact h1.row
  · rw [aM_frame (μ := μ) (mst_c (by decide))]; exact h1.bd
  · rw [mst_c (by decide), mst_ap, if_neg (by decide)]; exact h1.kp
  · rw [mst_ap, if_neg (by decide), mst_c (by decide), aC_frame (σ := σ) (fun x _ h2 => mst_c (by omega))]; exact h1.kept
  · intro i hi
    rw [mst_c (by decide), mst_c (by decide)]; exact h1.fn i hi
  · rw [mst_ap, mst_ap, if_pos ⟨rfl, rfl⟩, if_pos ⟨rfl, rfl⟩]
  · rw [mst_ap, if_pos ⟨rfl, rfl⟩]; exact Bn_0 120
  · intro i hi
    rw [mst_ap, if_pos ⟨rfl, rfl⟩] at hi
    exact absurd hi (by rw [show tn 0 = 0 from rfl]; omega)
  · intro s hs
    rw [mst_c (by omega), mst_c (by decide)]; exact h1.sb s hs
  · intro s hs
    rw [mst_c (by omega), mst_c (by decide)]; exact h1.sz s hs
  · intro s hs i hi
    rw [mst_c (by omega), mst_c (by decide)]; exact h1.sn s hs i hi
  · rw [mst_ap, if_neg (by decide)]; exact h1.shut
theorem Inv.flag {k : Nat} {σ μ σ' μ' : Mem} (h : Inv k σ μ) (v : Int32) (hc : ∀ c, (c < 16 ∨ 31 ≤ c) → σ' c = mst σ 0 8 v c) (hm : ∀ c, c ≠ 2 → μ' c = mst μ 0 5 v c) (hk : v ≠ 0 → aC 16 σ' = NV (μ' 2) ∧ BD (80 * (k + 1)) (NV (μ' 2))) : Inv (k + 1) σ' μ' := by
  have h1 := h.same
  refine ⟨?_, ?_, ?_, ?_, ?_, ?_, ?_, ?_, ?_, ?_, ?_, ?_⟩
  · rw [aC_frame (σ' := σ') (σ := σ) (fun x h1 h2 => by rw [hc x (by omega), mst_c (by omega)]), aM_frame (μ' := μ') (μ := μ) (by rw [hm 1 (by decide), mst_c (by decide)])]; exact h1.row
  · rw [aM_frame (μ' := μ') (μ := μ) (by rw [hm 1 (by decide), mst_c (by decide)])]; exact h1.bd
  · rw [hc 0 (by omega), hm 0 (by decide), mst_ap, mst_ap, if_pos ⟨rfl, rfl⟩, if_pos ⟨rfl, rfl⟩]
  · rw [hm 0 (by decide), mst_ap, if_pos ⟨rfl, rfl⟩]; exact hk
  · intro i hi
    rw [hc _ (by omega), hm _ (by decide), mst_c (by decide), mst_c (by decide)]; exact h1.fn i hi
  · rw [hc _ (by omega), hm 0 (by decide), mst_c (by decide), mst_ap, if_neg (by decide)]; exact h1.len
  · rw [hm 0 (by decide), mst_ap, if_neg (by decide)]; exact h1.lenB
  · rw [hc _ (by omega), hm 0 (by decide), hm 8 (by decide), mst_c (c' := 72) (by decide), mst_c (c' := 8) (by decide), mst_ap, if_neg (by decide)]; exact h1.tape
  · intro s hs
    rw [hc _ (by omega), hm 9 (by decide), mst_c (by omega), mst_c (by decide)]; exact h1.sb s hs
  · intro s hs
    rw [hc _ (by omega), hm 10 (by decide), mst_c (by omega), mst_c (by decide)]; exact h1.sz s hs
  · intro s hs i hi
    rw [hc _ (by omega), hm 11 (by decide), mst_c (by omega), mst_c (by decide)]; exact h1.sn s hs i hi
  · rw [hm 0 (by decide), mst_ap, if_neg (by decide)]; exact h1.shut
theorem st_tear : ST_tear Inv := by
  intro k σ μ hk hI
  unfold f_X5_tear f_X6_tear
  rw [hI.kp]
  have key : Inv (k + 1) (mst σ 0 8 0) (mst μ 0 5 0) := hI.flag 0 (fun _ _ => rfl) (fun _ _ => rfl) (fun q => absurd rfl q)
  by_cases h : μ 0 5 = 0
  · rw [if_pos h, if_pos h]; exact ⟨rfl, key⟩
  · rw [if_neg h, if_neg h]; exact ⟨rfl, key⟩
theorem st_image : ST_image Inv := by
  intro k σ μ hk hI
  show RS k (f_X5_image σ) (f_X6_image μ)
  obtain ⟨σ', c1, c2, c3⟩ := become_spec (b := 16) (c := 1) (σ := σ) (by unfold isV; omega) (by unfold isV; omega) (by decide) hI.bd1
  obtain ⟨μ', m1, m2, m3⟩ := image_spec μ
  unfold f_X5_image
  rw [c1, Option.bind_some, m1]
  refine ⟨_, _, rfl, rfl, rfl, ?_⟩
  have e2 : NV (μ' 2) = aM μ := NV_congr m2
  refine hI.flag 1 (fun c hc => ?_) (fun c hc => ?_) (fun _ => ?_)
  · show mst σ' 0 8 1 c = mst σ 0 8 1 c
    unfold mst
    rw [c3 c (by omega), c3 0 (by omega)]
  · show mst μ' 0 5 1 c = mst μ 0 5 1 c
    unfold mst
    rw [m3 c hc, m3 0 (by decide)]
  · show aC 16 (mst σ' 0 8 1) = NV (mst μ' 0 5 1 2) ∧ BD _ (NV (mst μ' 0 5 1 2))
    rw [mst_c (by decide), e2, aC_frame (σ := σ') (fun x h1 h2 => mst_c (by omega)), c2, hI.row]
    exact ⟨rfl, hI.bd.up (by omega)⟩
theorem st_undo : ST_undo Inv := by
  intro k σ μ hk hI
  show RS k (f_X5_undo σ) (f_X6_undo μ)
  unfold f_X5_undo f_X6_undo
  rw [hI.kp]
  by_cases h : μ 0 5 = 0
  · rw [if_pos h, if_pos h]; exact fndN hI
  · rw [if_neg h, if_neg h]
    obtain ⟨k1, k2⟩ := hI.kept h
    obtain ⟨σ', c1, c2, c3⟩ := become_spec (b := 1) (c := 16) (σ := σ) (by unfold isV; omega) (by unfold isV; omega) (by decide) (by rw [k1]; exact k2)
    obtain ⟨μ', m1, m2, m3⟩ := undoB_spec μ
    rw [c1, Option.bind_some, m1]
    have e2 : aM μ' = NV (μ 2) := NV_congr m2
    refine ⟨_, _, rfl, rfl, ?_, hI.go (FC.ofV c3) (FR.ofr m3) (by rw [c2, k1, e2]) (by show BD _ (aM μ'); rw [e2]; exact k2.up (by omega))⟩
    show σ' 2 4 = μ' 1 0
    have := congrFun (c2.trans (k1.trans e2.symm)) 0
    rw [aC_0, aM_lo μ' (by decide)] at this
    exact this
-- the tape
theorem byte_nat (x : Int32) : x.toInt = if x.toBitVec.toNat < 2 ^ 31 then (x.toBitVec.toNat : Int) else (x.toBitVec.toNat : Int) - 2 ^ 32 := by
  show x.toBitVec.toInt = _
  rw [BitVec.toInt_eq_toNat_cond]
  by_cases h : x.toBitVec.toNat < 2 ^ 31
  · rw [if_pos (by omega), if_pos h]
  · rw [if_neg (by omega), if_neg h]; rfl
theorem byte_eq (x : Int32) {i : Nat} (hi : i < 4) : jus x (8 * nI i) &&& 255 = (x >>> ((8 * nI i) &&& 31)) &&& 255 := by
  rw [pk_and _ 8 (by decide), pk_and _ 8 (by decide)]
  congr 1
  have h1 : (jus x (8 * nI i)).toBitVec.toNat = x.toBitVec.toNat / 2 ^ (8 * i) := by
    unfold jus
    refine pk_ushr x (8 * nI i) (8 * i) ?_
    rcases (show i = 0 ∨ i = 1 ∨ i = 2 ∨ i = 3 by omega) with rfl | rfl | rfl | rfl <;> decide
  have h2 : (x >>> ((8 * nI i) &&& 31)).toInt = x.toInt >>> (8 * i) := by
    refine pk_shr x _ (8 * i) ?_
    rcases (show i = 0 ∨ i = 1 ∨ i = 2 ∨ i = 3 by omega) with rfl | rfl | rfl | rfl <;> decide
  rw [h1]
  rw [byte_nat, byte_nat, Int.shiftRight_eq_div_pow] at h2
  have b1 := x.toBitVec.isLt
  have b2 := (x >>> ((8 * nI i) &&& 31)).toBitVec.isLt
  generalize (x >>> ((8 * nI i) &&& 31)).toBitVec.toNat = m at h2 b2 ⊢
  generalize x.toBitVec.toNat = n at h2 b1 ⊢
  rcases (show i = 0 ∨ i = 1 ∨ i = 2 ∨ i = 3 by omega) with rfl | rfl | rfl | rfl <;> (split at h2 <;> split at h2 <;> simp at h2 ⊢ <;> omega)
theorem Inv.put {k : Nat} {σ μ : Mem} (h : Inv k σ μ) {v : Int32} (hl : tn (μ 0 13) < 120) (hv : Bn v 255) : Inv k (mst (mst σ 72 (tn (μ 0 13)) v) 71 1 (μ 0 13 + 1)) (mst (mst μ 8 (tn (μ 0 13)) v) 0 13 (μ 0 13 + 1)) := by
  have e13 : μ 0 13 + 1 = nI (tn (μ 0 13) + 1) := by
    conv => lhs; rw [h.lenB.2]
    exact nI_1 _
  refine ⟨?_, ?_, ?_, ?_, ?_, ?_, ?_, ?_, ?_, ?_, ?_, ?_⟩
  · rw [aC_frame (σ := σ) (fun x _ h2 => by rw [mst_c (by omega), mst_c (by omega)]), aM_frame (μ := μ) (by rw [mst_c (by decide), mst_c (by decide)])]; exact h.row
  · rw [aM_frame (μ := μ) (by rw [mst_c (by decide), mst_c (by decide)])]; exact h.bd
  · rw [mst_c (by decide), mst_c (by decide), mst_ap, if_neg (by decide), mst_c (by decide)]; exact h.kp
  · rw [mst_ap, if_neg (by decide), mst_c (by decide), mst_c (by decide), mst_c (by decide), aC_frame (σ := σ) (fun x _ h2 => by rw [mst_c (by omega), mst_c (by omega)])]; exact h.kept
  · intro i hi
    rw [mst_c (by decide), mst_c (by decide), mst_c (by decide), mst_c (by decide)]; exact h.fn i hi
  · rw [mst_ap, if_pos ⟨rfl, rfl⟩, mst_ap, if_pos ⟨rfl, rfl⟩]
  · rw [mst_ap, if_pos ⟨rfl, rfl⟩, e13]; exact Bn_nI (by omega) (by omega)
  · rw [mst_ap, if_pos ⟨rfl, rfl⟩, e13, tn_nI (by omega)]
    intro i hi
    rw [mst_c (c := 71) (c' := 72) (by decide), mst_c (c := 0) (c' := 8) (by decide), mst_ap σ, mst_ap μ]
    by_cases e : i = tn (μ 0 13)
    · rw [if_pos ⟨rfl, e⟩, if_pos ⟨rfl, e⟩]; exact ⟨rfl, hv⟩
    · rw [if_neg (fun q => e q.2), if_neg (fun q => e q.2)]; exact h.tape i (by omega)
  · intro s hs
    rw [mst_c (by omega), mst_c (by omega), mst_c (by decide), mst_c (by decide)]; exact h.sb s hs
  · intro s hs
    rw [mst_c (by omega), mst_c (by omega), mst_c (by decide), mst_c (by decide)]; exact h.sz s hs
  · intro s hs i hi
    rw [mst_c (by omega), mst_c (by omega), mst_c (by decide), mst_c (by decide)]; exact h.sn s hs i hi
  · rw [mst_ap, if_neg (by decide), mst_c (by decide)]; exact h.shut
theorem feed5 {k : Nat} {σ μ : Mem} (hI : Inv k σ μ) (x : Int32) {i : Nat} (hi : i < 4) (hl : tn (μ 0 13) < 120) (rec : Int32 → Mem → Option (Int32 × Mem)) : f_X5_feed_B42 x rec (nI i) σ = rec (nI i + -1) (mst (mst σ 72 (tn (μ 0 13)) (jus x (8 * nI i) &&& 255)) 71 1 (μ 0 13 + 1)) := by
  unfold f_X5_feed_B42 f_X0_put
  have hb : Bn (μ 0 13) (tn (μ 0 13)) := ⟨Nat.le_refl _, hI.lenB.2⟩
  rw [if_neg (nI_pos (by omega)), hI.len, hb.chk hl (by decide), Option.bind_some, mst_c (by decide), hI.len]
theorem feed6 {k : Nat} {σ μ : Mem} (hI : Inv k σ μ) (x : Int32) {i : Nat} (hi : i < 4) (hl : tn (μ 0 13) < 120) (rec : Int32 → Mem → Option (Int32 × Mem)) : f_X6_feed_B41 x rec (nI i) μ = rec (nI i + -1) (mst (mst μ 8 (tn (μ 0 13)) (jus x (8 * nI i) &&& 255)) 0 13 (μ 0 13 + 1)) := by
  unfold f_X6_feed_B41
  have hb : Bn (μ 0 13) (tn (μ 0 13)) := ⟨Nat.le_refl _, hI.lenB.2⟩
  rw [if_neg (nI_pos (by omega)), hb.chk hl (by decide), mst_c (by decide), byte_eq x hi]
theorem feed_loop {k : Nat} (x : Int32) : ∀ (i fu : Nat) (σ μ : Mem), i < 4 → i + 1 < fu → Inv k σ μ → tn (μ 0 13) + i + 1 ≤ 120 → ∃ q1 q2, it2 (f_X5_feed_B42 x) fu (nI i) σ = some q1 ∧ it2 (f_X6_feed_B41 x) fu (nI i) μ = some q2 ∧ q1.1 = q2.1 ∧ Inv k q1.2 q2.2 := by
  intro i
  induction i with
  | zero =>
    intro fu σ μ hi4 hf hI hl
    match fu, hf with
    | fu + 2, hf =>
      show ∃ q1 q2, f_X5_feed_B42 x (f_X5_feed_B42 x (it2 (f_X5_feed_B42 x) fu)) (nI 0) σ = some q1 ∧ f_X6_feed_B41 x (f_X6_feed_B41 x (it2 (f_X6_feed_B41 x) fu)) (nI 0) μ = some q2 ∧ _
      have hb : Bn (jus x (8 * nI 0) &&& 255) 255 := by
        rw [pk_and _ 8 (by decide)]
        have : (jus x (8 * nI 0)).toBitVec.toNat % 2 ^ 8 < 2 ^ 8 := Nat.mod_lt _ (by decide)
        exact Bn_nI (by omega) (by omega)
      have hp := hI.put (by omega) hb
      rw [feed5 hI x (by decide) (by omega), feed6 hI x (by decide) (by omega)]
      unfold f_X5_feed_B42 f_X6_feed_B41
      rw [if_pos (show nI 0 + -1 < 0 by decide), if_pos (show nI 0 + -1 < 0 by decide)]
      exact ⟨_, _, rfl, rfl, hp.len, hp⟩
  | succ i ih =>
    intro fu σ μ hi4 hf hI hl
    match fu, hf with
    | fu + 1, hf =>
      show ∃ q1 q2, f_X5_feed_B42 x (it2 (f_X5_feed_B42 x) fu) (nI (i + 1)) σ = some q1 ∧ f_X6_feed_B41 x (it2 (f_X6_feed_B41 x) fu) (nI (i + 1)) μ = some q2 ∧ _
      have hb : Bn (jus x (8 * nI (i + 1)) &&& 255) 255 := by
        rw [pk_and _ 8 (by decide)]
        have : (jus x (8 * nI (i + 1))).toBitVec.toNat % 2 ^ 8 < 2 ^ 8 := Nat.mod_lt _ (by decide)
        exact Bn_nI (by omega) (by omega)
      have hp := hI.put (by omega) hb
      have en : nI (i + 1) + -1 = nI i := by
        rw [← Int32.sub_eq_add_neg]; exact nI_pred i
      rw [feed5 hI x hi4 (by omega), feed6 hI x hi4 (by omega), en]
      refine ih fu _ _ (by omega) (by omega) hp ?_
      rw [mst_ap, if_pos ⟨rfl, rfl⟩]
      have e13 : μ 0 13 + 1 = nI (tn (μ 0 13) + 1) := by
        conv => lhs; rw [hI.lenB.2]
        exact nI_1 _
      rw [e13, tn_nI (by omega)]
      omega
theorem st_feed : ST_feed Inv := by
  intro k σ μ x1 x2 hk hI
  show RS k (f_X5_feed x1 x2 σ) (f_X6_feed x1 x2 μ)
  unfold f_X5_feed f_X6_feed
  rcases gd1 x2 1 4 (A := 1) (B := 4) (L := 1) (U := 4) rfl rfl rfl rfl (by decide) with ⟨n, h1, h2, rfl, a1, a2, a3⟩ | ⟨a1, a2⟩
  · rw [if_neg a1, if_pos a2, if_neg a3, hI.len]
    have hl := hI.lenB.1
    have es : μ 0 13 + nI n = nI (tn (μ 0 13) + n) := by
      conv => lhs; rw [hI.lenB.2]
      exact nI_add _ _
    rw [es]
    by_cases h : tn (μ 0 13) + n ≤ 120
    · rw [if_pos (show nI (tn (μ 0 13) + n) ≤ 120 from nI_le (b := 120) h (by decide)), if_pos (show nI (tn (μ 0 13) + n) ≤ 120 from nI_le (b := 120) h (by decide)), show nI n - 1 = nI (n - 1) from pk_sub (a := n) (b := 1) (by omega)]
      obtain ⟨q1, q2, e1, e2, e3, e4⟩ := feed_loop x1 (n - 1) FU σ μ (by omega) (show n - 1 + 1 < 1000 by omega) hI (by omega)
      exact ⟨q1, q2, e1, e2, e3, e4.same⟩
    · rw [if_neg (show ¬ nI (tn (μ 0 13) + n) ≤ 120 from nI_ge (a := 120) (by omega) (by omega)), if_neg (show ¬ nI (tn (μ 0 13) + n) ≤ 120 from nI_ge (a := 120) (by omega) (by omega))]
      exact fnd hI 1 (by decide) (by decide)
  · rw [if_pos a2]
    rcases a1 with a1 | a1
    · rw [if_pos a1]; exact fndB hI
    · by_cases a3 : x2 < 1
      · rw [if_pos a3]; exact fndB hI
      · rw [if_neg a3, if_neg a1]; exact fndB hI

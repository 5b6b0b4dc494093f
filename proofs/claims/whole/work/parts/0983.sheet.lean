/-! ===== pure: sheets ===== -/
theorem trouble {k : Nat} {σ μ : Mem} (hI : Inv k σ μ) (x : Int32) : (∃ s, s < 4 ∧ x = nI s ∧ f_X5_sheetTrouble x σ = some 0 ∧ f_X6_wrong x μ = some 0) ∨ (∃ c j, j < 7 ∧ c = -1000001 - nI j ∧ c ≠ 0 ∧ f_X5_sheetTrouble x σ = some c ∧ f_X6_wrong x μ = some c) := by
  unfold f_X5_sheetTrouble f_X6_wrong f_X6_isOne f_X1_isMissing
  rcases gd x 3 (M := 3) (U := 3) rfl rfl (by decide) with ⟨s, hs, rfl, a1, a2⟩ | ⟨a1, a2⟩
  · rw [if_pos a1, if_neg a2, chk_nI (by omega) (by decide), chk_nI (by omega) (by decide), nI_clamp (by omega), hI.sb s (by omega)]
    by_cases h : μ 9 s = 0
    · rw [if_pos h, if_neg (by decide), if_pos h]
      exact Or.inr ⟨-1000006, 5, by decide, by decide, by decide, rfl, rfl⟩
    · rw [if_neg h, if_pos rfl, if_neg h]
      exact Or.inl ⟨s, by omega, rfl, rfl, rfl⟩
  · rw [if_neg a1, if_pos a2]
    exact Or.inr ⟨-1000001, 0, by decide, by decide, by decide, rfl, rfl⟩
theorem Inv.sh {k : Nat} {σ μ σ' μ' : Mem} (h : Inv k σ μ) (hc : ∀ c, (c < 63 ∨ 71 ≤ c) → σ' c = σ c) (hm : ∀ c, c ≠ 9 → c ≠ 10 → c ≠ 11 → c ≠ 12 → μ' c = μ c) (h1 : ∀ s, s < 4 → σ' (63 + 2 * s) 1 = μ' 9 s) (h2 : ∀ s, s < 4 → σ' (63 + 2 * s) 2 = μ' 10 s ∧ Bn (μ' 10 s) 40) (h3 : ∀ s, s < 4 → ∀ i, i < 40 → σ' (64 + 2 * s) i = μ' 11 (40 * s + i)) : Inv (k + 1) σ' μ' := by
  have g := h.same
  have e0 : μ' 0 = μ 0 := hm 0 (by decide) (by decide) (by decide) (by decide)
  refine ⟨?_, ?_, ?_, ?_, ?_, ?_, ?_, ?_, h1, h2, h3, ?_⟩
  · rw [aC_frame (σ' := σ') (σ := σ) (fun x _ h2 => hc x (by omega)), aM_frame (μ' := μ') (μ := μ) (hm 1 (by decide) (by decide) (by decide) (by decide))]; exact g.row
  · rw [aM_frame (μ' := μ') (μ := μ) (hm 1 (by decide) (by decide) (by decide) (by decide))]; exact g.bd
  · rw [hc 0 (by omega), e0]; exact g.kp
  · rw [e0, hm 2 (by decide) (by decide) (by decide) (by decide), aC_frame (σ' := σ') (σ := σ) (fun x _ h2 => hc x (by omega))]; exact g.kept
  · rw [hc 73 (by omega), hm 5 (by decide) (by decide) (by decide) (by decide)]; exact g.fn
  · rw [hc 71 (by omega), e0]; exact g.len
  · rw [e0]; exact g.lenB
  · rw [e0, hc 72 (by omega), hm 8 (by decide) (by decide) (by decide) (by decide)]; exact g.tape
  · rw [e0]; exact g.shut
theorem lay_eq (b : Nat) (x n : Int32) (σ : Mem) : f_X1_lay b x n σ = some (fun c k => if c = b + 1 ∧ k < 40 then 0 else if c = b ∧ k = 1 then x else if c = b ∧ k = 2 then (if x = 0 then 0 else n) else σ c k) := by
  unfold f_X1_lay f_X1_lay_J15
  refine it2_for 40 (fun i => fun c k => if c = b + 1 ∧ k < i then 0 else if c = b ∧ k = 1 then x else if c = b ∧ k = 2 then (if x = 0 then 0 else n) else σ c k) ?_ (by decide) (fun rec i hi => ?_) (fun rec => ?_)
  · funext c k
    rw [mst_ap, mst_ap, if_neg (show ¬ (c = b + 1 ∧ k < 0) by omega)]
    by_cases h2 : c = b ∧ k = 2
    · rw [if_pos h2, if_neg (show ¬ (c = b ∧ k = 1) by omega), if_pos h2]
    · rw [if_neg h2, if_neg h2]
  · unfold f_X1_lay_B20
    rw [if_neg (show ¬ (40 : Int32) ≤ nI i from nnle hi (by decide)), chk_nI hi (by decide), nI_1, nI_clamp (show i < 2 ^ 31 by omega)]
    congr 1
    funext c k
    rw [mst_ap]
    by_cases h1 : c = b + 1 ∧ k = i
    · rw [if_pos h1, if_pos (by omega)]
    · rw [if_neg h1]
      by_cases h2 : c = b + 1 ∧ k < i
      · rw [if_pos h2, if_pos (by omega)]
      · rw [if_neg h2, if_neg (show ¬ (c = b + 1 ∧ k < i + 1) by omega)]
  · unfold f_X1_lay_B20
    rw [if_pos (show (40 : Int32) ≤ nI 40 from nle (Nat.le_refl 40) (by decide))]
theorem n40 {s i : Nat} : (40 * nI s) + nI i = nI (40 * s + i) := by
  rw [show (40 : Int32) = nI 40 from rfl, pk_mul, nI_add]
theorem msheet_loop {s : Nat} (hs : s < 4) (μ : Mem) : it2 (f_X6_sheet_B86 (nI s)) FU 0 μ = some (μ 10 s, fun c k => if c = 11 ∧ 40 * s ≤ k ∧ k < 40 * s + 40 then 0 else μ c k) := by
  refine it2_for 40 (fun i => fun c k => if c = 11 ∧ 40 * s ≤ k ∧ k < 40 * s + i then 0 else μ c k) (by funext c k; rw [if_neg (by omega)]) (by decide) (fun rec i hi => ?_) (fun rec => ?_)
  · unfold f_X6_sheet_B86
    rw [if_neg (show ¬ (40 : Int32) ≤ nI i from nnle hi (by decide)), n40, chk_nI (show 40 * s + i < 160 by omega) (by decide), nI_1, nI_clamp (show 40 * s + i < 2 ^ 31 by omega)]
    congr 1
    funext c k
    rw [mst_ap]
    by_cases h1 : c = 11 ∧ k = 40 * s + i
    · rw [if_pos h1, if_pos (by omega)]
    · rw [if_neg h1]
      by_cases h2 : c = 11 ∧ 40 * s ≤ k ∧ k < 40 * s + i
      · rw [if_pos h2, if_pos (by omega)]
      · rw [if_neg h2, if_neg (by omega)]
  · unfold f_X6_sheet_B86
    rw [if_pos (show (40 : Int32) ≤ nI 40 from nle (Nat.le_refl 40) (by decide)), chk_nI hs (by decide), nI_clamp (by omega)]
    dsimp only
    rw [if_neg (by omega)]
theorem st_sheet : ST_sheet Inv := by
  intro k σ μ x1 x2 x3 hk hI
  show RS k (f_X5_sheet x1 x2 x3 σ) (f_X6_sheet x1 x2 x3 μ)
  unfold f_X5_sheet f_X6_sheet f_X6_isOne
  rcases gd x1 3 (M := 3) (U := 3) rfl rfl (by decide) with ⟨s, hs, rfl, a1, a2⟩ | ⟨a1, a2⟩
  · rw [if_pos a1, if_neg a2]
    have key : RS k (f_X5_sheet_J37 (nI s) x2 x3 σ) (f_X6_sheet_J36 (nI s) x2 x3 μ) := by
      unfold f_X5_sheet_J37 f_X6_sheet_J36 f_X6_sheet_J82
      by_cases h0 : 0 ≤ x3
      · rw [if_pos h0, if_pos h0]
        by_cases h4 : x3 ≤ 40
        · rw [if_pos h4, if_pos h4, chk_nI (show s < 4 by omega) (by decide), chk_nI (show s < 4 by omega) (by decide), chk_nI (show s < 4 by omega) (by decide), nI_clamp (show s < 2 ^ 31 by omega), lay_eq, Option.bind_some, chk_nI (show s < 4 by omega) (by decide), msheet_loop (by omega)]
          have hb3 : Bn x3 40 := by
            rw [Int32.le_iff_toInt_le] at h0 h4
            exact Bn_of h0 h4 (by decide)
          have hbn : Bn (if x2 = 0 then 0 else x3) 40 := by
            split
            · exact Bn_0 40
            · exact hb3
          have s9 : ∀ t, mst (mst μ 9 s x2) 10 s (if x2 = 0 then 0 else x3) 9 t = if t = s then x2 else μ 9 t := fun t => by
            rw [mst_c (by decide), mst_ap]
            by_cases e : t = s
            · rw [if_pos ⟨rfl, e⟩, if_pos e]
            · rw [if_neg (by omega), if_neg e]
          have s10 : ∀ t, mst (mst μ 9 s x2) 10 s (if x2 = 0 then 0 else x3) 10 t = if t = s then (if x2 = 0 then 0 else x3) else μ 10 t := fun t => by
            rw [mst_ap, mst_c (by decide)]
            by_cases e : t = s
            · rw [if_pos ⟨rfl, e⟩, if_pos e]
            · rw [if_neg (by omega), if_neg e]
          refine ⟨_, _, rfl, rfl, ?_, hI.sh ?_ ?_ ?_ ?_ ?_⟩
          · show (if 63 + 2 * s = 63 + 2 * s + 1 ∧ 2 < 40 then _ else if 63 + 2 * s = 63 + 2 * s ∧ 2 = 1 then x2 else if 63 + 2 * s = 63 + 2 * s ∧ 2 = 2 then _ else _) = mst (mst μ 9 s x2) 10 s (if x2 = 0 then 0 else x3) 10 s
            rw [if_neg (by omega), if_neg (by omega), if_pos ⟨rfl, rfl⟩, s10, if_pos rfl]
          · intro c hc
            funext i
            show (if c = 63 + 2 * s + 1 ∧ i < 40 then _ else if c = 63 + 2 * s ∧ i = 1 then x2 else if c = 63 + 2 * s ∧ i = 2 then _ else _) = _
            rw [if_neg (by omega), if_neg (by omega), if_neg (by omega)]
          · intro c c9 c10 c11 c12
            funext i
            show (if c = 11 ∧ 40 * s ≤ i ∧ i < 40 * s + 40 then 0 else mst (mst μ 9 s x2) 10 s (if x2 = 0 then 0 else x3) c i) = _
            rw [if_neg (by omega), mst_c c10, mst_c c9]
          · intro t ht
            show (if 63 + 2 * t = 63 + 2 * s + 1 ∧ 1 < 40 then _ else if 63 + 2 * t = 63 + 2 * s ∧ 1 = 1 then x2 else if 63 + 2 * t = 63 + 2 * s ∧ 1 = 2 then _ else σ (63 + 2 * t) 1) = (if 9 = 11 ∧ 40 * s ≤ t ∧ t < 40 * s + 40 then 0 else mst (mst μ 9 s x2) 10 s (if x2 = 0 then 0 else x3) 9 t)
            rw [if_neg (by omega), if_neg (show ¬ (9 = 11 ∧ 40 * s ≤ t ∧ t < 40 * s + 40) by omega), s9]
            by_cases e : t = s
            · rw [if_pos (by omega), if_pos e]
            · rw [if_neg (by omega), if_neg (by omega), if_neg e]; exact hI.sb t ht
          · intro t ht
            show (if 63 + 2 * t = 63 + 2 * s + 1 ∧ 2 < 40 then _ else if 63 + 2 * t = 63 + 2 * s ∧ 2 = 1 then x2 else if 63 + 2 * t = 63 + 2 * s ∧ 2 = 2 then _ else σ (63 + 2 * t) 2) = (if 10 = 11 ∧ 40 * s ≤ t ∧ t < 40 * s + 40 then 0 else mst (mst μ 9 s x2) 10 s (if x2 = 0 then 0 else x3) 10 t) ∧ Bn (if 10 = 11 ∧ 40 * s ≤ t ∧ t < 40 * s + 40 then 0 else mst (mst μ 9 s x2) 10 s (if x2 = 0 then 0 else x3) 10 t) 40
            rw [if_neg (show ¬ (63 + 2 * t = 63 + 2 * s + 1 ∧ 2 < 40) by omega), if_neg (show ¬ (10 = 11 ∧ 40 * s ≤ t ∧ t < 40 * s + 40) by omega), s10, if_neg (show ¬ (63 + 2 * t = 63 + 2 * s ∧ 2 = 1) by omega)]
            by_cases e : t = s
            · rw [if_pos (show 63 + 2 * t = 63 + 2 * s ∧ 2 = 2 by omega), if_pos e]; exact ⟨rfl, hbn⟩
            · rw [if_neg (show ¬ (63 + 2 * t = 63 + 2 * s ∧ 2 = 2) by omega), if_neg e]; exact hI.sz t ht
          · intro t ht i hi
            show (if 64 + 2 * t = 63 + 2 * s + 1 ∧ i < 40 then 0 else if 64 + 2 * t = 63 + 2 * s ∧ i = 1 then x2 else if 64 + 2 * t = 63 + 2 * s ∧ i = 2 then _ else σ (64 + 2 * t) i) = (if 11 = 11 ∧ 40 * s ≤ 40 * t + i ∧ 40 * t + i < 40 * s + 40 then 0 else mst (mst μ 9 s x2) 10 s (if x2 = 0 then 0 else x3) 11 (40 * t + i))
            by_cases e : t = s
            · rw [if_pos (by omega), if_pos (by omega)]
            · rw [if_neg (by omega), if_neg (by omega), if_neg (by omega), if_neg (by omega), mst_c (by decide), mst_c (by decide)]
              exact hI.sn t ht i hi
        · rw [if_neg h4, if_neg h4]; exact fndB hI
      · rw [if_neg h0, if_neg h0]; exact fnd hI 6 (by decide) (by decide)
    by_cases e0 : x2 = 0
    · rw [if_pos e0, if_pos e0]; exact key
    · rw [if_neg e0, if_neg e0]
      by_cases e8 : x2 = 8
      · rw [if_pos e8, if_pos e8]; exact key
      · rw [if_neg e8, if_neg e8]
        by_cases e16 : x2 = 16
        · rw [if_pos e16, if_pos e16]; exact key
        · rw [if_neg e16, if_neg e16]
          by_cases e32 : x2 = 32
          · rw [if_pos e32, if_pos e32]; exact key
          · rw [if_neg e32, if_neg e32]; exact fndB hI
  · rw [if_neg a1, if_pos a2]; exact fndB hI
theorem Inv.one {k : Nat} {σ μ : Mem} (hI : Inv k σ μ) {s i : Nat} (v : Int32) (hs : s < 4) (hi : i < 40) : Inv (k + 1) (mst σ (64 + 2 * s) i v) (mst μ 11 (40 * s + i) v) := by
  refine hI.sh (fun c hc => mst_c (by omega)) (fun c _ _ h11 _ => mst_c h11) ?_ ?_ ?_
  · intro t ht
    rw [mst_c (by omega), mst_c (by decide)]; exact hI.sb t ht
  · intro t ht
    rw [mst_c (by omega), mst_c (by decide)]; exact hI.sz t ht
  · intro t ht j hj
    rw [mst_ap, mst_ap]
    by_cases e : t = s ∧ j = i
    · rw [if_pos (by omega), if_pos (by omega)]
    · rw [if_neg (by omega), if_neg (by omega)]; exact hI.sn t ht j hj
theorem st_write : ST_write Inv := by
  intro k σ μ x1 x2 x3 hk hI
  show RS k (f_X5_write x1 x2 x3 σ) (f_X6_write x1 x2 x3 μ)
  unfold f_X5_write f_X6_write
  rcases trouble hI x1 with ⟨s, hs, rfl, t1, t2⟩ | ⟨c, j, hj, hc, hc0, t1, t2⟩
  · rw [t1, t2, Option.bind_some, Option.bind_some, if_pos rfl, if_pos rfl, chk_nI hs (by decide), chk_nI hs (by decide), chk_nI hs (by decide), chk_nI hs (by decide), nI_clamp (by omega)]
    obtain ⟨z1, z2⟩ := hI.sz s hs
    have z3 := z2.1
    rw [z1]
    have g5 := out_iff x2 (μ 10 s - 1)
    have g6 := in_iff x2 0 (μ 10 s - 1).toInt64
    rw [Int32.toInt_toInt64, show (0 : Int64).toInt = 0 from rfl] at g6
    have ep : (μ 10 s - 1).toInt = (tn (μ 10 s) : Int) - 1 := by
      conv => lhs; rw [z2.2]
      exact toInt_pred (by omega)
    rw [ep] at g5 g6
    by_cases h : 0 ≤ x2.toInt ∧ x2.toInt ≤ (tn (μ 10 s) : Int) - 1
    · have hb := Bn_of (x := x2) (n := 40) h.1 (by omega) (by decide)
      have ht := hb.toInt (by decide)
      obtain ⟨i, hi, rfl⟩ : ∃ i, i < 40 ∧ x2 = nI i := ⟨tn x2, by omega, hb.2⟩
      rw [if_pos (g5.mpr h), if_neg (fun q => (g6.mp q) h), n40, chk_nI (show 40 * s + i < 160 by omega) (by decide), nI_clamp (show 40 * s + i < 2 ^ 31 by omega)]
      unfold f_X1_put f_X6_narrowed
      rw [chk_nI hi (by decide), chk_nI hi (by decide), chk_nI hi (by decide), nI_clamp (show i < 2 ^ 31 by omega), hI.sb s hs, show 63 + 2 * s + 1 = 64 + 2 * s by omega]
      by_cases e8 : μ 9 s = 8
      · rw [if_pos e8, if_pos e8]
        exact ⟨_, _, rfl, rfl, rfl, hI.one _ hs hi⟩
      · rw [if_neg e8, if_neg e8]
        by_cases e16 : μ 9 s = 16
        · rw [if_pos e16, if_pos e16]
          exact ⟨_, _, rfl, rfl, rfl, hI.one _ hs hi⟩
        · rw [if_neg e16, if_neg e16]
          exact ⟨_, _, rfl, rfl, rfl, hI.one _ hs hi⟩
    · rw [if_neg (fun q => h (g5.mp q)), if_pos (g6.mpr h)]; exact fndB hI
  · rw [t1, t2, Option.bind_some, Option.bind_some, if_neg hc0, if_neg hc0]
    exact fnd hI j hj hc
theorem st_judge : ST_judge Inv := by
  intro k σ μ x1 hk hI
  show RS k (f_X5_judge x1 σ) (f_X6_judge x1 μ)
  unfold f_X5_judge f_X6_judge
  rcases trouble hI x1 with ⟨s, hs, rfl, t1, t2⟩ | ⟨c, j, hj, hc, hc0, t1, t2⟩
  · rw [t1, t2, Option.bind_some, Option.bind_some, if_pos rfl, if_pos rfl, chk_nI hs (by decide)]
    obtain ⟨z1, z2⟩ := hI.sz s hs
    have z3 := z2.1
    have key : ∀ fu i, i ≤ 40 → 40 - i < fu → ∃ v, it1 (f_X5_judge_B26 (nI s) σ) fu (nI i) = some (v, σ) ∧ it1 (f_X6_judge_B18 (nI s) μ) fu (nI i) = some (v, μ) := by
      intro fu
      induction fu with
      | zero => intro i _ h; omega
      | succ fu ih =>
        intro i hi hf
        show ∃ v, f_X5_judge_B26 (nI s) σ (it1 (f_X5_judge_B26 (nI s) σ) fu) (nI i) = some (v, σ) ∧ f_X6_judge_B18 (nI s) μ (it1 (f_X6_judge_B18 (nI s) μ) fu) (nI i) = some (v, μ)
        revert ih
        generalize it1 (f_X5_judge_B26 (nI s) σ) fu = R5
        generalize it1 (f_X6_judge_B18 (nI s) μ) fu = R6
        intro ih
        unfold f_X5_judge_B26 f_X6_judge_B18
        rw [chk_nI hs (by decide), nI_clamp (show s < 2 ^ 31 by omega), z1]
        by_cases h1 : μ 10 s ≤ nI i
        · rw [if_pos h1, if_pos h1]; exact ⟨_, rfl, rfl⟩
        · rw [if_neg h1, if_neg h1]
          have hi40 : i < 40 := by
            rw [z2.2, nI_leI (by omega) (by omega)] at h1; omega
          by_cases h2 : (12 : Int32) ≤ nI i
          · rw [if_pos h2, if_pos h2]; exact ⟨_, rfl, rfl⟩
          · have hi12 : i < 12 := by
              rw [show (12 : Int32) = nI 12 from rfl, nI_leI (by omega) (by omega)] at h2; omega
            rw [if_neg h2, if_neg h2, chk_nI hi40 (by decide), chk_nI hi12 (by decide), n40, n12, chk_nI (show 40 * s + i < 160 by omega) (by decide), chk_nI (show 12 + i < 74 by omega) (by decide), nI_clamp (show i < 2 ^ 31 by omega), nI_clamp (show 40 * s + i < 2 ^ 31 by omega), nI_clamp (show 12 + i < 2 ^ 31 by omega), show σ (63 + 2 * s + 1) i = _ from (congrFun (congrArg σ (show 63 + 2 * s + 1 = 64 + 2 * s by omega)) i).trans (hI.sn s hs i hi40), hI.ll hi12]
            by_cases h3 : μ 11 (40 * s + i) = μ 1 (12 + i)
            · rw [if_pos h3, if_pos h3, nI_1]
              exact ih (i + 1) (by omega) (by omega)
            · rw [if_neg h3, if_neg h3]; exact ⟨_, rfl, rfl⟩
    obtain ⟨v, e1, e2⟩ := key FU 0 (by decide) (by decide)
    exact ⟨_, _, e1, e2, rfl, hI.same⟩
  · rw [t1, t2, Option.bind_some, Option.bind_some, if_neg hc0, if_neg hc0]
    exact fnd hI j hj hc
theorem st_load : ST_load Inv := by
  intro k σ μ x1 hk hI
  show RS k (f_X5_load x1 σ) (f_X6_load x1 μ)
  unfold f_X5_load f_X6_load
  rcases trouble hI x1 with ⟨s, hs, rfl, t1, t2⟩ | ⟨c, j, hj, hc, hc0, t1, t2⟩
  · rw [t1, t2, Option.bind_some, Option.bind_some, if_pos rfl, if_pos rfl, chk_nI hs (by decide)]
    have key : ∀ fu i (σ μ : Mem), Inv (k + 1) σ μ → i ≤ 40 → 40 - i < fu → ∃ v σ' μ', it2 (f_X5_load_B26 (nI s)) fu (nI i) σ = some (v, σ') ∧ it2 (f_X6_load_B18 (nI s)) fu (nI i) μ = some (v, μ') ∧ Inv (k + 1) σ' μ' := by
      intro fu
      induction fu with
      | zero => intro i _ _ _ _ h; omega
      | succ fu ih =>
        intro i σ μ hI hi hf
        obtain ⟨z1, z2⟩ := hI.sz s hs
        have z3 := z2.1
        show ∃ v σ' μ', f_X5_load_B26 (nI s) (it2 (f_X5_load_B26 (nI s)) fu) (nI i) σ = some (v, σ') ∧ f_X6_load_B18 (nI s) (it2 (f_X6_load_B18 (nI s)) fu) (nI i) μ = some (v, μ') ∧ _
        revert ih
        generalize it2 (f_X5_load_B26 (nI s)) fu = R5
        generalize it2 (f_X6_load_B18 (nI s)) fu = R6
        intro ih
        unfold f_X5_load_B26 f_X6_load_B18
        rw [chk_nI hs (by decide), nI_clamp (show s < 2 ^ 31 by omega), z1]
        by_cases h1 : μ 10 s ≤ nI i
        · rw [if_pos h1, if_pos h1]; exact ⟨_, _, _, rfl, rfl, hI⟩
        · rw [if_neg h1, if_neg h1]
          have hi40 : i < 40 := by
            rw [z2.2, nI_leI (by omega) (by omega)] at h1; omega
          by_cases h2 : (8 : Int32) ≤ nI i
          · rw [if_pos h2, if_pos h2]; exact ⟨_, _, _, rfl, rfl, hI⟩
          · have hi8 : i < 8 := by
              rw [show (8 : Int32) = nI 8 from rfl, nI_leI (by omega) (by omega)] at h2; omega
            unfold f_X6_isOpening
            rw [if_neg h2, if_neg h2, chk_nI hi40 (by decide), chk_nI hi40 (by decide), chk_nI hi8 (by decide), n40, n4, chk_nI (show 40 * s + i < 160 by omega) (by decide), chk_nI (show 40 * s + i < 160 by omega) (by decide), chk_nI (show 4 + i < 74 by omega) (by decide), nI_clamp (show i < 2 ^ 31 by omega), nI_clamp (show 40 * s + i < 2 ^ 31 by omega), nI_clamp (show 4 + i < 2 ^ 31 by omega), show σ (63 + 2 * s + 1) i = _ from (congrFun (congrArg σ (show 63 + 2 * s + 1 = 64 + 2 * s by omega)) i).trans (hI.sn s hs i hi40)]
            rcases gd (μ 11 (40 * s + i)) 99 (M := 99) (U := 99) rfl rfl (by decide) with ⟨v, hv, q, a1, a2⟩ | ⟨a1, a2⟩
            · rw [if_pos a1, if_neg a2, nI_1]
              refine ih (i + 1) _ _ ?_ (by omega) (by omega)
              have hp : PL (aM μ) (4 + i) := PL_lo (by omega) (by omega)
              have hb := hI.bd.p (h := i) (v := μ 11 (40 * s + i)) hi8 (by rw [q]; exact Bn_nI hv (by omega))
              refine ⟨?_, ?_, ?_, ?_, ?_, ?_, ?_, ?_, ?_, ?_, ?_, ?_⟩
              · rw [show mst σ 5 i (μ 11 (40 * s + i)) = mst σ (1 + 4) i (μ 11 (40 * s + i)) from rfl, aC_sp hi8, aM_mst hp, hI.row]
              · rw [aM_mst hp]; exact hb
              · rw [mst_c (by decide), mst_c (by decide)]; exact hI.kp
              · rw [mst_c (by decide), mst_c (by decide), aC_frame (σ := σ) (fun x _ h2 => mst_c (by omega))]; exact hI.kept
              · rw [mst_c (by decide), mst_c (by decide)]; exact hI.fn
              · rw [mst_c (by decide), mst_c (by decide)]; exact hI.len
              · rw [mst_c (by decide)]; exact hI.lenB
              · rw [mst_c (c' := 0) (by decide), mst_c (c' := 72) (by decide), mst_c (c' := 8) (by decide)]; exact hI.tape
              · intro t ht
                rw [mst_c (by omega), mst_c (by decide)]; exact hI.sb t ht
              · intro t ht
                rw [mst_c (by omega), mst_c (by decide)]; exact hI.sz t ht
              · intro t ht j hj
                rw [mst_c (by omega), mst_c (by decide)]; exact hI.sn t ht j hj
              · rw [mst_c (by decide)]; exact hI.shut
            · rw [if_neg a1, if_pos a2]; exact ⟨_, _, _, rfl, rfl, hI⟩
    obtain ⟨v, σ', μ', e1, e2, e3⟩ := key FU 0 σ μ hI.same (by decide) (by decide)
    exact ⟨_, _, e1, e2, rfl, e3⟩
  · rw [t1, t2, Option.bind_some, Option.bind_some, if_neg hc0, if_neg hc0]
    exact fnd hI j hj hc

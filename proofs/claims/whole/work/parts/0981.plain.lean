/-! ===== pure: more plain calls ===== -/
def q8 (a b c d e f g h : Bool) (i : Nat) : Bool := if i = 0 then a else if i = 1 then b else if i = 2 then c else if i = 3 then d else if i = 4 then e else if i = 5 then f else if i = 6 then g else h
theorem setA_congr {P Q : Nat → Bool} : ∀ n, (∀ i, i < n → P i = Q i) → setA P n = setA Q n
  | 0, _ => rfl
  | n + 1, h => by
    show (if P n = true then setA P n ||| (1 <<< (nI n &&& 31)) else setA P n) = (if Q n = true then setA Q n ||| (1 <<< (nI n &&& 31)) else setA Q n)
    rw [setA_congr n (fun i hi => h i (by omega)), h n (by omega)]
theorem setA_pad {P : Nat → Bool} {n : Nat} : ∀ m, setA (fun i => decide (i < n) && P i) (n + m) = setA P n
  | 0 => setA_congr n (fun i hi => by simp [hi])
  | m + 1 => by
    show (if (decide (n + m < n) && P (n + m)) = true then _ else setA (fun i => decide (i < n) && P i) (n + m)) = setA P n
    rw [if_neg (by simp; omega), setA_pad m]
theorem setA_8 {P : Nat → Bool} {n : Nat} (h : n ≤ 8) : ∃ a b c d e f g i : Bool, setA P n = setA (q8 a b c d e f g i) 8 := by
  have h1 := setA_pad (P := P) (n := n) (8 - n)
  rw [show n + (8 - n) = 8 by omega] at h1
  refine ⟨_, _, _, _, _, _, _, _, h1.symm.trans (setA_congr (Q := q8 ((fun i => decide (i < n) && P i) 0) ((fun i => decide (i < n) && P i) 1) ((fun i => decide (i < n) && P i) 2) ((fun i => decide (i < n) && P i) 3) ((fun i => decide (i < n) && P i) 4) ((fun i => decide (i < n) && P i) 5) ((fun i => decide (i < n) && P i) 6) ((fun i => decide (i < n) && P i) 7)) 8 (fun i hi => ?_))⟩
  rcases (show i = 0 ∨ i = 1 ∨ i = 2 ∨ i = 3 ∨ i = 4 ∨ i = 5 ∨ i = 6 ∨ i = 7 by omega) with rfl | rfl | rfl | rfl | rfl | rfl | rfl | rfl <;> rfl
theorem ones_8 : ∀ a b c d e f g i : Bool, f_X6_ones (setA (q8 a b c d e f g i) 8) = some (f_J6_bitCount_0f7a4 (setA (q8 a b c d e f g i) 8)) := by decide +kernel
theorem ones_eq {H : Nat} {s : St} (h : BD H s) : f_X6_ones (knA s) = some (f_J6_bitCount_0f7a4 (knA s)) := by
  obtain ⟨a, b, c, d, e, f, g, i, q⟩ := setA_8 (P := knB s) (n := tn (s 1)) h.2.1.1
  unfold knA
  rw [q]
  exact ones_8 a b c d e f g i
theorem st_turns : ST_turns Inv := by
  intro k σ μ hk hI
  have e5 : f_X5_turns σ = some (nI (cntN (fun i => decide (μ 1 (4 + i) ≠ μ 1 (4 + (i + 7) % 8))) 8)) := by
    unfold f_X5_turns
    refine it2_for' 8 (fun i => nI (cntN (fun i => decide (μ 1 (4 + i) ≠ μ 1 (4 + (i + 7) % 8))) i)) rfl (by decide) (fun rec i hi => ?_) (fun rec => ?_)
    · unfold f_X5_turns_B15 f_X5_turns_J41
      have er : jrem ((nI i + 8) - 1) 8 = nI ((i + 7) % 8) := by
        have : (nI i + 8) - 1 = nI (i + 7) := by
          rw [show (8 : Int32) = nI 8 from rfl, nI_add]
          exact pk_sub (a := i + 8) (b := 1) (by omega)
        rw [this, jrem_nI _ (by omega)]
      rw [if_neg (show ¬ (8 : Int32) ≤ nI i from nnle hi (by decide)), chk_nI hi (by decide), er, chk_nI (Nat.mod_lt _ (by decide)) (by decide), nI_clamp (show i < 2 ^ 31 by omega), nI_clamp (show (i + 7) % 8 < 2 ^ 31 by omega), hI.pp hi, hI.pp (Nat.mod_lt _ (by decide))]
      congr 1
      · by_cases h : μ 1 (4 + i) = μ 1 (4 + (i + 7) % 8)
        · simp [h, cntN]
        · simp [h, cntN, nI_1]
      · exact nI_1 i
    · unfold f_X5_turns_B15
      rw [if_pos (show (8 : Int32) ≤ nI 8 from nle (Nat.le_refl 8) (by decide))]
  have e6 : f_X6_turns μ = some (nI (cntN (fun i => decide (μ 1 (4 + i) ≠ μ 1 (4 + (i + 7) % 8))) 8)) := by
    unfold f_X6_turns
    refine it2_for' 8 (fun i => nI (cntN (fun i => decide (μ 1 (4 + i) ≠ μ 1 (4 + (i + 7) % 8))) i)) rfl (by decide) (fun rec i hi => ?_) (fun rec => ?_)
    · unfold f_X6_turns_B4 f_X6_turns_J41
      have er : (4 : Int32) + jrem (nI i + 7) 8 = nI (4 + (i + 7) % 8) := by
        rw [show (7 : Int32) = nI 7 from rfl, nI_add, jrem_nI _ (by omega), n4]
      rw [if_neg (show ¬ (8 : Int32) ≤ nI i from nnle hi (by decide)), n4, chk_nI (show 4 + i < 74 by omega) (by decide), er, chk_nI (show 4 + (i + 7) % 8 < 74 by omega) (by decide), nI_clamp (show 4 + i < 2 ^ 31 by omega), nI_clamp (show 4 + (i + 7) % 8 < 2 ^ 31 by omega)]
      congr 1
      · by_cases h : μ 1 (4 + i) = μ 1 (4 + (i + 7) % 8)
        · simp [h, cntN]
        · simp [h, cntN, nI_1]
      · exact nI_1 i
    · unfold f_X6_turns_B4
      rw [if_pos (show (8 : Int32) ≤ nI 8 from nle (Nat.le_refl 8) (by decide))]
  exact ⟨_, _, e5, e6, rfl, hI.same⟩
theorem held_eq {k : Nat} {σ μ : Mem} (hI : Inv k σ μ) : f_X2_spotsHolding 1 σ = f_X6_heldSpots μ := by
  have e5 : f_X2_spotsHolding 1 σ = some (nI (cntN (fun i => decide (μ 1 (64 + i) ≠ -1)) 10)) := by
    unfold f_X2_spotsHolding
    refine it2_for' 10 (fun i => nI (cntN (fun i => decide (μ 1 (64 + i) ≠ -1)) i)) rfl (by decide) (fun rec i hi => ?_) (fun rec => ?_)
    · unfold f_X2_spotsHolding_B4 f_X2_spotsHolding_J23
      rw [if_neg (show ¬ (10 : Int32) ≤ nI i from nnle hi (by decide)), chk_nI hi (by decide), nI_clamp (show i < 2 ^ 31 by omega), show σ (1 + 6) i = _ from hI.kk hi]
      congr 1
      · by_cases h : μ 1 (64 + i) = -1
        · simp [h, cntN]
        · simp [h, cntN, nI_1]
      · exact nI_1 i
    · unfold f_X2_spotsHolding_B4
      rw [if_pos (show (10 : Int32) ≤ nI 10 from nle (Nat.le_refl 10) (by decide))]
  rw [e5]
  unfold f_X6_heldSpots
  refine (it2_for' 10 (fun i => nI (cntN (fun i => decide (μ 1 (64 + i) ≠ -1)) i)) rfl (by decide) (fun rec i hi => ?_) (fun rec => ?_)).symm
  · unfold f_X6_heldSpots_B4 f_X6_heldSpots_J28
    have hs := hI.bd.2.2.2.2.2.2 i hi
    rw [aM_k μ hi] at hs
    rw [if_neg (show ¬ (10 : Int32) ≤ nI i from nnle hi (by decide)), show (64 : Int32) + nI i = nI (64 + i) from nI_add 64 i, chk_nI (show 64 + i < 74 by omega) (by decide), nI_clamp (show 64 + i < 2 ^ 31 by omega)]
    congr 1
    · rcases hs with h | ⟨j, hj, h⟩
      · rw [h]
        simp [h, cntN]
      · have hm := hI.bd.2.1.1
        have hn : ¬ nI j = -1 := fun q => by
          have := congrArg Int32.toInt q
          rw [nI_toInt (by omega), show (-1 : Int32).toInt = -1 from rfl] at this
          omega
        rw [h, if_neg (nI_pos (by omega))]
        simp [h, hn, cntN, nI_1]
    · exact nI_1 i
  · unfold f_X6_heldSpots_B4
    rw [if_pos (show (10 : Int32) ≤ nI 10 from nle (Nat.le_refl 10) (by decide))]
theorem held_some (μ : Mem) {k : Nat} {σ : Mem} (hI : Inv k σ μ) : ∃ v, f_X6_heldSpots μ = some v := by
  rw [← held_eq hI]
  unfold f_X2_spotsHolding
  exact ⟨_, it2_for' 10 (fun i => nI (cntN (fun i => decide (μ 1 (64 + i) ≠ -1)) i)) rfl (by decide) (fun rec i hi => by
    unfold f_X2_spotsHolding_B4 f_X2_spotsHolding_J23
    rw [if_neg (show ¬ (10 : Int32) ≤ nI i from nnle hi (by decide)), chk_nI hi (by decide), nI_clamp (show i < 2 ^ 31 by omega), show σ (1 + 6) i = _ from hI.kk hi]
    congr 1
    · by_cases h : μ 1 (64 + i) = -1
      · simp [h, cntN]
      · simp [h, cntN, nI_1]
    · exact nI_1 i) (fun rec => by
    unfold f_X2_spotsHolding_B4
    rw [if_pos (show (10 : Int32) ≤ nI 10 from nle (Nat.le_refl 10) (by decide))])⟩
theorem st_count : ST_count Inv := by
  intro k σ μ x1 hk hI
  show RS k (f_X5_count x1 σ) (f_X6_count x1 μ)
  unfold f_X5_count f_X6_count
  obtain ⟨v, hv⟩ := held_some μ hI
  rw [show f_X4_levelsTogether 2 σ = _ from levels_eq 1 σ, knowing_eq hI.bd1, beliefs_eq hI.bd1, mlevels_eq, mknowing_eq hI.bd, mbeliefs_eq hI.bd, hI.row, hI.h0, hI.m1.1, hI.len, hI.zz, held_eq hI, hv]
  by_cases h0 : x1 = 0
  · rw [if_pos h0, if_pos h0]; exact ⟨_, _, rfl, rfl, rfl, hI.same⟩
  · rw [if_neg h0, if_neg h0]
    by_cases h1 : x1 = 1
    · rw [if_pos h1, if_pos h1]; exact ⟨_, _, rfl, rfl, rfl, hI.same⟩
    · rw [if_neg h1, if_neg h1]
      by_cases h2 : x1 = 2
      · rw [if_pos h2, if_pos h2, Option.bind_some, Option.bind_some, ones_eq hI.bd, Option.bind_some]; exact ⟨_, _, rfl, rfl, rfl, hI.same⟩
      · rw [if_neg h2, if_neg h2]
        by_cases h3 : x1 = 3
        · rw [if_pos h3, if_pos h3]; exact ⟨_, _, rfl, rfl, rfl, hI.same⟩
        · rw [if_neg h3, if_neg h3]
          by_cases h4 : x1 = 4
          · rw [if_pos h4, if_pos h4]; exact ⟨_, _, rfl, rfl, rfl, hI.same⟩
          · rw [if_neg h4, if_neg h4]
            by_cases h5 : x1 = 5
            · rw [if_pos h5, if_pos h5]; exact ⟨_, _, rfl, rfl, rfl, hI.same⟩
            · rw [if_neg h5, if_neg h5]
              by_cases h6 : x1 = 6
              · rw [if_pos h6, if_pos h6]; exact ⟨_, _, rfl, rfl, rfl, hI.same⟩
              · rw [if_neg h6, if_neg h6]
                by_cases h7 : x1 = 7
                · rw [if_pos h7, if_pos h7]; exact ⟨_, _, rfl, rfl, rfl, hI.same⟩
                · rw [if_neg h7, if_neg h7]; exact fndB hI
theorem status_loop (x1 : Int32) (μ : Mem) : it2 (f_X6_status_B25 x1 μ) FU 0 0 = some (sumF (fun i => if x1 < 0 ∨ nI i = x1 then μ 5 i else 0) 7, μ) := by
  refine it2_for' 7 (fun i => sumF (fun i => if x1 < 0 ∨ nI i = x1 then μ 5 i else 0) i) rfl (by decide) (fun rec i hi => ?_) (fun rec => ?_)
  · unfold f_X6_status_B25 f_X6_status_J41 f_X6_status_J51
    rw [if_neg (show ¬ (7 : Int32) ≤ nI i from nnle hi (by decide)), chk_nI hi (by decide), nI_clamp (show i < 2 ^ 31 by omega), nI_1]
    show _ = rec (sumF (fun i => if x1 < 0 ∨ nI i = x1 then μ 5 i else 0) i + (if x1 < 0 ∨ nI i = x1 then μ 5 i else 0)) (nI (i + 1))
    by_cases h1 : x1 < 0
    · rw [if_pos h1, if_pos (Or.inl h1)]
    · rw [if_neg h1]
      by_cases h2 : nI i = x1
      · rw [if_pos h2, if_pos (Or.inr h2)]
      · rw [if_neg h2, if_neg (fun q => q.elim h1 h2)]
  · unfold f_X6_status_B25
    rw [if_pos (show (7 : Int32) ≤ nI 7 from nle (Nat.le_refl 7) (by decide))]
theorem st_status : ST_status Inv := by
  intro k σ μ x1 hk hI
  show RS k (f_X5_status x1 σ) (f_X6_status x1 μ)
  unfold f_X5_status f_X6_status
  rw [status_loop]
  have g := in_iff x1 (-1) 6
  rw [show (-1 : Int64).toInt = -1 from rfl, show (6 : Int64).toInt = 6 from rfl] at g
  by_cases hm1 : x1 = -1
  · have e1 : x1.toInt = -1 := by rw [hm1]; rfl
    rw [if_pos hm1, if_neg (fun q => (g.mp q) (by omega)), together_eq _ _ (by decide), Option.bind_some]
    refine ⟨_, _, rfl, rfl, ?_, hI.same⟩
    refine sumF_congr 7 (fun i hi => ?_)
    rw [if_pos (Or.inl (by rw [hm1]; decide))]
    exact hI.fn i hi
  · rw [if_neg hm1]
    have ne : x1.toInt ≠ -1 := fun q => hm1 (Int32.toInt_inj.mp (by rw [q]; rfl))
    rcases gd x1 6 (M := 6) (U := 6) rfl rfl (by decide) with ⟨j, hj, rfl, a1, a2⟩ | ⟨a1, a2⟩
    · rw [nI_toInt (by omega)] at g
      rw [if_pos a1, if_neg (fun q => (g.mp q) (by omega)), chk_nI (by omega) (by decide), nI_clamp (by omega)]
      refine ⟨_, _, rfl, rfl, ?_, hI.same⟩
      show σ 73 j = _
      rw [hI.fn j (by omega)]
      have e : ∀ i, i < 7 → (if nI j < 0 ∨ nI i = nI j then μ 5 i else 0) = (if i = j then μ 5 i else 0) := fun i hi => by
        by_cases h : i = j
        · rw [if_pos (Or.inr (by rw [h])), if_pos h]
        · rw [if_neg (fun q => q.elim (nI_pos (by omega)) (fun q => h ((nI_eq (by omega) (by omega)).mp q))), if_neg h]
      show μ 5 j = sumF (fun i => if nI j < 0 ∨ nI i = nI j then μ 5 i else 0) 7
      rw [sumF_congr 7 e]
      rcases (show j = 0 ∨ j = 1 ∨ j = 2 ∨ j = 3 ∨ j = 4 ∨ j = 5 ∨ j = 6 by omega) with rfl | rfl | rfl | rfl | rfl | rfl | rfl <;> simp [sumF]
    · have : ¬ (0 ≤ x1.toInt ∧ x1.toInt ≤ 6) := by
        intro q
        exact a1 ((out_iff x1 6).mpr q)
      rw [if_neg a1, if_pos (g.mpr (by omega))]
      exact fndB hI
theorem st_hold : ST_hold Inv := by
  intro k σ μ x1 x2 hk hI
  show RS k (f_X5_hold x1 x2 σ) (f_X6_hold x1 x2 μ)
  unfold f_X5_hold f_X6_hold f_X6_isSpot f_X6_hold_J27
  rcases gd x1 9 (M := 9) (U := 9) rfl rfl (by decide) with ⟨j, hj, rfl, a1, a2⟩ | ⟨a1, a2⟩
  · rw [if_pos a1, if_neg a2, chk_nI (show j < 10 by omega) (by decide), show (64 : Int32) + nI j = nI (64 + j) from nI_add 64 j, chk_nI (show 64 + j < 74 by omega) (by decide), nI_clamp (show j < 2 ^ 31 by omega), nI_clamp (show 64 + j < 2 ^ 31 by omega)]
    have key : (x2 = -1 ∨ ∃ i, i < tn (aM μ 1) ∧ x2 = nI i) → RS k (some (1, mst σ 7 j x2)) (some (1, mst μ 1 (64 + j) x2)) := by
      intro hx
      refine ⟨_, _, rfl, rfl, rfl, ?_⟩
      have := hI.set (j := 64 + j) (v := x2) (by omega) (PL_k (by omega)) ((hI.bd.up (by omega)).k (by omega) hx)
      rw [va_k.1, (va_k (b := 1)).2] at this
      exact this
    by_cases h1 : x2 = -1
    · rw [if_pos h1, if_pos h1]; exact key (Or.inl h1)
    · rw [if_neg h1, if_neg h1]
      rcases gw hI x2 with ⟨w, hw, rfl, b1, b2⟩ | ⟨b1, b2⟩
      · rw [if_pos b1, if_neg b2]
        exact key (Or.inr ⟨w, by rw [aM_lo μ (by decide)]; exact hw, rfl⟩)
      · rw [if_neg b1, if_pos b2]; exact fndB hI
  · rw [if_neg a1, if_pos a2]; exact fndB hI
def und : Nat → Int32 → Int32 → Int32
  | 0, c, _ => c
  | n + 1, c, x => if c = x then c else if c = 0 then c else und n (f_X6_above c) x
theorem above_eq (c : Int32) : f_X3_kindAbove c = f_X6_above c := by
  unfold f_X3_kindAbove f_X6_above
  by_cases h6 : c = 6
  · subst h6; rfl
  · by_cases h3 : c = 3
    · subst h3; rfl
    · by_cases h4 : c = 4
      · subst h4; rfl
      · rw [if_neg h3, if_neg h4, if_neg h6, if_neg h6, if_neg h3, if_neg h4, ite_self]
theorem above3 (c : Int32) : f_X6_above (f_X6_above (f_X6_above c)) = 0 := by
  have h : f_X6_above c = 1 ∨ f_X6_above c = 2 ∨ f_X6_above c = 3 ∨ f_X6_above c = 0 := by
    unfold f_X6_above
    by_cases h6 : c = 6
    · rw [if_pos h6]; exact Or.inl rfl
    · rw [if_neg h6]
      by_cases h3 : c = 3
      · rw [if_pos h3]; exact Or.inr (Or.inl rfl)
      · rw [if_neg h3]
        by_cases h4 : c = 4
        · rw [if_pos h4]; exact Or.inr (Or.inr (Or.inl rfl))
        · rw [if_neg h4]; exact Or.inr (Or.inr (Or.inr rfl))
  rcases h with h | h | h | h <;> rw [h] <;> decide
def abN : Nat → Int32 → Int32
  | 0, c => c
  | n + 1, c => abN n (f_X6_above c)
theorem isUnder_loop (x : Int32) : ∀ n c (i fu : Nat), i + n < 7 → n < fu → abN n c = 0 → it2 (f_X3_isUnder_B7 x) fu c (nI i) = f_X3_isUnder_J33 x (und (n + 1) c x)
  | n, c, i, 0, _, h, _ => by omega
  | n, c, i, fu + 1, hi, hf, hz => by
    show f_X3_isUnder_B7 x (it2 (f_X3_isUnder_B7 x) fu) c (nI i) = _
    unfold f_X3_isUnder_B7
    have h7 : i < 7 := by omega
    rw [if_neg (show ¬ (7 : Int32) ≤ nI i from nnle h7 (by decide))]
    show _ = f_X3_isUnder_J33 x (if c = x then c else if c = 0 then c else und n (f_X6_above c) x)
    by_cases h1 : c = x
    · rw [if_pos h1, if_pos h1]
    · rw [if_neg h1, if_neg h1]
      by_cases h0 : c = 0
      · rw [if_pos h0, if_pos h0]
      · rw [if_neg h0, if_neg h0, above_eq, nI_1]
        match n, hz with
        | 0, hz => exact absurd hz h0
        | n + 1, hz => exact isUnder_loop x n _ (i + 1) fu (by omega) (by omega) hz
theorem as_loop (x1 x : Int32) (μ : Mem) : ∀ n c (fu : Nat), n < fu → abN n c = 0 → it1 (f_X6_as_B51 x1 x μ) fu c = f_X6_as_J72 x1 x μ (und (n + 1) c x)
  | n, c, 0, h, _ => by omega
  | n, c, fu + 1, hf, hz => by
    show f_X6_as_B51 x1 x μ (it1 (f_X6_as_B51 x1 x μ) fu) c = _
    unfold f_X6_as_B51
    show _ = f_X6_as_J72 x1 x μ (if c = x then c else if c = 0 then c else und n (f_X6_above c) x)
    by_cases h1 : c = x
    · rw [if_pos h1, if_pos h1]
    · rw [if_neg h1, if_neg h1]
      by_cases h0 : c = 0
      · rw [if_pos h0, if_pos h0]
      · rw [if_neg h0, if_neg h0]
        match n, hz with
        | 0, hz => exact absurd hz h0
        | n + 1, hz => exact as_loop x1 x μ n _ fu (by omega) hz
theorem st_as : ST_as Inv := by
  intro k σ μ x1 x2 hk hI
  show RS k (f_X5_as x1 x2 σ) (f_X6_as x1 x2 μ)
  unfold f_X5_as f_X6_as f_X6_isSpot f_X6_isKind
  rcases gd x1 9 (M := 9) (U := 9) rfl rfl (by decide) with ⟨j, hj, rfl, a1, a2⟩ | ⟨a1, a2⟩
  · rw [if_pos a1, if_neg a2]
    rcases gd x2 6 (M := 6) (U := 6) rfl rfl (by decide) with ⟨v, hv, rfl, b1, b2⟩ | ⟨b1, b2⟩
    · rw [if_pos b1, if_neg b2, chk_nI (show j < 10 by omega) (by decide), show (64 : Int32) + nI j = nI (64 + j) from nI_add 64 j, chk_nI (show 64 + j < 74 by omega) (by decide), nI_clamp (show j < 2 ^ 31 by omega), nI_clamp (show 64 + j < 2 ^ 31 by omega), hI.kk (by omega)]
      have hs := hI.bd.2.2.2.2.2.2 j (by omega)
      rw [aM_k μ (by omega), aM_lo μ (by decide)] at hs
      have hm := hI.m1.2.1
      rcases hs with h | ⟨w, hw, h⟩
      · rw [h]
        rcases gw hI (-1) with ⟨w, hw, q, -, -⟩ | ⟨c1, -⟩
        · exfalso
          have := congrArg Int32.toInt q
          rw [nI_toInt (by omega), show (-1 : Int32).toInt = -1 from rfl] at this
          omega
        · rw [if_neg c1, if_neg (show ¬ (0 : Int32) ≤ -1 by decide)]
          exact fnd hI 5 (by decide) (by decide)
      · rw [h]
        rcases gw hI (nI w) with ⟨w', hw', q, c1, c2⟩ | ⟨c1, c2⟩
        · rw [if_pos c1, if_pos (nI_pos' (by omega)), chk_nI (show w < 8 by omega) (by decide), nI_clamp (show w < 2 ^ 31 by omega), its0 (by omega), Option.bind_some]
          unfold f_X3_isUnder
          have w0 := hI.ww hw (f := 0) (by decide)
          rw [show 24 + 5 * w + 0 = 24 + 5 * w by omega] at w0
          rw [w0, show it2 (f_X3_isUnder_B7 (nI v)) FU (μ 1 (24 + 5 * w)) 0 = _ from isUnder_loop (nI v) 3 (μ 1 (24 + 5 * w)) 0 FU (by decide) (by decide) (above3 _), as_loop (nI j) (nI v) μ 3 (μ 1 (24 + 5 * w)) FU (by decide) (above3 _)]
          unfold f_X3_isUnder_J33 f_X6_as_J72
          by_cases hu : und (3 + 1) (μ 1 (24 + 5 * w)) (nI v) = nI v
          · rw [if_pos hu, if_pos hu, Option.bind_some, if_neg (by decide), show (64 : Int32) + nI j = nI (64 + j) from nI_add 64 j, nI_clamp (show 64 + j < 2 ^ 31 by omega), h]
            exact ⟨_, _, rfl, rfl, rfl, hI.same⟩
          · rw [if_neg hu, if_neg hu, Option.bind_some, if_pos rfl]
            exact fnd hI 2 (by decide) (by decide)
        · exfalso
          have hh : f_X5_noWatcher (nI w) σ = 0 := by
            unfold f_X5_noWatcher
            rw [hI.m1.1, hI.m1.2.2, out_iff, toInt_pred (by omega), nI_toInt (by omega)]
            omega
          exact c1 hh
    · rw [if_neg b1, if_pos b2]; exact fndB hI
  · rw [if_neg a1, if_pos a2]; exact fndB hI

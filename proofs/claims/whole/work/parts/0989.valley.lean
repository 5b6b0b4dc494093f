/-! ===== pure: what is tried on the whole valley ===== -/
theorem FT_out {τ τ' : Mem} {b : Nat} (hb : b = 31 ∨ b = 46) (h : ∀ x, (x < b ∨ b + 15 ≤ x) → τ' x = τ x) : FT τ τ' := fun c hc => h c (by omega)
/-- the trial becomes the valley -/
theorem trial {k : Nat} {σ μ τ : Mem} (hI : Inv k σ μ) (hT : FT σ τ) : ∃ τ', f_X2_become 31 1 τ = some τ' ∧ aC 31 τ' = aM μ ∧ FT σ τ' ∧ (∀ x, (x < 31 ∨ 31 + 15 ≤ x) → τ' x = τ x) := by
  obtain ⟨τ', c1, c2, c3⟩ := become_spec (b := 31) (c := 1) (σ := τ) (H := 80 * k) (by unfold isV; omega) (by unfold isV; omega) (by decide) (by rw [hT.row]; exact hI.bd1)
  exact ⟨τ', c1, by rw [c2, hT.row, hI.row], hT.trans (FT_out (Or.inl rfl) c3), c3⟩
theorem passT {τ : Mem} {s : St} {b H : Nat} (n : Nat) (hb : b = 31 ∨ b = 46) (hr : aC b τ = s) (h : BD H s) (hn : H + n ≤ 99999) (hn2 : n < 1000) : ∃ τ', f_X2_pass b (nI n) τ = some τ' ∧ aC b τ' = hrN n s ∧ FT τ τ' ∧ (∀ x, (x < b ∨ b + 15 ≤ x) → τ' x = τ x) := by
  subst hr
  obtain ⟨h1, h2⟩ := vhs_spec h n hn
  exact ⟨_, pass_eq n h hn hn2, h1, FT_out hb h2, h2⟩
theorem aC_at {b : Nat} {τ : Mem} {w f : Nat} (hw : w < tn (aC b τ 1)) (hm : tn (aC b τ 1) ≤ 8) (hf : f < 5) : τ (b + 7 + w) f = aC b τ (24 + 5 * w + f) := by
  rw [aC_1] at hw hm
  exact (aC_w b τ hw hm hf).symm
theorem st_belief : ST_belief Inv := by
  intro k σ μ x1 x2 x3 hk hI
  show RS k (f_X5_belief x1 x2 x3 σ) (f_X6_belief x1 x2 x3 μ)
  unfold f_X5_belief f_X6_belief
  rcases gw hI x1 with ⟨w, hw, rfl, a1, a2⟩ | ⟨a1, a2⟩
  · rw [if_pos a1, if_neg a2]
    have hm := hI.m1.2.1
    have g := in_iff x2 3 4
    rw [show (3 : Int64).toInt = 3 from rfl, show (4 : Int64).toInt = 4 from rfl] at g
    have key : ∀ f, f = 3 ∨ f = 4 → x2 = nI f → RS k (f_X5_belief_J18 (nI w) x2 x3 σ) (if f_X6_in x2.toInt64 3 4 = 0 then ((f_X6_finds (-1000001) μ).bind fun q => some (q.1, q.2)) else if f_X6_in x3.toInt64 0 100 = 0 then ((f_X6_finds (-1000001) μ).bind fun q => some (q.1, q.2)) else ((f_X6_behind (f_X6_place (nI w) x2) x3 μ).bind fun q => some (q.1, q.2))) := by
      intro f hf e
      subst e
      rw [if_neg (fun q => (g.mp q) (by rw [nI_toInt (by omega)]; omega))]
      unfold f_X5_belief_J18
      rcases gd x3 100 (M := 100) (U := 100) rfl rfl (by decide) with ⟨n, hn, rfl, b1, b2⟩ | ⟨b1, b2⟩
      · rw [if_pos b1, if_neg b2]
        obtain ⟨τ1, t1, t2, t3, -⟩ := trial hI (FT.rfl' σ)
        obtain ⟨τ2, p1, p2, p3, -⟩ := passT n (Or.inl rfl) t2 hI.bd (by omega) (by omega)
        obtain ⟨μ1, m1, m2, m3, m4⟩ := aside μ
        obtain ⟨μ2, g1, g2, g3⟩ := goesOn_open (μ := μ1) n (by rw [m3]; exact hI.bd) (m2.shut hI) (by omega) (by omega)
        obtain ⟨μ3, u1, u2, u3, u4⟩ := (m2.step g3).back (μ2 1 (24 + 5 * w + f))
        unfold f_X6_behind
        rw [t1, Option.bind_some, p1, Option.bind_some, m1, Option.bind_some, g1, Option.bind_some, place_nI, chk_nI (show 24 + 5 * w + f < 74 by omega) (by decide), nI_clamp (show 24 + 5 * w + f < 2 ^ 31 by omega), u1, chk_nI (show w < 8 by omega) (by decide), nI_clamp (show w < 2 ^ 31 by omega), Option.bind_some, Option.bind_some]
        have e1 : hrN n (aM μ) 1 = μ 1 1 := by rw [hrN_1, aM_lo μ (by decide)]
        have v5 : τ2 (38 + w) f = hrN n (aM μ) (24 + 5 * w + f) := by
          rw [← p2]
          exact aC_at (b := 31) (by rw [p2, e1]; exact hw) (by rw [p2, e1]; exact hm) (by omega)
        have v6 : μ2 1 (24 + 5 * w + f) = hrN n (aM μ) (24 + 5 * w + f) := by
          rw [aM_at (μ := μ2) (j := 24 + 5 * w + f) (Or.inr (by rw [g2, m3, e1]; omega)), g2, m3]
        have fin := hI.tr (t3.trans p3) u2.2 u3
        rcases hf with rfl | rfl
        · rw [if_pos (by decide)]
          exact ⟨_, _, rfl, rfl, v5.trans v6.symm, fin⟩
        · rw [if_neg (by decide)]
          exact ⟨_, _, rfl, rfl, v5.trans v6.symm, fin⟩
      · rw [if_neg b1, if_pos b2]; exact fndB hI
    by_cases h3 : x2 = 3
    · rw [if_pos h3]; exact key 3 (Or.inl rfl) h3
    · rw [if_neg h3]
      by_cases h4 : x2 = 4
      · rw [if_pos h4]; exact key 4 (Or.inr rfl) h4
      · rw [if_neg h4, if_pos]
        · exact fndB hI
        · rw [g]
          intro q
          rcases (show x2.toInt = 3 ∨ x2.toInt = 4 by omega) with e | e
          · exact h3 (Int32.toInt_inj.mp e)
          · exact h4 (Int32.toInt_inj.mp e)
  · rw [if_neg a1, if_pos a2]; exact fndB hI
theorem st_when : ST_when Inv := by
  intro k σ μ x1 hk hI
  show RS k (f_X5_when x1 σ) (f_X6_when x1 μ)
  unfold f_X5_when f_X6_when
  rcases gw hI x1 with ⟨w, hw, rfl, a1, a2⟩ | ⟨a1, a2⟩
  · have hm := hI.m1.2.1
    have p3 : f_X6_place (nI w) 3 = nI (27 + 5 * w) := by
      have := place_nI w 3
      rw [show 24 + 5 * w + 3 = 27 + 5 * w by omega] at this
      exact this
    obtain ⟨μ1, m1, m2, m3, -⟩ := until_eq hI hk (j := 27 + 5 * w) (Or.inr (by omega)) 0 1
    obtain ⟨τ1, t1, t2, t3, -⟩ := trial hI (FT.rfl' σ)
    rw [if_pos a1, if_neg a2, p3, m1, Option.bind_some, t1, Option.bind_some]
    have hle := fst_le (fun i => if (1 : Int32) = 0 then decide (0 ≤ hrN i (aM μ) (27 + 5 * w)) else decide (hrN i (aM μ) (27 + 5 * w) ≤ 0)) 201 0
    have key : ∀ n fu i (τ : Mem), i + n = 201 → n < fu → aC 31 τ = hrN i (aM μ) → FT σ τ → RS k (it2 (f_X5_when_B28 (nI w)) fu (nI i) τ) ((f_X6_orNone (nI (fst (fun i => if (1 : Int32) = 0 then decide (0 ≤ hrN i (aM μ) (27 + 5 * w)) else decide (hrN i (aM μ) (27 + 5 * w) ≤ 0)) n i)) μ1).bind fun q => some (q.1, q.2)) := by
      intro n
      induction n with
      | zero =>
        intro fu i τ hi hf hW hT
        match fu, hf with
        | fu + 1, hf =>
          show RS k (f_X5_when_B28 (nI w) (it2 (f_X5_when_B28 (nI w)) fu) (nI i) τ) ((f_X6_orNone (nI i) μ1).bind fun q => some (q.1, q.2))
          unfold f_X5_when_B28
          rw [if_pos (show (200 : Int32) < nI i from nI_lt (a := 200) (by omega) (by omega)), orNone_eq (by omega), if_neg (by omega), bsome]
          exact fndN (hI.tr0 hT m2.2 m3)
      | succ n ih =>
        intro fu i τ hi hf hW hT
        match fu, hf with
        | fu + 1, hf =>
          show RS k (f_X5_when_B28 (nI w) (it2 (f_X5_when_B28 (nI w)) fu) (nI i) τ) _
          replace ih := ih fu (i + 1)
          revert ih
          generalize it2 (f_X5_when_B28 (nI w)) fu = R
          intro ih
          unfold f_X5_when_B28 f_X3_knows
          have hb : BD (80 * k + i) (hrN i (aM μ)) := hI.bd.hrN i (by omega)
          obtain ⟨τ2, r1, r2, r3, -⟩ := passT 1 (Or.inl rfl) hW hb (by omega) (by decide)
          have e1 : hrN i (aM μ) 1 = μ 1 1 := by rw [hrN_1, aM_lo μ (by decide)]
          have v5 : τ (38 + w) 3 = hrN i (aM μ) (27 + 5 * w) := by
            have := aC_at (b := 31) (τ := τ) (w := w) (f := 3) (by rw [hW, e1]; exact hw) (by rw [hW, e1]; exact hm) (by decide)
            rw [hW, show 24 + 5 * w + 3 = 27 + 5 * w by omega] at this
            exact this
          have bb := (hb.2.2.2.2.2.1 w (by rw [e1]; exact hw)).2.1
          have z : hrN i (aM μ) (27 + 5 * w) ≤ 0 ↔ hrN i (aM μ) (27 + 5 * w) = 0 := by
            have := bb.1
            rw [bb.2, show (0 : Int32) = nI 0 from rfl, nI_leI (by omega) (by decide), nI_eq (by omega) (by decide)]
            omega
          rw [if_neg (show ¬ (200 : Int32) < nI i by rw [show (200 : Int32) = nI 200 from rfl, nI_ltI (by decide) (by omega)]; omega), chk_nI (show w < 8 by omega) (by decide), nI_clamp (show w < 2 ^ 31 by omega), v5, show f_X2_pass 31 1 τ = _ from r1, Option.bind_some, nI_1]
          unfold fst
          rw [if_neg (show ¬ (1 : Int32) = 0 by decide)]
          by_cases hv : hrN i (aM μ) (27 + 5 * w) = 0
          · rw [if_pos hv, if_neg (by decide), if_pos (decide_eq_true (z.mpr hv)), orNone_eq (by omega), if_pos (by omega), Option.bind_some]
            exact ⟨_, _, rfl, rfl, rfl, hI.tr hT m2.2 m3⟩
          · rw [if_neg hv, if_pos rfl, if_neg (by simp only [decide_eq_true_eq]; exact fun q => hv (z.mp q))]
            exact ih τ2 (by omega) (by omega) r2 (hT.trans r3)
    exact key 201 FU 0 _ (by decide) (by decide) t2 t3
  · rw [if_neg a1, if_pos a2]; exact fndB hI
-- sets of at most eight
theorem fst_congr {P Q : Nat → Bool} : ∀ n i, (∀ t, i ≤ t → t < i + n → P t = Q t) → fst P n i = fst Q n i
  | 0, _, _ => rfl
  | n + 1, i, h => by
    unfold fst
    rw [h i (by omega) (by omega), fst_congr n (i + 1) (fun t h1 h2 => h t (by omega) (by omega))]
theorem fst_no {P : Nat → Bool} : ∀ n i t, i ≤ t → t < fst P n i → P t = false
  | 0, i, t, h1, h2 => by
    have : fst P 0 i = i := rfl
    omega
  | n + 1, i, t, h1, h2 => by
    unfold fst at h2
    by_cases hp : P i = true
    · rw [if_pos hp] at h2; omega
    · rw [if_neg hp] at h2
      by_cases e : t = i
      · subst e; simpa using hp
      · exact fst_no n (i + 1) t (by omega) h2
theorem fst_yes {P : Nat → Bool} : ∀ n i, fst P n i < i + n → P (fst P n i) = true
  | 0, i, h => by
    have : fst P 0 i = i := rfl
    omega
  | n + 1, i, h => by
    unfold fst at h ⊢
    by_cases hp : P i = true
    · rw [if_pos hp]; exact hp
    · rw [if_neg hp] at h ⊢
      exact fst_yes n (i + 1) (by omega)
theorem fst_is {P : Nat → Bool} {n i j : Nat} (h1 : i ≤ j) (h2 : j < i + n) (hp : P j = true) (hn : ∀ t, i ≤ t → t < j → P t = false) : fst P n i = j := by
  by_cases h : fst P n i < j
  · have := fst_yes n i (P := P) (by omega)
    rw [hn _ (fst_ge P n i) h] at this
    exact absurd this (by decide)
  · by_cases h3 : j < fst P n i
    · have := fst_no n i j h1 h3
      rw [this] at hp
      exact absurd hp (by decide)
    · omega
theorem fst_all {P : Nat → Bool} {n i : Nat} (hn : ∀ t, i ≤ t → t < i + n → P t = false) : fst P n i = i + n := by
  have h1 := fst_le P n i
  by_cases h : fst P n i < i + n
  · have := fst_yes n i (P := P) h
    rw [hn _ (fst_ge P n i) h] at this
    exact absurd this (by decide)
  · omega
def pad (P : Nat → Bool) (n : Nat) : Nat → Bool := fun i => decide (i < n) && P i
theorem setA_p8 {P : Nat → Bool} {n : Nat} (h : n ≤ 8) : setA P n = setA (q8 (pad P n 0) (pad P n 1) (pad P n 2) (pad P n 3) (pad P n 4) (pad P n 5) (pad P n 6) (pad P n 7)) 8 := by
  have h1 := setA_pad (P := P) (n := n) (8 - n)
  rw [show n + (8 - n) = 8 by omega] at h1
  refine h1.symm.trans (setA_congr 8 (fun i hi => ?_))
  rcases (show i = 0 ∨ i = 1 ∨ i = 2 ∨ i = 3 ∨ i = 4 ∨ i = 5 ∨ i = 6 ∨ i = 7 by omega) with rfl | rfl | rfl | rfl | rfl | rfl | rfl | rfl <;> rfl
theorem q8_pad {P : Nat → Bool} {n i : Nat} (hi : i < 8) : q8 (pad P n 0) (pad P n 1) (pad P n 2) (pad P n 3) (pad P n 4) (pad P n 5) (pad P n 6) (pad P n 7) i = pad P n i := by
  rcases (show i = 0 ∨ i = 1 ∨ i = 2 ∨ i = 3 ∨ i = 4 ∨ i = 5 ∨ i = 6 ∨ i = 7 by omega) with rfl | rfl | rfl | rfl | rfl | rfl | rfl | rfl <;> rfl
theorem low_8 : ∀ a b c d e f g i : Bool, (setA (q8 a b c d e f g i) 8 = 0 ↔ fst (q8 a b c d e f g i) 8 0 = 8) ∧ (fst (q8 a b c d e f g i) 8 0 < 8 → f_J6_numberOfTrailingZeros_0f7a4 (setA (q8 a b c d e f g i) 8) = nI (fst (q8 a b c d e f g i) 8 0)) := by decide +kernel
theorem bit_8 : ∀ a b c d e f g i : Bool, ∀ j, j < 8 → (q8 a b c d e f g i j = true ↔ ¬ setA (q8 a b c d e f g i) 8 &&& (1 <<< (nI j &&& 31)) = 0) := by decide +kernel
theorem setA_inj {P Q : Nat → Bool} {n : Nat} (h : n ≤ 8) (e : setA P n = setA Q n) {i : Nat} (hi : i < n) : P i = Q i := by
  rw [setA_p8 h, setA_p8 (P := Q) h] at e
  have b1 := bit_8 (pad P n 0) (pad P n 1) (pad P n 2) (pad P n 3) (pad P n 4) (pad P n 5) (pad P n 6) (pad P n 7) i (by omega)
  have b2 := bit_8 (pad Q n 0) (pad Q n 1) (pad Q n 2) (pad Q n 3) (pad Q n 4) (pad Q n 5) (pad Q n 6) (pad Q n 7) i (by omega)
  rw [e] at b1
  rw [q8_pad (by omega)] at b1 b2
  have b3 : pad P n i = true ↔ pad Q n i = true := b1.trans b2.symm
  have e1 : pad P n i = P i := by unfold pad; simp [hi]
  have e2 : pad Q n i = Q i := by unfold pad; simp [hi]
  rw [e1, e2] at b3
  exact Bool.eq_iff_iff.mpr b3
/-- the lowest of a set -/
theorem setA_low {P : Nat → Bool} {n : Nat} (h : n ≤ 8) : (setA P n = 0 → ∀ i, i < n → P i = false) ∧ (¬ setA P n = 0 → ∃ w, w < n ∧ P w = true ∧ (∀ i, i < w → P i = false) ∧ f_J6_numberOfTrailingZeros_0f7a4 (setA P n) = nI w) := by
  rw [setA_p8 h]
  obtain ⟨l1, l2⟩ := low_8 (pad P n 0) (pad P n 1) (pad P n 2) (pad P n 3) (pad P n 4) (pad P n 5) (pad P n 6) (pad P n 7)
  have ef : fst (q8 (pad P n 0) (pad P n 1) (pad P n 2) (pad P n 3) (pad P n 4) (pad P n 5) (pad P n 6) (pad P n 7)) 8 0 = fst (pad P n) 8 0 := fst_congr 8 0 (fun t _ h2 => q8_pad (by omega))
  rw [ef] at l1 l2
  have ep : ∀ i, i < n → pad P n i = P i := fun i hi => by unfold pad; simp [hi]
  constructor
  · intro h0 i hi
    rw [← ep i hi]
    exact fst_no 8 0 i (by omega) (by rw [l1.mp h0]; omega)
  · intro h0
    have hlt : fst (pad P n) 8 0 < 8 := by
      have h1 := fst_le (pad P n) 8 0
      have h2 : ¬ fst (pad P n) 8 0 = 8 := fun q => h0 (l1.mpr q)
      omega
    have hy := fst_yes 8 0 (P := pad P n) (by omega)
    have hn : fst (pad P n) 8 0 < n := by
      by_cases q : fst (pad P n) 8 0 < n
      · exact q
      · unfold pad at hy
        rw [show decide (fst (fun i => decide (i < n) && P i) 8 0 < n) = false from decide_eq_false q] at hy
        exact absurd hy (by simp)
    refine ⟨fst (pad P n) 8 0, hn, by rw [← ep _ hn]; exact hy, fun i hi => ?_, l2 hlt⟩
    rw [← ep i (by omega)]
    exact fst_no 8 0 i (by omega) hi

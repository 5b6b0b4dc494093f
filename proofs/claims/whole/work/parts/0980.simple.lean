/-! ===== pure: the plain calls ===== -/
theorem Inv.h0 {k : Nat} {σ μ : Mem} (h : Inv k σ μ) : σ 2 4 = μ 1 0 := by
  have := congrFun h.row 0
  rw [aC_0, aM_lo μ (by decide)] at this; exact this
theorem Inv.sea {k : Nat} {σ μ : Mem} (h : Inv k σ μ) : σ 2 3 = μ 1 2 := by
  have := congrFun h.row 2
  rw [aC_2, aM_lo μ (by decide)] at this; exact this
theorem Inv.zz {k : Nat} {σ μ : Mem} (h : Inv k σ μ) : σ 1 4 = μ 1 3 := by
  have := congrFun h.row 3
  rw [aC_3, aM_lo μ (by decide)] at this; exact this
theorem Inv.ll {k : Nat} {σ μ : Mem} (h : Inv k σ μ) {c : Nat} (hc : c < 12) : σ 3 c = μ 1 (12 + c) := by
  have := congrFun h.row (12 + c)
  rw [aC_l _ _ hc, aM_lo μ (by omega)] at this; exact this
theorem Inv.pp {k : Nat} {σ μ : Mem} (h : Inv k σ μ) {i : Nat} (hi : i < 8) : σ 5 i = μ 1 (4 + i) := by
  have := congrFun h.row (4 + i)
  rw [aC_p _ _ hi, aM_lo μ (by omega)] at this; exact this
theorem Inv.kk {k : Nat} {σ μ : Mem} (h : Inv k σ μ) {i : Nat} (hi : i < 10) : σ 7 i = μ 1 (64 + i) := by
  have := congrFun h.row (64 + i)
  rw [aC_k _ _ hi, aM_k μ hi] at this; exact this
theorem Inv.ww {k : Nat} {σ μ : Mem} (h : Inv k σ μ) {w f : Nat} (hw : w < tn (μ 1 1)) (hf : f < 5) : σ (8 + w) f = μ 1 (24 + 5 * w + f) := by
  have := congrFun h.row (24 + 5 * w + f)
  have hm := h.m1.2.1
  rw [aC_w _ _ (by rw [h.m1.1]; exact hw) (by rw [h.m1.1]; exact hm) hf, aM_w h.bd hw hf] at this; exact this
theorem va_rng {j : Nat} (hj : j < 74) : 1 ≤ va 1 j ∧ va 1 j < 16 := by
  unfold va
  by_cases h6 : 24 ≤ j ∧ j < 64
  · rw [if_neg (by omega), if_neg (by omega), if_neg (by omega), if_neg (by omega), if_neg (by omega), if_neg (by omega), if_pos (by omega)]; omega
  · repeat' split
    all_goals omega
theorem Inv.set {k : Nat} {σ μ : Mem} (h : Inv k σ μ) {j : Nat} {v : Int32} (hj : j < 74) (hp : PL (aM μ) j) (hb : BD (80 * (k + 1)) (sU (aM μ) j v)) : Inv (k + 1) (mst σ (va 1 j) (vk j) v) (mst μ 1 j v) := by
  have hv := va_rng hj
  refine h.go (fun c hc => mst_c (by omega)) (FR.ofr (fun c hc => mst_c hc)) ?_ ?_
  · rw [aC_set (by rw [h.row]; exact hp), aM_mst hp, h.row]
  · rw [aM_mst hp]; exact hb
theorem mbec {i : Nat} (hi : i < 74) (v : Int32) (μ : Mem) : f_X6_becomes (nI i) v μ = some (μ 1 i, mst μ 1 i v) := by
  unfold f_X6_becomes
  rw [chk_nI hi (by decide), chk_nI hi (by decide), nI_clamp (by omega)]
theorem st_level : ST_level Inv := by
  intro k σ μ x1 x2 hk hI
  show RS k (f_X5_level x1 x2 σ) (f_X6_level x1 x2 μ)
  unfold f_X5_level f_X6_level f_X6_isCell
  rcases gd x1 11 (M := 11) (U := 11) rfl rfl (by decide) with ⟨j, hj, rfl, a1, a2⟩ | ⟨a1, a2⟩
  · rw [if_pos a1, if_neg a2]
    rcases gd x2 9999 (M := 9999) (U := 9999) rfl rfl (by decide) with ⟨v, hv, rfl, b1, b2⟩ | ⟨b1, b2⟩
    · rw [if_pos b1, if_neg b2, chk_nI (by omega) (by decide), chk_nI (by omega) (by decide), n12, mbec (by omega), Option.bind_some, nI_clamp (show j < 2 ^ 31 by omega)]
      refine ⟨_, _, rfl, rfl, hI.ll (by omega), ?_⟩
      have := hI.set (j := 12 + j) (v := nI v) (by omega) (PL_lo (by omega) (by omega)) ((hI.bd.up (by omega)).l (by omega) (Bn_nI hv (by omega)))
      rw [(va_l (by omega)).1, (va_l (b := 1) (show j < 12 by omega)).2] at this
      exact this
    · rw [if_neg b1, if_pos b2]; exact fndB hI
  · rw [if_neg a1, if_pos a2]; exact fndB hI
theorem st_stands : ST_stands Inv := by
  intro k σ μ x1 hk hI
  show RS k (f_X5_stands x1 σ) (f_X6_stands x1 μ)
  unfold f_X5_stands f_X6_stands f_X6_isCell
  rcases gd x1 11 (M := 11) (U := 11) rfl rfl (by decide) with ⟨j, hj, rfl, a1, a2⟩ | ⟨a1, a2⟩
  · rw [if_pos a1, if_neg a2, chk_nI (by omega) (by decide), n12, chk_nI (by omega) (by decide), nI_clamp (show j < 2 ^ 31 by omega), nI_clamp (show 12 + j < 2 ^ 31 by omega)]
    exact ⟨_, _, rfl, rfl, hI.ll (by omega), hI.same⟩
  · rw [if_neg a1, if_pos a2]; exact fndB hI
theorem st_plan : ST_plan Inv := by
  intro k σ μ x1 x2 hk hI
  show RS k (f_X5_plan x1 x2 σ) (f_X6_plan x1 x2 μ)
  unfold f_X5_plan f_X6_plan f_X6_isHour f_X6_isOpening
  rcases gd x1 7 (M := 7) (U := 7) rfl rfl (by decide) with ⟨j, hj, rfl, a1, a2⟩ | ⟨a1, a2⟩
  · rw [if_pos a1, if_neg a2]
    rcases gd x2 99 (M := 99) (U := 99) rfl rfl (by decide) with ⟨v, hv, rfl, b1, b2⟩ | ⟨b1, b2⟩
    · rw [if_pos b1, if_neg b2, chk_nI (by omega) (by decide), chk_nI (by omega) (by decide), n4, mbec (by omega), Option.bind_some, nI_clamp (show j < 2 ^ 31 by omega)]
      refine ⟨_, _, rfl, rfl, hI.pp (by omega), ?_⟩
      have := hI.set (j := 4 + j) (v := nI v) (by omega) (PL_lo (by omega) (by omega)) ((hI.bd.up (by omega)).p (by omega) (Bn_nI hv (by omega)))
      rw [(va_p (by omega)).1, (va_p (b := 1) (show j < 8 by omega)).2] at this
      exact this
    · rw [if_neg b1, if_pos b2]; exact fndB hI
  · rw [if_neg a1, if_pos a2]; exact fndB hI
theorem st_opening : ST_opening Inv := by
  intro k σ μ x1 hk hI
  show RS k (f_X5_opening x1 σ) (f_X6_opening x1 μ)
  unfold f_X5_opening f_X6_opening f_X6_isHour
  rcases gd x1 7 (M := 7) (U := 7) rfl rfl (by decide) with ⟨j, hj, rfl, a1, a2⟩ | ⟨a1, a2⟩
  · rw [if_pos a1, if_neg a2, chk_nI (by omega) (by decide), n4, chk_nI (by omega) (by decide), nI_clamp (show j < 2 ^ 31 by omega), nI_clamp (show 4 + j < 2 ^ 31 by omega)]
    exact ⟨_, _, rfl, rfl, hI.pp (by omega), hI.same⟩
  · rw [if_neg a1, if_pos a2]; exact fndB hI
theorem st_steady : ST_steady Inv := by
  intro k σ μ x1 hk hI
  show RS k (f_X5_steady x1 σ) (f_X6_steady x1 μ)
  unfold f_X5_steady f_X6_steady f_X6_isOpening
  rcases gd x1 99 (M := 99) (U := 99) rfl rfl (by decide) with ⟨v, hv, rfl, a1, a2⟩ | ⟨a1, a2⟩
  · obtain ⟨μ', m1, m2, m3⟩ := mopens_spec (nI v) μ
    rw [if_pos a1, if_neg a2, show f_X4_openingsTogether 2 σ = _ from openings_eq 1 σ, Option.bind_some, openAll_eq, Option.bind_some, mopenings_eq, Option.bind_some, m1, Option.bind_some]
    refine ⟨_, _, rfl, rfl, ?_, ?_⟩
    · show sumF (fun h => aC 1 σ (4 + h)) 8 = sumF (fun h => aM μ (4 + h)) 8
      rw [hI.row]
    · refine hI.go (fun c hc => ?_) (FR.ofr m3) ?_ ?_
      · funext i
        show wopen 2 (nI v) σ c i = σ c i
        unfold wopen
        rw [if_neg (by omega)]
      · rw [m2, ← hI.row]; exact aC_open 1 (nI v) σ
      · rw [m2]; exact (hI.bd.up (by omega)).op (Bn_nI hv (by omega))
  · rw [if_neg a1, if_pos a2]; exact fndB hI
theorem st_watcher : ST_watcher Inv := by
  intro k σ μ x1 x2 hk hI
  show RS k (f_X5_watcher x1 x2 σ) (f_X6_watcher x1 x2 μ)
  unfold f_X5_watcher f_X6_watcher f_X6_isKind f_X6_isCell
  rcases gd x1 6 (M := 6) (U := 6) rfl rfl (by decide) with ⟨j, hj, rfl, a1, a2⟩ | ⟨a1, a2⟩
  · rw [if_pos a1, if_neg a2]
    rcases gd x2 11 (M := 11) (U := 11) rfl rfl (by decide) with ⟨c, hc, rfl, b1, b2⟩ | ⟨b1, b2⟩
    · rw [if_pos b1, if_neg b2]
      obtain ⟨e1, b8⟩ := hI.m1
      have hm := b8.1
      unfold f_X2_isFull
      rw [e1]
      by_cases h8 : tn (μ 1 1) = 8
      · have e8 : μ 1 1 = 8 := by rw [b8.2, h8]; rfl
        rw [e8, if_neg (show ¬ (8 : Int32) < 8 by decide), if_neg (by decide), if_pos rfl]
        exact fnd hI 1 (by decide) (by decide)
      · have l8 : μ 1 1 < 8 := by rw [b8.2]; exact nI_lt (b := 8) (by omega) (by decide)
        have n8 : ¬ μ 1 1 = 8 := fun q => by
          rw [q] at h8; exact h8 rfl
        rw [if_pos l8, if_pos rfl, if_neg n8]
        obtain ⟨σ', c1, c2, c3⟩ := settle_spec (b := 1) (σ := σ) (m := tn (μ 1 1)) (nI j) (nI c) (by rw [e1]; exact b8.2) (by omega)
        obtain ⟨μ', d1, d2, d3⟩ := adds_spec (H := 0) (μ := μ) (m := tn (μ 1 1)) (nI j) (nI c) b8.2 (by omega)
        rw [c1, d1, Option.bind_some, Option.bind_some]
        refine ⟨_, _, rfl, rfl, rfl, hI.go (FC.ofV c3) (FR.ofr d3) (by rw [c2, d2, hI.row]) ?_⟩
        show BD _ (aM μ')
        rw [d2]
        exact (hI.bd.up (by omega)).add (by rw [aM_lo μ (by decide)]; exact b8.2) (by omega) (Bn_nI hc (by omega))
    · rw [if_neg b1, if_pos b2]; exact fndB hI
  · rw [if_neg a1, if_pos a2]; exact fndB hI
theorem x3set_eq {f : Nat} (hf : f < 5) (b : Nat) (v : Int32) (σ : Mem) : f_X3_set b (nI f) v σ = (σ b f, mst σ b f v) := by
  unfold f_X3_set
  rcases (show f = 0 ∨ f = 1 ∨ f = 2 ∨ f = 3 ∨ f = 4 by omega) with rfl | rfl | rfl | rfl | rfl
  · rw [if_pos (by decide)]
  · rw [if_neg (by decide), if_pos (by decide)]
  · rw [if_neg (by decide), if_neg (by decide), if_pos (by decide)]
  · rw [if_neg (by decide), if_neg (by decide), if_neg (by decide), if_pos (by decide)]
  · rw [if_neg (by decide), if_neg (by decide), if_neg (by decide), if_neg (by decide)]
theorem st_of : ST_of Inv := by
  intro k σ μ x1 x2 hk hI
  show RS k (f_X5_of x1 x2 σ) (f_X6_of x1 x2 μ)
  unfold f_X5_of f_X6_of
  rcases gw hI x1 with ⟨w, hw, rfl, a1, a2⟩ | ⟨a1, a2⟩
  · have hm := hI.m1.2.1
    have w0 := hI.ww hw (f := 0) (by decide)
    have w1 := hI.ww hw (f := 1) (by decide)
    have w2 := hI.ww hw (f := 2) (by decide)
    have w3 := hI.ww hw (f := 3) (by decide)
    have w4 := hI.ww hw (f := 4) (by decide)
    rw [show 24 + 5 * w + 0 = 24 + 5 * w by omega] at w0
    rw [show 24 + 5 * w + 1 = 25 + 5 * w by omega] at w1
    rw [show 24 + 5 * w + 2 = 26 + 5 * w by omega] at w2
    rw [show 24 + 5 * w + 3 = 27 + 5 * w by omega] at w3
    rw [show 24 + 5 * w + 4 = 28 + 5 * w by omega] at w4
    rw [if_pos a1, if_neg a2, chk_nI (show w < 8 by omega) (by decide), nI_clamp (show w < 2 ^ 31 by omega)]
    have g := in_iff x2 0 7
    rw [show (0 : Int64).toInt = 0 from rfl, show (7 : Int64).toInt = 7 from rfl] at g
    by_cases hx : 0 ≤ x2.toInt ∧ x2.toInt ≤ 7
    · rw [if_neg (fun q => (g.mp q) hx)]
      have hb := Bn_of (x := x2) (n := 7) hx.1 hx.2 (by decide)
      obtain ⟨j, hj, rfl⟩ : ∃ j, j ≤ 7 ∧ x2 = nI j := ⟨tn x2, hb.1, hb.2⟩
      rcases (show j = 0 ∨ j = 1 ∨ j = 2 ∨ j = 3 ∨ j = 4 ∨ j = 5 ∨ j = 6 ∨ j = 7 by omega) with rfl | rfl | rfl | rfl | rfl | rfl | rfl | rfl
      · rw [if_pos (by decide), if_neg (by decide), its_eq (by omega) (by decide), Option.bind_some]
        exact ⟨_, _, rfl, rfl, w0, hI.same⟩
      · rw [if_neg (by decide), if_pos (by decide), if_neg (by decide), its_eq (by omega) (by decide), Option.bind_some]
        exact ⟨_, _, rfl, rfl, hI.ww hw (by decide), hI.same⟩
      · rw [if_neg (by decide), if_neg (by decide), if_pos (by decide), if_neg (by decide), its_eq (by omega) (by decide), Option.bind_some]
        exact ⟨_, _, rfl, rfl, hI.ww hw (by decide), hI.same⟩
      · rw [if_neg (by decide), if_neg (by decide), if_neg (by decide), if_pos (by decide), if_neg (by decide), its_eq (by omega) (by decide), Option.bind_some]
        exact ⟨_, _, rfl, rfl, hI.ww hw (by decide), hI.same⟩
      · rw [if_neg (by decide), if_neg (by decide), if_neg (by decide), if_neg (by decide), if_pos (by decide), if_neg (by decide), its_eq (by omega) (by decide), Option.bind_some]
        exact ⟨_, _, rfl, rfl, hI.ww hw (by decide), hI.same⟩
      · rw [if_neg (by decide), if_neg (by decide), if_neg (by decide), if_neg (by decide), if_neg (by decide), if_pos (by decide), if_pos (by decide), if_pos (by decide), mbears_eq (by omega), Option.bind_some]
        refine ⟨_, _, rfl, rfl, ?_, hI.same⟩
        show brA (σ (8 + w) 0) (σ (8 + w) 2) (σ (8 + w) 3) = _
        rw [w0, w2, w3]
      · rw [if_neg (by decide), if_neg (by decide), if_neg (by decide), if_neg (by decide), if_neg (by decide), if_neg (by decide), if_pos (by decide), if_pos (by decide), if_neg (by decide), if_pos (by decide), mdoubts_eq (by omega), Option.bind_some]
        refine ⟨_, _, rfl, rfl, ?_, hI.same⟩
        show dbA (σ (8 + w) 0) = _
        rw [w0]
      · rw [if_neg (by decide), if_neg (by decide), if_neg (by decide), if_neg (by decide), if_neg (by decide), if_neg (by decide), if_neg (by decide), if_pos (by decide), if_pos (by decide), if_neg (by decide), if_neg (by decide), mtrusts_eq (by omega), Option.bind_some]
        refine ⟨_, _, rfl, rfl, ?_, hI.same⟩
        show trA (σ (8 + w) 0) = _
        rw [w0]
    · rw [if_pos (g.mpr hx)]
      have ne : ∀ j : Nat, j ≤ 7 → ¬ x2 = nI j := fun j hj q => by
        rw [q, nI_toInt (by omega)] at hx; omega
      rw [if_neg (show ¬ x2 = 0 from ne 0 (by decide)), if_neg (show ¬ x2 = 1 from ne 1 (by decide)), if_neg (show ¬ x2 = 2 from ne 2 (by decide)), if_neg (show ¬ x2 = 3 from ne 3 (by decide)), if_neg (show ¬ x2 = 4 from ne 4 (by decide)), if_neg (show ¬ x2 = 5 from ne 5 (by decide)), if_neg (show ¬ x2 = 6 from ne 6 (by decide)), if_neg (show ¬ x2 = 7 from ne 7 (by decide))]
      exact fndB hI
  · rw [if_neg a1, if_pos a2]; exact fndB hI
theorem st_change : ST_change Inv := by
  intro k σ μ x1 x2 x3 hk hI
  show RS k (f_X5_change x1 x2 x3 σ) (f_X6_change x1 x2 x3 μ)
  unfold f_X5_change f_X6_change f_X6_change_J30
  have no : f_X6_change_J31 x1 x2 x3 μ 0 = ((f_X6_finds (-1000001) μ).bind fun q => some (q.1, q.2)) := by
    unfold f_X6_change_J31
    by_cases h : f_X6_isWatcher x1 μ = 0
    · rw [if_pos h]
    · rw [if_neg h, if_pos rfl]
  rw [no]
  rcases gw hI x1 with ⟨w, hw, rfl, a1, a2⟩ | ⟨a1, a2⟩
  · have hm := hI.m1.2.1
    rw [if_pos a1]
    have g := in_iff x2 0 4
    rw [show (0 : Int64).toInt = 0 from rfl, show (4 : Int64).toInt = 4 from rfl] at g
    by_cases hx : 0 ≤ x2.toInt ∧ x2.toInt ≤ 4
    · rw [if_neg (fun q => (g.mp q) hx)]
      have hb := Bn_of (x := x2) (n := 4) hx.1 hx.2 (by decide)
      obtain ⟨f, hf, rfl⟩ : ∃ j, j ≤ 4 ∧ x2 = nI j := ⟨tn x2, hb.1, hb.2⟩
      have key : ∀ n : Nat, n < 2 ^ 31 → f_X5_mostOf (nI f) = nI n → f_X6_most (nI f) = nI n → (f = 1 → n = 11) → (f = 3 → n = 99) → (f = 4 → n = 9999) → RS k (if f_X5_outside x3 (f_X5_mostOf (nI f)) = 0 then chk (nI w) 8 (some ((f_X3_set (8 + (nI w).toNatClampNeg) (nI f) x3 σ).1, (f_X3_set (8 + (nI w).toNatClampNeg) (nI f) x3 σ).2)) else ((f_X5_finding (-1000001) σ).bind fun q => some (q.1, q.2))) (if f_X6_in x3.toInt64 0 (f_X6_most (nI f)).toInt64 = 0 then ((f_X6_finds (-1000001) μ).bind fun q => some (q.1, q.2)) else f_X6_change_J31 (nI w) (nI f) x3 μ 1) := by
        intro n hn e5 e6 q1 q3 q4
        rw [e5, e6]
        rcases gd x3 n (M := nI n) (U := (nI n).toInt64) (nI_toInt hn) (by rw [Int32.toInt_toInt64, nI_toInt hn]) hn with ⟨v, hv, rfl, b1, b2⟩ | ⟨b1, b2⟩
        · rw [if_pos b1, if_neg b2, chk_nI (show w < 8 by omega) (by decide), nI_clamp (show w < 2 ^ 31 by omega), x3set_eq (by omega)]
          unfold f_X6_change_J31
          rw [if_neg a2, if_neg (by decide), place_nI, mbec (by omega), Option.bind_some]
          refine ⟨_, _, rfl, rfl, hI.ww hw (by omega), ?_⟩
          have hw1 : w < tn (aM μ 1) := by rw [aM_lo μ (by decide)]; exact hw
          have := hI.set (j := 24 + 5 * w + f) (v := nI v) (by omega) (PL_w hw1 (by rw [aM_lo μ (by decide)]; exact hm) (by omega)) ((hI.bd.up (by omega)).w hw1 (by omega) (fun q => Bn_nI (by have := q1 q; omega) (by omega)) (fun q => Bn_nI (by have := q3 q; omega) (by omega)) (fun q => Bn_nI (by have := q4 q; omega) (by omega)))
          rw [(va_w (by omega) (by omega)).1, (va_w (b := 1) (show w < 8 by omega) (show f < 5 by omega)).2] at this
          exact this
        · rw [if_neg b1, if_pos b2]; exact fndB hI
      rcases (show f = 0 ∨ f = 1 ∨ f = 2 ∨ f = 3 ∨ f = 4 by omega) with rfl | rfl | rfl | rfl | rfl
      · exact key 6 (by decide) (by decide) (by decide) (by decide) (by decide) (by decide)
      · exact key 11 (by decide) (by decide) (by decide) (by decide) (by decide) (by decide)
      · exact key 999 (by decide) (by decide) (by decide) (by decide) (by decide) (by decide)
      · exact key 99 (by decide) (by decide) (by decide) (by decide) (by decide) (by decide)
      · exact key 9999 (by decide) (by decide) (by decide) (by decide) (by decide) (by decide)
    · rw [if_pos (g.mpr hx)]
      have ne : ∀ j : Nat, j ≤ 4 → ¬ x2 = nI j := fun j hj q => by
        rw [q, nI_toInt (by omega)] at hx; omega
      have e : f_X5_mostOf x2 = -1 := by
        unfold f_X5_mostOf
        rw [if_neg (show ¬ x2 = 0 from ne 0 (by decide)), if_neg (show ¬ x2 = 1 from ne 1 (by decide)), if_neg (show ¬ x2 = 2 from ne 2 (by decide)), if_neg (show ¬ x2 = 3 from ne 3 (by decide)), if_neg (show ¬ x2 = 4 from ne 4 (by decide))]
      rw [e, if_neg]
      · exact fndB hI
      · rw [out_iff, show (-1 : Int32).toInt = -1 from rfl]
        omega
  · rw [if_neg a1]
    have e2 : f_X6_change_J31 x1 x2 x3 μ 1 = ((f_X6_finds (-1000001) μ).bind fun q => some (q.1, q.2)) := by
      unfold f_X6_change_J31
      rw [if_pos a2]
    rw [e2]
    have : (if f_X6_in x2.toInt64 0 4 = 0 then ((f_X6_finds (-1000001) μ).bind fun q => some (q.1, q.2)) else if f_X6_in x3.toInt64 0 (f_X6_most x2).toInt64 = 0 then ((f_X6_finds (-1000001) μ).bind fun q => some (q.1, q.2)) else ((f_X6_finds (-1000001) μ).bind fun q => some (q.1, q.2))) = ((f_X6_finds (-1000001) μ).bind fun q => some (q.1, q.2)) := by
      rw [ite_self, ite_self]
    rw [this]
    exact fndB hI
theorem st_seed : ST_seed Inv := by
  intro k σ μ x1 hk hI
  unfold f_X6_seed f_X5_seed
  rw [show (3 : Int32) = nI 3 from rfl, mbec (by decide), Option.bind_some]
  exact ⟨_, rfl, hI.zz, hI.set (j := 3) (by decide) (PL_lo (by decide) (by decide)) (hI.bd.up (by omega)).z⟩
theorem st_go : ST_go Inv := by
  intro k σ μ x1 hk hI
  show RS k (f_X5_go x1 σ) (f_X6_go x1 μ)
  unfold f_X5_go f_X6_go
  rcases gd1 x1 1 80 (A := 1) (B := 80) (L := 1) (U := 80) rfl rfl rfl rfl (by decide) with ⟨n, h1, h2, rfl, a1, a2, a3⟩ | ⟨a1, a2⟩
  · rw [if_neg a1, if_pos a2, if_neg a3, hI.h0]
    have b0 := hI.bd.2.2.1
    rw [aM_lo μ (by decide)] at b0
    have b01 := b0.1
    have le : μ 1 0 + nI n ≤ 99999 := by
      rw [b0.2, nI_add]
      exact nI_le (b := 99999) (by omega) (by decide)
    rw [if_pos le, if_pos le, pass_eq n hI.bd1 (by omega) (by omega), Option.bind_some]
    obtain ⟨c1, c2⟩ := vhs_spec hI.bd1 n (by omega)
    obtain ⟨μ', m1, m2, m3⟩ := goesOn_open n hI.bd hI.shut (by omega) (by omega)
    have hb := hI.bd.hrN n (by omega)
    rw [m1, Option.bind_some, knowing_eq (b := 1) (H := 80 * k + n) (by rw [c1, hI.row]; exact hb), Option.bind_some, mknowing_eq (H := 80 * k + n) (by rw [m2]; exact hb), Option.bind_some, c1, m2, hI.row]
    refine ⟨_, _, rfl, rfl, rfl, hI.go (FC.ofV c2) (FR.of1 m3) (by rw [c1, m2, hI.row]) ?_⟩
    show BD _ (aM μ')
    rw [m2]
    exact hb.up (by omega)
  · rw [if_pos a2]
    rcases a1 with a1 | a1
    · rw [if_pos a1]; exact fndB hI
    · by_cases a3 : x1 < 1
      · rw [if_pos a3]; exact fndB hI
      · rw [if_neg a3, if_neg a1]; exact fndB hI
theorem st_now : ST_now Inv := by
  intro k σ μ x1 hk hI
  show RS k (f_X5_now x1 σ) (f_X6_now x1 μ)
  unfold f_X5_now f_X6_now
  rw [show f_X4_levelsTogether 2 σ = _ from levels_eq 1 σ, show f_X4_openingsTogether 2 σ = _ from openings_eq 1 σ, knowing_eq hI.bd1, lacking_eq hI.bd1, beliefs_eq hI.bd1, mlevels_eq, mopenings_eq, mknowing_eq hI.bd, mwanting_eq hI.bd, mbeliefs_eq hI.bd, hI.row, hI.h0, hI.sea]
  by_cases h0 : x1 = 0
  · rw [if_pos h0, if_pos h0]; exact ⟨_, _, rfl, rfl, rfl, hI.same⟩
  · rw [if_neg h0, if_neg h0]
    by_cases h1 : x1 = 1
    · rw [if_pos h1, if_pos h1]; exact ⟨_, _, rfl, rfl, rfl, hI.same⟩
    · rw [if_neg h1, if_neg h1]
      by_cases h2 : x1 = 2
      · rw [if_pos h2, if_pos h2]; exact ⟨_, _, rfl, rfl, rfl, hI.same⟩
      · rw [if_neg h2, if_neg h2]
        by_cases h3 : x1 = 3
        · rw [if_pos h3, if_pos h3]; exact ⟨_, _, rfl, rfl, rfl, hI.same⟩
        · rw [if_neg h3, if_neg h3]
          by_cases h4 : x1 = 4
          · rw [if_pos h4, if_pos h4]; exact ⟨_, _, rfl, rfl, rfl, hI.same⟩
          · rw [if_neg h4, if_neg h4]
            by_cases h5 : x1 = 5
            · rw [if_pos h5, if_pos h5]; exact ⟨_, _, rfl, rfl, rfl, hI.same⟩
            · rw [if_neg h5, if_neg h5]
              by_cases h6 : x1 = 6
              · rw [if_pos h6, if_pos h6]; exact ⟨_, _, rfl, rfl, rfl, hI.same⟩
              · rw [if_neg h6, if_neg h6]; exact fndB hI

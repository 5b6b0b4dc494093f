/-! ===== pure: copy, nights, odds ===== -/
theorem sub_toInt {a b : Nat} (ha : a < 2 ^ 31) (hb : b < 2 ^ 31) : (nI a - nI b).toInt = (a : Int) - b := by
  rw [Int32.toInt_sub, nI_toInt ha, nI_toInt hb]
  exact Int.bmod_eq_of_le (by omega) (by omega)
theorem has_iff {b S : Nat} {σ : Mem} (hS : σ b 2 = nI S) (h40 : S ≤ 40) (x1 x2 : Int32) : f_X1_has b x1 x2 σ = 0 ↔ ¬ (0 ≤ x1.toInt ∧ 0 ≤ x2.toInt ∧ x1.toInt + x2.toInt ≤ S) := by
  unfold f_X1_has
  rw [hS]
  by_cases h1 : x1 < 0
  · have := Int32.lt_iff_toInt_lt.mp h1
    rw [show (0 : Int32).toInt = 0 from rfl] at this
    rw [if_pos h1]
    exact ⟨fun _ => by omega, fun _ => rfl⟩
  · rw [if_neg h1]
    obtain ⟨a, ha, rfl⟩ := nI_of h1
    by_cases h2 : x2 < 0
    · have := Int32.lt_iff_toInt_lt.mp h2
      rw [show (0 : Int32).toInt = 0 from rfl] at this
      rw [if_pos h2]
      exact ⟨fun _ => by omega, fun _ => rfl⟩
    · rw [if_neg h2]
      obtain ⟨n, hn, rfl⟩ := nI_of h2
      rw [nI_toInt ha, nI_toInt hn]
      by_cases h3 : nI S < nI n
      · rw [if_pos h3]
        rw [nI_ltI (by omega) hn] at h3
        exact ⟨fun _ => by omega, fun _ => rfl⟩
      · rw [if_neg h3]
        rw [nI_ltI (by omega) hn] at h3
        rw [pk_sub (by omega)]
        by_cases h4 : nI (S - n) < nI a
        · rw [if_pos h4]
          rw [nI_ltI (by omega) ha] at h4
          exact ⟨fun _ => by omega, fun _ => rfl⟩
        · rw [if_neg h4]
          rw [nI_ltI (by omega) ha] at h4
          exact ⟨fun q => absurd q (by decide), fun q => by omega⟩
theorem mcopy_eq {s a t b n : Nat} (hs : s < 4) (ht : t < 4) (h1 : a + n ≤ 40) (h2 : b + n ≤ 40) (μ : Mem) : it2 (f_X6_copy_B121 (nI s) (nI a) (nI t) (nI b) (nI n)) FU 0 μ = some (nI n, fun c k => if c = 11 ∧ 40 * t + b ≤ k ∧ k < 40 * t + b + n then μ 11 (40 * s + a + (k - (40 * t + b))) else if c = 12 ∧ k < n then μ 11 (40 * s + a + k) else μ c k) := by
  have e : ∀ s a i : Nat, 40 * nI s + nI a + nI i = nI (40 * s + a + i) := fun s a i => by rw [n40, nI_add]
  refine it2_for n (fun i => fun c k => if c = 12 ∧ k < i then μ 11 (40 * s + a + k) else μ c k) (by funext c k; rw [if_neg (by omega)]) (by omega) (fun rec i hi => ?_) (fun rec => ?_)
  · unfold f_X6_copy_B121
    rw [if_neg (nnle hi (by omega)), e, chk_nI (show 40 * s + a + i < 160 by omega) (by decide), chk_nI (show i < 40 by omega) (by decide), nI_1, nI_clamp (show i < 2 ^ 31 by omega), nI_clamp (show 40 * s + a + i < 2 ^ 31 by omega)]
    congr 1
    funext c k
    rw [mst_ap]
    by_cases q : c = 12 ∧ k = i
    · rw [if_pos q]
      dsimp only
      rw [if_neg (by omega), if_pos (by omega), q.2]
    · rw [if_neg q]
      by_cases q2 : c = 12 ∧ k < i
      · rw [if_pos q2, if_pos (by omega)]
      · rw [if_neg q2, if_neg (by omega)]
  · unfold f_X6_copy_B121
    rw [if_pos (nle (Nat.le_refl n) (by omega))]
    refine it2_for n (fun i => fun c k => if c = 11 ∧ 40 * t + b ≤ k ∧ k < 40 * t + b + i then μ 11 (40 * s + a + (k - (40 * t + b))) else if c = 12 ∧ k < n then μ 11 (40 * s + a + k) else μ c k) (by funext c k; rw [if_neg (show ¬ (c = 11 ∧ 40 * t + b ≤ k ∧ k < 40 * t + b + 0) by omega)]) (by omega) (fun rec i hi => ?_) (fun rec => ?_)
    · unfold f_X6_copy_B158
      rw [if_neg (nnle hi (by omega)), e, chk_nI (show i < 40 by omega) (by decide), chk_nI (show 40 * t + b + i < 160 by omega) (by decide), nI_1, nI_clamp (show i < 2 ^ 31 by omega), nI_clamp (show 40 * t + b + i < 2 ^ 31 by omega)]
      congr 1
      funext c k
      rw [mst_ap]
      by_cases q : c = 11 ∧ k = 40 * t + b + i
      · rw [if_pos q]
        dsimp only
        rw [if_neg (by omega), if_pos (by omega), if_pos (by omega), show k - (40 * t + b) = i by omega]
      · rw [if_neg q]
        by_cases q2 : c = 11 ∧ 40 * t + b ≤ k ∧ k < 40 * t + b + i
        · rw [if_pos q2, if_pos (by omega)]
        · rw [if_neg q2, if_neg (show ¬ (c = 11 ∧ 40 * t + b ≤ k ∧ k < 40 * t + b + (i + 1)) by omega)]
    · unfold f_X6_copy_B158
      rw [if_pos (nle (Nat.le_refl n) (by omega))]
theorem st_copy : ST_copy Inv := by
  intro k σ μ x1 x2 x3 x4 x5 hk hI
  show RS k (f_X5_copy x1 x2 x3 x4 x5 σ) (f_X6_copy x1 x2 x3 x4 x5 μ)
  unfold f_X5_copy f_X6_copy f_X6_isOne f_X1_isMissing
  rcases gd x1 3 (M := 3) (U := 3) rfl rfl (by decide) with ⟨s, hs, rfl, a1, a2⟩ | ⟨a1, a2⟩
  · rw [if_pos a1, if_neg a2]
    rcases gd x3 3 (M := 3) (U := 3) rfl rfl (by decide) with ⟨t, ht, rfl, b1, b2⟩ | ⟨b1, b2⟩
    · have hs4 : s < 4 := by omega
      have ht4 : t < 4 := by omega
      simp only [chk_nI hs4 (show 4 < 2 ^ 31 by decide), chk_nI ht4 (show 4 < 2 ^ 31 by decide)]
      rw [if_pos b1, if_neg b2, nI_clamp (show s < 2 ^ 31 by omega), nI_clamp (show t < 2 ^ 31 by omega), hI.sb s hs4, hI.sb t ht4]
      by_cases h9 : μ 9 s = 0
      · rw [if_pos h9, if_neg (by decide), if_pos h9]; exact fnd hI 5 (by decide) (by decide)
      · rw [if_neg h9, if_pos rfl, if_neg h9]
        by_cases g9 : μ 9 t = 0
        · rw [if_pos g9, if_neg (by decide), if_pos g9]; exact fnd hI 5 (by decide) (by decide)
        · rw [if_neg g9, if_pos rfl, if_neg g9]
          by_cases hk : μ 9 s = μ 9 t
          · rw [if_pos hk, if_pos hk]
            obtain ⟨z1, z2⟩ := hI.sz s hs4
            obtain ⟨y1, y2⟩ := hI.sz t ht4
            have z3 := z2.1
            have y3 := y2.1
            have c1 := has_iff (x1 := x2) (x2 := x5) (z1.trans z2.2) z3
            have c2 := has_iff (x1 := x4) (x2 := x5) (y1.trans y2.2) y3
            -- the class says no
            have no5 : ¬ (0 ≤ x2.toInt ∧ 0 ≤ x4.toInt ∧ 0 ≤ x5.toInt ∧ x2.toInt + x5.toInt ≤ tn (μ 10 s) ∧ x4.toInt + x5.toInt ≤ tn (μ 10 t)) → ∀ A : Option (Int32 × Mem), (if f_X1_has (63 + 2 * s) x2 x5 σ = 0 then ((f_X5_finding (-1000001) σ).bind fun q => some (q.1, q.2)) else if f_X1_has (63 + 2 * t) x4 x5 σ = 0 then ((f_X5_finding (-1000001) σ).bind fun q => some (q.1, q.2)) else A) = ((f_X5_finding (-1000001) σ).bind fun q => some (q.1, q.2)) := by
              intro hno A
              by_cases q1 : f_X1_has (63 + 2 * s) x2 x5 σ = 0
              · rw [if_pos q1]
              · rw [if_neg q1]
                rw [c1] at q1
                rw [if_pos (c2.mpr (by omega))]
            by_cases h2 : x2 < 0
            · have h2' := Int32.lt_iff_toInt_lt.mp h2
              rw [show (0 : Int32).toInt = 0 from rfl] at h2'
              rw [if_pos h2, no5 (by omega)]; exact fndB hI
            · rw [if_neg h2]
              by_cases h4 : x4 < 0
              · have h4' := Int32.lt_iff_toInt_lt.mp h4
                rw [show (0 : Int32).toInt = 0 from rfl] at h4'
                rw [if_pos h4, no5 (by omega)]; exact fndB hI
              · rw [if_neg h4]
                by_cases h5 : x5 < 0
                · have h5' := Int32.lt_iff_toInt_lt.mp h5
                  rw [show (0 : Int32).toInt = 0 from rfl] at h5'
                  rw [if_pos h5, no5 (by omega)]; exact fndB hI
                · rw [if_neg h5]
                  obtain ⟨a, ha, rfl⟩ := nI_of h2
                  obtain ⟨b, hb, rfl⟩ := nI_of h4
                  obtain ⟨n, hn, rfl⟩ := nI_of h5
                  rw [nI_toInt ha, nI_toInt hb, nI_toInt hn] at no5
                  rw [nI_toInt ha, nI_toInt hn] at c1
                  rw [nI_toInt hb, nI_toInt hn] at c2
                  have d1 : (μ 10 s - nI a).toInt = (tn (μ 10 s) : Int) - a := by
                    conv => lhs; rw [z2.2]
                    exact sub_toInt (by omega) ha
                  have d2 : (μ 10 t - nI b).toInt = (tn (μ 10 t) : Int) - b := by
                    conv => lhs; rw [y2.2]
                    exact sub_toInt (by omega) hb
                  by_cases h6 : μ 10 s - nI a < nI n
                  · have h6' := Int32.lt_iff_toInt_lt.mp h6
                    rw [d1, nI_toInt hn] at h6'
                    rw [if_pos h6, no5 (by omega)]; exact fndB hI
                  · rw [if_neg h6]
                    rw [Int32.lt_iff_toInt_lt, d1, nI_toInt hn] at h6
                    by_cases h7 : nI n ≤ μ 10 t - nI b
                    · rw [if_pos h7]
                      rw [Int32.le_iff_toInt_le, d2, nI_toInt hn] at h7
                      have hno : ¬ (nI a < 0 ∨ nI b < 0 ∨ nI n < 0 ∨ 40 < (nI a).toNatClampNeg + (nI n).toNatClampNeg ∨ 40 < (nI b).toNatClampNeg + (nI n).toNatClampNeg) := by
                        rw [nI_clamp ha, nI_clamp hb, nI_clamp hn]
                        intro q
                        rcases q with q | q | q | q | q
                        · exact h2 q
                        · exact h4 q
                        · exact h5 q
                        · omega
                        · omega
                      rw [if_neg (fun q => (c1.mp q) (by omega)), if_neg (fun q => (c2.mp q) (by omega))]
                      unfold ccp
                      rw [if_neg hno, mcopy_eq hs4 ht4 (by omega) (by omega), nI_clamp ha, nI_clamp hb, nI_clamp hn]
                      refine ⟨_, _, rfl, rfl, rfl, hI.sh ?_ ?_ ?_ ?_ ?_⟩
                      · intro c hc
                        show mcp σ (63 + 2 * t + 1) _ c = σ c
                        rw [mcp_ap, if_neg (by omega)]
                      · intro c c9 c10 c11 c12
                        funext i
                        show (if c = 11 ∧ 40 * t + b ≤ i ∧ i < 40 * t + b + n then _ else if c = 12 ∧ i < n then _ else μ c i) = μ c i
                        rw [if_neg (by omega), if_neg (by omega)]
                      · intro r hr
                        show mcp σ (63 + 2 * t + 1) _ (63 + 2 * r) 1 = (if 9 = 11 ∧ 40 * t + b ≤ r ∧ r < 40 * t + b + n then μ 11 (40 * s + a + (r - (40 * t + b))) else if 9 = 12 ∧ r < n then μ 11 (40 * s + a + r) else μ 9 r)
                        rw [mcp_ap, if_neg (by omega), if_neg (by omega), if_neg (by omega)]; exact hI.sb r hr
                      · intro r hr
                        show mcp σ (63 + 2 * t + 1) _ (63 + 2 * r) 2 = (if 10 = 11 ∧ 40 * t + b ≤ r ∧ r < 40 * t + b + n then μ 11 (40 * s + a + (r - (40 * t + b))) else if 10 = 12 ∧ r < n then μ 11 (40 * s + a + r) else μ 10 r) ∧ Bn (if 10 = 11 ∧ 40 * t + b ≤ r ∧ r < 40 * t + b + n then μ 11 (40 * s + a + (r - (40 * t + b))) else if 10 = 12 ∧ r < n then μ 11 (40 * s + a + r) else μ 10 r) 40
                        rw [mcp_ap, if_neg (by omega), if_neg (show ¬ (10 = 11 ∧ 40 * t + b ≤ r ∧ r < 40 * t + b + n) by omega), if_neg (show ¬ (10 = 12 ∧ r < n) by omega)]; exact hI.sz r hr
                      · intro r hr i hi
                        show mcp σ (63 + 2 * t + 1) (va_cpy (σ (63 + 2 * s + 1)) (σ (63 + 2 * t + 1)) a b n) (64 + 2 * r) i = (if 11 = 11 ∧ 40 * t + b ≤ 40 * r + i ∧ 40 * r + i < 40 * t + b + n then μ 11 (40 * s + a + (40 * r + i - (40 * t + b))) else if 11 = 12 ∧ 40 * r + i < n then μ 11 (40 * s + a + (40 * r + i)) else μ 11 (40 * r + i))
                        rw [mcp_ap]
                        by_cases e : r = t
                        · subst e
                          rw [if_pos (by omega)]
                          by_cases q : b ≤ i ∧ i < b + n
                          · rw [if_pos (by omega), pk_cpy_in q.1 q.2, show 63 + 2 * s + 1 = 64 + 2 * s by omega, hI.sn s hs4 _ (by omega), show 40 * s + (a + (i - b)) = 40 * s + a + (40 * r + i - (40 * r + b)) by omega]
                          · rw [if_neg (by omega), if_neg (by omega), pk_cpy_out (by omega), show 63 + 2 * r + 1 = 64 + 2 * r by omega]
                            exact hI.sn r hr i hi
                        · rw [if_neg (by omega), if_neg (by omega), if_neg (by omega)]
                          exact hI.sn r hr i hi
                    · rw [if_neg h7]
                      rw [Int32.le_iff_toInt_le, d2, nI_toInt hn] at h7
                      rw [no5 (by omega)]; exact fndB hI
          · rw [if_neg hk, if_neg hk]; exact fnd hI 2 (by decide) (by decide)
    · rw [if_neg b1, if_pos b2]; exact fndB hI
  · rw [if_neg a1, if_pos a2]; exact fndB hI

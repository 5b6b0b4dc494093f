/-! ===== pure: a text as a whole ===== -/
theorem TS.le {L : Nat} {B : Nat → Nat} {σ μ : Mem} {s e : Nat} (h : TS L B σ μ s e) : s ≤ e := by
  by_cases q : s < L
  · have := h.2.2.2.2.2.2.2.1 q; omega
  · have := h.2.2.2.2.2.2.2.2.1 q; omega
theorem kdT_1 {L : Nat} {B : Nat → Nat} {s : Nat} (h : kdT L B s = 1) : s < L := by
  by_cases q : s < L
  · exact q
  · unfold kdT at h
    rw [if_neg q] at h
    exact absurd h (by decide)
theorem row_sim {σ0 μ0 : Mem} {H L : Nat} {B : Nat → Nat} {σ μ : Mem} {s e b c N hi : Nat} (h : GD σ0 μ0 H L B σ μ s e) (hN : 1 ≤ N) (hN2 : N ≤ 12) (hb24 : b + N ≤ 24) (hb1 : 2 ≤ b) (hhi : hi ≤ 9999) (hc : 31 ≤ c) (hc2 : c < 46) (hset : ∀ (τ : Mem) (v1 : Nat) (v2 : Int32), v1 < N → aC 31 (mst τ c v1 v2) = sU (aC 31 τ) (b + v1) v2) (hbd : ∀ (st : St) (v1 v2 : Nat), BD H st → v1 < N → v2 ≤ hi → BD H (sU st (b + v1) (nI v2))) : ∃ σ' μ', f_X0_readInto c N (nI hi) σ = some σ' ∧ ((f_X6_number 0 (nI N - 1) μ).bind fun q_3 => (f_X6_rowItem_J30 (nI hi) q_3 (if (q_3 0 17) = 0 then nI b + (q_3 0 16) else nI b))) = some μ' ∧ ((∃ s' e', GD σ0 μ0 H L B σ' μ' s' e' ∧ s ≤ s') ∨ BX σ0 μ0 σ' μ') := by
  have hle := h.2.2.2.1.le
  have ep : nI N - 1 = nI (N - 1) := pk_sub (a := N) (b := 1) hN
  unfold f_X0_readInto
  rw [show (Int32.ofNat N) - 1 = nI (N - 1) from ep, ep]
  rcases num_sim h (hi := N - 1) (by omega) with ⟨v, σ2, μ2, s2, e2, n1, n2, n3, n4, n5, n6, n7⟩ | ⟨σ2, μ2, n2, n3, n5⟩
  · have hle2 := n5.2.2.2.1.le
    rw [n2, n3, Option.bind_some, Option.bind_some]
    dsimp only
    rw [if_pos (hasFault_no n5.2.2.2.2.1), if_pos n5.2.2.2.2.2.1, n4, nI_add]
    unfold f_X6_rowItem_J30
    rcases num_sim n5 hhi with ⟨v2, σ3, μ3, s3, e3, m1, m2, m3, m4, m5, m6, m7⟩ | ⟨σ3, μ3, m2, m3, m5⟩
    · rw [m2, m3, Option.bind_some, Option.bind_some]
      dsimp only
      have hp : PL (aM μ3) (b + v) := PL_lo (by omega) (by omega)
      rw [if_pos (hasFault_no m5.2.2.2.2.1), if_pos m5.2.2.2.2.2.1, chk_nI (show v < N by omega) (by omega), chk_nI (show b + v < 74 by omega) (by decide), nI_clamp (show v < 2 ^ 31 by omega), nI_clamp (show b + v < 2 ^ 31 by omega), m4]
      refine ⟨_, _, rfl, rfl, Or.inl ⟨s3, e3, m5.row (fun x hx => mst_c (by omega)) (fun x hx => mst_c hx) ?_ ?_, by omega⟩⟩
      · rw [hset _ _ _ (by omega), aM_mst hp, m5.2.2.2.2.2.2.1]
      · rw [aM_mst hp]
        exact hbd _ _ _ m5.2.2.2.2.2.2.2 (by omega) m1
    · rw [m2, m3, Option.bind_some, Option.bind_some]
      dsimp only
      rw [if_neg m5.fault, if_neg m5.wrong, chk_nI (show b + v < 74 by omega) (by decide), chk_nI (show b + v < 74 by omega) (by decide)]
      exact ⟨_, _, rfl, rfl, Or.inr (m5.row (fun x hx => rfl) (fun x hx => mst_c hx))⟩
  · rw [n2, n3, Option.bind_some, Option.bind_some]
    dsimp only
    unfold f_X6_rowItem_J30
    rw [if_neg n5.fault, if_neg n5.wrong, n5.number, Option.bind_some]
    rw [if_neg n5.wrong, chk_nI (show b < 74 by omega) (by decide), chk_nI (show b < 74 by omega) (by decide)]
    exact ⟨_, _, rfl, rfl, Or.inr (n5.row (fun x hx => rfl) (fun x hx => mst_c hx))⟩
theorem steady_sim {σ0 μ0 : Mem} {H L : Nat} {B : Nat → Nat} {σ μ : Mem} {s e : Nat} (h : GD σ0 μ0 H L B σ μ s e) : ∃ σ' μ', f_X0_readSteady 32 σ = some σ' ∧ ((f_X6_number 0 99 μ).bind fun q_11 => (if (q_11 0 17) = 0 then ((f_X6_opensAll (q_11 0 16) q_11).bind fun q_14 => some q_14) else some q_11)) = some μ' ∧ ((∃ s' e', GD σ0 μ0 H L B σ' μ' s' e' ∧ s ≤ s') ∨ BX σ0 μ0 σ' μ') := by
  have hle := h.2.2.2.1.le
  unfold f_X0_readSteady
  rw [show (99 : Int32) = nI 99 from rfl]
  rcases num_sim h (hi := 99) (by decide) with ⟨v, σ2, μ2, s2, e2, n1, n2, n3, n4, n5, n6, n7⟩ | ⟨σ2, μ2, n2, n3, n5⟩
  · rw [n2, n3, Option.bind_some, Option.bind_some]
    dsimp only
    obtain ⟨μ3, o1, o2, o3⟩ := mopens_spec (nI v) μ2
    rw [if_pos (hasFault_no n5.2.2.2.2.1), if_pos n5.2.2.2.2.2.1, n4, openAll_eq, Option.bind_some, o1, Option.bind_some]
    refine ⟨_, _, rfl, rfl, Or.inl ⟨s2, e2, n5.row (fun x hx => ?_) o3 ?_ ?_, by omega⟩⟩
    · funext i
      unfold wopen
      rw [if_neg (by omega)]
    · rw [o2, ← n5.2.2.2.2.2.2.1]
      exact aC_open 31 (nI v) σ2
    · rw [o2]
      exact n5.2.2.2.2.2.2.2.op (Bn_nI n1 (by omega))
  · rw [n2, n3, Option.bind_some, Option.bind_some]
    dsimp only
    rw [if_neg n5.fault, if_neg n5.wrong]
    exact ⟨_, _, rfl, rfl, Or.inr n5⟩
theorem watcher_sim {σ0 μ0 : Mem} {H L : Nat} {B : Nat → Nat} {σ μ : Mem} {s e j : Nat} (h : GD σ0 μ0 H L B σ μ s e) (hsL : s < L) : ∃ σ' μ', f_X0_readWatcher (nI j) 31 σ = some σ' ∧ f_X6_watcherItem (nI j) μ = some μ' ∧ ((∃ s' e', GD σ0 μ0 H L B σ' μ' s' e' ∧ s + 1 ≤ s') ∨ BX σ0 μ0 σ' μ') := by
  have h0 := h
  obtain ⟨h1, h2, h3, h4, h5, h6, h7, h8⟩ := h
  have hse := h4.2.2.2.2.2.2.2.1 hsL
  have b8 := h8.2.1
  have hm := b8.1
  have e31 : σ 31 3 = aM μ 1 := by
    have := congrFun h7 1
    rw [aC_1] at this
    exact this
  have e61 : μ 1 1 = aM μ 1 := (aM_lo μ (by decide)).symm
  unfold f_X0_readWatcher f_X6_watcherItem f_X6_watcherItem_J17 f_X2_isFull
  rw [e31, e61]
  by_cases hfull : tn (aM μ 1) = 8
  · have e8 : aM μ 1 = 8 := by rw [b8.2, hfull]; rfl
    rw [e8, if_neg (show ¬ (8 : Int32) < 8 by decide), if_neg (show ¬ (1 : Int32) = 0 by decide), if_pos (Int32.le_refl _), must0 h6, Option.bind_some]
    have hb := h0.bad
    rw [if_neg hb.wrong]
    exact ⟨_, _, rfl, rfl, Or.inr hb⟩
  · have l8 : aM μ 1 < 8 := by rw [b8.2]; exact nI_lt (b := 8) (by omega) (by decide)
    have g8 : ¬ 8 ≤ aM μ 1 := Int32.not_le.mpr l8
    obtain ⟨σ1, μ1, s1, e1, a1, a2, a3, a4, a5, -⟩ := h0.adv
    rw [if_pos l8, if_pos rfl, if_neg g8, must1 h6, a1, a2, Option.bind_some, Option.bind_some]
    have r31 : σ1 31 3 = nI (tn (aM μ 1)) := by
      have := congrFun a3.2.2.2.2.2.2.1 1
      rw [aC_1, a5] at this
      rw [this]; exact b8.2
    have r61 : μ1 1 1 = nI (tn (aM μ 1)) := by
      rw [← aM_lo μ1 (by decide), a5]; exact b8.2
    obtain ⟨σ2, c1, c2, c3⟩ := settle_spec (b := 31) (nI j) 0 r31 (by omega)
    obtain ⟨μ2, d1, d2, d3⟩ := adds_spec (H := 0) (nI j) 0 r61 (by omega)
    rw [if_pos a3.2.2.2.2.2.1, c1, d1, Option.bind_some, Option.bind_some]
    dsimp only
    have hb2 : BD H (addR (aM μ) (tn (aM μ 1)) (nI j) 0) := h8.add b8.2 (by omega) (Bn_0 11)
    have g2 : GD σ0 μ0 H L B σ2 μ2 s1 e1 := a3.row (fun x hx => c3 x (by omega)) d3 (by rw [c2, d2, a3.2.2.2.2.2.2.1]) (by rw [d2, a5]; exact hb2)
    have m2 : aM μ2 1 = nI (tn (aM μ 1) + 1) := by rw [d2, addR_1]
    have hw2 : tn (aM μ 1) < tn (aM μ2 1) := by rw [m2, tn_nI (by omega)]; omega
    rw [chk_nI (show tn (aM μ 1) < 8 by omega) (by decide)]
    generalize hW : tn (aM μ 1) = w at *
    have p1 : f_X6_place (nI w) 1 = nI (24 + 5 * w + 1) := place_nI w 1
    have p2 : f_X6_place (nI w) 2 = nI (24 + 5 * w + 2) := place_nI w 2
    have p3 : f_X6_place (nI w) 3 = nI (24 + 5 * w + 3) := place_nI w 3
    rw [p1, p2, p3, show (52 : Int64) = lN (cWn 7) from rfl, show (24165011 : Int64) = lN (cWn 8) from rfl, show (74500462771 : Int64) = lN (cWn 9) from rfl, show (999 : Int32) = nI 999 from rfl, show (99 : Int32) = nI 99 from rfl, show (11 : Int32) = nI 11 from rfl, nI_clamp (show w < 2 ^ 31 by omega)]
    -- the third field
    have last : ∀ (σ' μ' : Mem) (s' e' : Nat), GD σ0 μ0 H L B σ' μ' s' e' → s + 1 ≤ s' → w < tn (aM μ' 1) → ∃ σ'' μ'', f_X0_readWatcher_J74 31 (nI w, σ2) σ' = some σ'' ∧ f_X6_perhaps (lN (cWn 9)) (nI (24 + 5 * w + 3)) (nI 99) μ' = some μ'' ∧ ((∃ s' e', GD σ0 μ0 H L B σ'' μ'' s' e' ∧ s + 1 ≤ s') ∨ BX σ0 μ0 σ'' μ'') := by
      intro σ' μ' s' e' g hs hww
      obtain ⟨σ3, μ3, q1, q2, q3⟩ := perh_sim g (z := 9) (w := w) (f := 3) (hi := 99) (by decide) hww (by decide) (by decide) (fun q => absurd q (by decide)) (fun _ => Nat.le_refl _) (by decide) (K := fun τ => some τ)
      refine ⟨σ3, μ3, ?_, q2, ?_⟩
      · unfold f_X0_readWatcher_J74
        dsimp only
        rw [if_pos (hasFault_no g.2.2.2.2.1), show (99 : Int32) = nI 99 from rfl, nI_clamp (show w < 2 ^ 31 by omega)]
        exact q1
      · rcases q3 with ⟨s3, e3, g3, hs3, -⟩ | g3
        · exact Or.inl ⟨s3, e3, g3, by omega⟩
        · exact Or.inr g3
    have lastB : ∀ (σ' μ' : Mem), BX σ0 μ0 σ' μ' → f_X0_readWatcher_J74 31 (nI w, σ2) σ' = some σ' ∧ f_X6_perhaps (lN (cWn 9)) (nI (24 + 5 * w + 3)) (nI 99) μ' = some μ' := by
      intro σ' μ' g
      refine ⟨?_, perh_bad g (by decide) _ _⟩
      unfold f_X0_readWatcher_J74
      rw [if_neg g.fault]
    -- the second field
    have second : ∀ (σ' μ' : Mem) (s' e' : Nat), GD σ0 μ0 H L B σ' μ' s' e' → s + 1 ≤ s' → w < tn (aM μ' 1) → ∃ σ'' μ'', f_X0_readWatcher_J47 31 (nI w, σ2) σ' = some σ'' ∧ ((f_X6_perhaps (lN (cWn 8)) (nI (24 + 5 * w + 2)) (nI 999) μ').bind fun q_9 => ((f_X6_perhaps (lN (cWn 9)) (nI (24 + 5 * w + 3)) (nI 99) q_9).bind fun q_11 => some q_11)) = some μ'' ∧ ((∃ s' e', GD σ0 μ0 H L B σ'' μ'' s' e' ∧ s + 1 ≤ s') ∨ BX σ0 μ0 σ'' μ'') := by
      intro σ' μ' s' e' g hs hww
      obtain ⟨σ3, μ3, q1, q2, q3⟩ := perh_sim g (z := 8) (w := w) (f := 2) (hi := 999) (by decide) hww (by decide) (by decide) (fun q => absurd q (by decide)) (fun q => absurd q (by decide)) (by decide) (K := fun τ => f_X0_readWatcher_J74 31 (nI w, σ2) τ)
      have c47 : f_X0_readWatcher_J47 31 (nI w, σ2) σ' = f_X0_readWatcher_J74 31 (nI w, σ2) σ3 := by
        unfold f_X0_readWatcher_J47
        dsimp only
        rw [if_pos (hasFault_no g.2.2.2.2.1), show (999 : Int32) = nI 999 from rfl, nI_clamp (show w < 2 ^ 31 by omega)]
        exact q1
      rw [c47, q2, Option.bind_some]
      rcases q3 with ⟨s3, e3, g3, hs3, hm3⟩ | g3
      · obtain ⟨σ4, μ4, l1, l2, l3⟩ := last σ3 μ3 s3 e3 g3 (by omega) (by rw [hm3]; exact hww)
        rw [l1, l2, Option.bind_some]
        exact ⟨σ4, μ4, rfl, rfl, l3⟩
      · obtain ⟨l1, l2⟩ := lastB σ3 μ3 g3
        rw [l1, l2, Option.bind_some]
        exact ⟨σ3, μ3, rfl, rfl, Or.inr g3⟩
    have secondB : ∀ (σ' μ' : Mem), BX σ0 μ0 σ' μ' → f_X0_readWatcher_J47 31 (nI w, σ2) σ' = some σ' ∧ ((f_X6_perhaps (lN (cWn 8)) (nI (24 + 5 * w + 2)) (nI 999) μ').bind fun q_9 => ((f_X6_perhaps (lN (cWn 9)) (nI (24 + 5 * w + 3)) (nI 99) q_9).bind fun q_11 => some q_11)) = some μ' := by
      intro σ' μ' g
      obtain ⟨l1, l2⟩ := lastB σ' μ' g
      refine ⟨?_, ?_⟩
      · unfold f_X0_readWatcher_J47
        rw [if_neg g.fault]
        exact l1
      · rw [perh_bad g (by decide), Option.bind_some, l2, Option.bind_some]
    obtain ⟨σ3, μ3, q1, q2, q3⟩ := perh_sim g2 (z := 7) (w := w) (f := 1) (hi := 11) (by decide) hw2 (by decide) (by decide) (fun _ => Nat.le_refl _) (fun q => absurd q (by decide)) (by decide) (K := fun τ => f_X0_readWatcher_J47 31 (nI w, σ2) τ)
    rw [q2, Option.bind_some]
    rcases q3 with ⟨s3, e3, g3, hs3, hm3⟩ | g3
    · obtain ⟨σ4, μ4, l1, l2, l3⟩ := second σ3 μ3 s3 e3 g3 (by omega) (by rw [hm3]; exact hw2)
      exact ⟨σ4, μ4, q1.trans l1, l2, l3⟩
    · obtain ⟨l1, l2⟩ := secondB σ3 μ3 g3
      exact ⟨σ3, μ3, q1.trans l1, l2, Or.inr g3⟩
theorem kind_sim {σ0 μ0 : Mem} {H L : Nat} {B : Nat → Nat} {σ μ : Mem} {s e : Nat} (h : GD σ0 μ0 H L B σ μ s e) : ∃ kv, f_X0_kindNamed σ = some kv ∧ f_X6_kindHere μ = some kv ∧ ((∃ j, j ≤ 6 ∧ kv = nI j ∧ kdT L B s = 1) ∨ kv = -1) := by
  obtain ⟨h1, h2, h3, h4, h5, h6, h7, h8⟩ := h
  have st : ∀ fu k z, k < 7 → z < 13 → f_X0_nameOf (nI k) σ = z → it1 (f_X0_kindNamed_B2 σ) (fu + 1) (nI k) = if (kdT L B s = 1 ∧ capV B s (e - s) = cWn z) then some (nI k) else it1 (f_X0_kindNamed_B2 σ) fu (nI (k + 1)) := by
    intro fu k z hk hz hn
    show f_X0_kindNamed_B2 σ (it1 (f_X0_kindNamed_B2 σ) fu) (nI k) = _
    generalize it1 (f_X0_kindNamed_B2 σ) fu = R
    unfold f_X0_kindNamed_B2
    rw [if_neg (show ¬ (7 : Int32) ≤ nI k from nnle hk (by decide)), hn, isWord_eq h3 h4 hz, Option.bind_some, nI_1]
    by_cases hw : kdT L B s = 1 ∧ capV B s (e - s) = cWn z
    · rw [if_pos hw, if_pos hw, if_neg (by decide)]
    · rw [if_neg hw, if_neg hw, if_pos rfl]
  have en : it1 (f_X0_kindNamed_B2 σ) (992 + 1) (nI 7) = some (-1) := by
    show f_X0_kindNamed_B2 σ (it1 (f_X0_kindNamed_B2 σ) 992) (nI 7) = _
    unfold f_X0_kindNamed_B2
    rw [if_pos (show (7 : Int32) ≤ nI 7 from Int32.le_refl _)]
  unfold f_X0_kindNamed f_X6_kindHere
  rw [show it1 (f_X0_kindNamed_B2 σ) FU 0 = it1 (f_X0_kindNamed_B2 σ) (992 + 1 + 1 + 1 + 1 + 1 + 1 + 1 + 1) (nI 0) from rfl, st _ 0 6 (by decide) (by decide) rfl, st _ 1 0 (by decide) (by decide) rfl, st _ 2 1 (by decide) (by decide) rfl, st _ 3 2 (by decide) (by decide) rfl, st _ 4 3 (by decide) (by decide) rfl, st _ 5 4 (by decide) (by decide) rfl, st _ 6 5 (by decide) (by decide) rfl, en, word_eq h3 h4 h6, Option.bind_some]
  rw [show (24750694578 : Int64) = lN (cWn 6) from rfl, show (435596 : Int64) = lN (cWn 0) from rfl, show (539828 : Int64) = lN (cWn 1) from rfl, show (18226974674418 : Int64) = lN (cWn 2) from rfl, show (4820390066 : Int64) = lN (cWn 3) from rfl, show (206440 : Int64) = lN (cWn 4) from rfl, show (86282469 : Int64) = lN (cWn 5) from rfl]
  by_cases w6 : kdT L B s = 1 ∧ capV B s (e - s) = cWn 6
  · rw [if_pos w6, if_pos ((lgw' h4 (by decide)).mpr w6)]
    exact ⟨_, rfl, rfl, Or.inl ⟨0, by decide, rfl, w6.1⟩⟩
  · rw [if_neg w6, if_neg (fun q => w6 ((lgw' h4 (by decide)).mp q))]
    by_cases w0 : kdT L B s = 1 ∧ capV B s (e - s) = cWn 0
    · rw [if_pos w0, if_pos ((lgw' h4 (by decide)).mpr w0)]
      exact ⟨_, rfl, rfl, Or.inl ⟨1, by decide, rfl, w0.1⟩⟩
    · rw [if_neg w0, if_neg (fun q => w0 ((lgw' h4 (by decide)).mp q))]
      by_cases w1 : kdT L B s = 1 ∧ capV B s (e - s) = cWn 1
      · rw [if_pos w1, if_pos ((lgw' h4 (by decide)).mpr w1)]
        exact ⟨_, rfl, rfl, Or.inl ⟨2, by decide, rfl, w1.1⟩⟩
      · rw [if_neg w1, if_neg (fun q => w1 ((lgw' h4 (by decide)).mp q))]
        by_cases w2 : kdT L B s = 1 ∧ capV B s (e - s) = cWn 2
        · rw [if_pos w2, if_pos ((lgw' h4 (by decide)).mpr w2)]
          exact ⟨_, rfl, rfl, Or.inl ⟨3, by decide, rfl, w2.1⟩⟩
        · rw [if_neg w2, if_neg (fun q => w2 ((lgw' h4 (by decide)).mp q))]
          by_cases w3 : kdT L B s = 1 ∧ capV B s (e - s) = cWn 3
          · rw [if_pos w3, if_pos ((lgw' h4 (by decide)).mpr w3)]
            exact ⟨_, rfl, rfl, Or.inl ⟨4, by decide, rfl, w3.1⟩⟩
          · rw [if_neg w3, if_neg (fun q => w3 ((lgw' h4 (by decide)).mp q))]
            by_cases w4 : kdT L B s = 1 ∧ capV B s (e - s) = cWn 4
            · rw [if_pos w4, if_pos ((lgw' h4 (by decide)).mpr w4)]
              exact ⟨_, rfl, rfl, Or.inl ⟨5, by decide, rfl, w4.1⟩⟩
            · rw [if_neg w4, if_neg (fun q => w4 ((lgw' h4 (by decide)).mp q))]
              by_cases w5 : kdT L B s = 1 ∧ capV B s (e - s) = cWn 5
              · rw [if_pos w5, if_pos ((lgw' h4 (by decide)).mpr w5)]
                exact ⟨_, rfl, rfl, Or.inl ⟨6, by decide, rfl, w5.1⟩⟩
              · rw [if_neg w5, if_neg (fun q => w5 ((lgw' h4 (by decide)).mp q))]
                exact ⟨_, rfl, rfl, Or.inr rfl⟩
theorem item_sim {σ0 μ0 : Mem} {H L : Nat} {B : Nat → Nat} {σ μ : Mem} {s e : Nat} (h : GD σ0 μ0 H L B σ μ s e) : ∃ σ' μ', f_X0_readItem 31 σ = some σ' ∧ f_X6_item μ = some μ' ∧ ((∃ s' e', GD σ0 μ0 H L B σ' μ' s' e' ∧ s + 1 ≤ s') ∨ BX σ0 μ0 σ' μ') := by
  have h0 := h
  obtain ⟨h1, h2, h3, h4, h5, h6, h7, h8⟩ := h
  obtain ⟨kv, k1, k2, k3⟩ := kind_sim h0
  unfold f_X0_readItem f_X6_item
  rw [k1, k2, Option.bind_some, Option.bind_some, word_eq h3 h4 h6, Option.bind_some]
  rcases k3 with ⟨j, hj, rfl, hk⟩ | rfl
  · have hsL := kdT_1 hk
    rw [if_neg (show ¬ nI j = -1 from fun q => by
      have := congrArg Int32.toInt q
      rw [nI_toInt (by omega), show (-1 : Int32).toInt = -1 from rfl] at this
      omega), if_neg (nI_pos (by omega)), bid, bid]
    exact watcher_sim h0 hsL
  · rw [if_pos rfl, if_pos (show (-1 : Int32) < 0 by decide), show (12769452 : Int64) = lN (cWn 10) from rfl, show (536622 : Int64) = lN (cWn 11) from rfl, show (658670745 : Int64) = lN (cWn 12) from rfl]
    obtain ⟨σ1, μ1, s1, e1, a1, a2, a3, a4, a5, -⟩ := h0.adv
    by_cases w10 : kdT L B s = 1 ∧ capV B s (e - s) = cWn 10
    · have hse := h4.2.2.2.2.2.2.2.1 (kdT_1 w10.1)
      rw [takes_yes h0 (by decide) w10 a1, Option.bind_some]
      dsimp only
      rw [if_neg (show ¬ (1 : Int32) = 0 by decide), if_pos ((lgw' h4 (by decide)).mpr w10), bid, bid]
      unfold f_X6_rowItem
      rw [must1 h6, a2, Option.bind_some]
      obtain ⟨σ2, μ2, r1, r2, r3⟩ := row_sim a3 (b := 12) (c := 33) (N := 12) (hi := 9999) (by decide) (by decide) (by decide) (by decide) (by decide) (by decide) (by decide) (fun τ v1 v2 hv => aC_sl (b := 31) hv) (fun st v1 v2 hst hv1 hv2 => hst.l hv1 (Bn_nI hv2 (by omega)))
      refine ⟨σ2, μ2, r1, r2, ?_⟩
      rcases r3 with ⟨s2, e2, g2, hs2⟩ | g2
      · exact Or.inl ⟨s2, e2, g2, by omega⟩
      · exact Or.inr g2
    · rw [takes_no h0 (by decide) w10, Option.bind_some]
      dsimp only
      rw [if_pos rfl, if_neg (fun q => w10 ((lgw' h4 (by decide)).mp q))]
      by_cases w11 : kdT L B s = 1 ∧ capV B s (e - s) = cWn 11
      · have hse := h4.2.2.2.2.2.2.2.1 (kdT_1 w11.1)
        rw [takes_yes h0 (by decide) w11 a1, Option.bind_some]
        dsimp only
        rw [if_neg (show ¬ (1 : Int32) = 0 by decide), if_pos ((lgw' h4 (by decide)).mpr w11), bid, bid]
        unfold f_X6_rowItem
        rw [must1 h6, a2, Option.bind_some]
        obtain ⟨σ2, μ2, r1, r2, r3⟩ := row_sim a3 (b := 4) (c := 35) (N := 8) (hi := 99) (by decide) (by decide) (by decide) (by decide) (by decide) (by decide) (by decide) (fun τ v1 v2 hv => aC_sp (b := 31) hv) (fun st v1 v2 hst hv1 hv2 => hst.p hv1 (Bn_nI hv2 (by omega)))
        refine ⟨σ2, μ2, r1, r2, ?_⟩
        rcases r3 with ⟨s2, e2, g2, hs2⟩ | g2
        · exact Or.inl ⟨s2, e2, g2, by omega⟩
        · exact Or.inr g2
      · rw [takes_no h0 (by decide) w11, Option.bind_some]
        dsimp only
        rw [if_pos rfl, if_neg (fun q => w11 ((lgw' h4 (by decide)).mp q))]
        unfold f_X6_item_J78
        by_cases w12 : kdT L B s = 1 ∧ capV B s (e - s) = cWn 12
        · have hse := h4.2.2.2.2.2.2.2.1 (kdT_1 w12.1)
          rw [takes_yes h0 (by decide) w12 a1, Option.bind_some]
          dsimp only
          rw [if_neg (show ¬ (1 : Int32) = 0 by decide), if_pos ((lgw' h4 (by decide)).mpr w12), bid, must1 h6, a2, Option.bind_some]
          obtain ⟨σ2, μ2, r1, r2, r3⟩ := steady_sim a3
          refine ⟨σ2, μ2, r1, r2, ?_⟩
          rcases r3 with ⟨s2, e2, g2, hs2⟩ | g2
          · exact Or.inl ⟨s2, e2, g2, by omega⟩
          · exact Or.inr g2
        · rw [takes_no h0 (by decide) w12, Option.bind_some]
          dsimp only
          have hb := h0.bad
          rw [if_pos rfl, if_neg (fun q => w12 ((lgw' h4 (by decide)).mp q)), must0 h6, Option.bind_some, hb.number, Option.bind_some, if_neg hb.wrong]
          exact ⟨_, _, rfl, rfl, Or.inr hb⟩

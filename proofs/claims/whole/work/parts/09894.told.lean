/-! ===== pure: what a sheet tells; fits, opened, kinds ===== -/
/-- the numbers from the i-th on are as told -/
def tld (N f : Nat → Int32) : Nat → Nat → Bool
  | 0, _ => true
  | d + 1, i => if N i = -1 ∨ N i = f i then tld N f d (i + 1) else false
theorem allows_eq {b i : Nat} (hi : i < 40) (v : Int32) (σ : Mem) : f_X1_allows b (nI i) v σ = some (if σ (b + 1) i = -1 ∨ σ (b + 1) i = v then 1 else 0) := by
  unfold f_X1_allows
  rw [chk_nI hi (by decide), chk_nI hi (by decide), nI_clamp (by omega)]
  by_cases h1 : σ (b + 1) i = -1
  · rw [if_pos h1, if_pos (Or.inl h1)]
  · rw [if_neg h1]
    by_cases h2 : σ (b + 1) i = v
    · rw [if_pos h2, if_pos (Or.inr h2)]
    · rw [if_neg h2, if_neg (fun q => q.elim h1 h2)]
theorem isTold_eq {k : Nat} {σ μ : Mem} (hI : Inv k σ μ) (hk : k < 512) {s j : Nat} (hs : s < 4) {S : St} (hS : BD (80 * k) S) (h1 : S 1 = μ 1 1) (hj : j < 24 ∨ (24 ≤ j ∧ j < 24 + 5 * tn (μ 1 1))) {ν : Mem} (hA : AS μ ν) (hr : aM ν = S) : ∃ ν', f_X6_isTold (nI s) (nI j) ν = some ((if tld (fun i => μ 11 (40 * s + i)) (fun i => hrN i S j) (tn (μ 10 s)) 0 = true then 1 else 0), ν') ∧ AS μ ν' ∧ aM ν' = aM μ ∧ (∀ x, ν' 0 x = ν 0 x) := by
  unfold f_X6_isTold
  have hm := hI.m1.2.1
  obtain ⟨-, z2⟩ := hI.sz s hs
  have z3 := z2.1
  -- the end
  have fin : ∀ (θ : Mem) (v : Int32), v = 0 ∨ v = 1 → AS μ θ → (∀ x, θ 0 x = ν 0 x) → ∃ ν', f_X6_isTold_J67 v θ = some (v, ν') ∧ AS μ ν' ∧ aM ν' = aM μ ∧ (∀ x, ν' 0 x = ν 0 x) := by
    intro θ v hv hA hx
    unfold f_X6_isTold_J67 f_X6_isTold_J77
    obtain ⟨ν', b1, b2, b3, b4⟩ := hA.back v
    have ev : (if v = 0 then (0 : Int32) else 1) = v := by
      rcases hv with rfl | rfl <;> rfl
    rw [ev, b1, Option.bind_some]
    refine ⟨ν', ?_, b2, b3, fun x => by rw [b4 0 (by decide)]; exact hx x⟩
    dsimp only
    rcases hv with rfl | rfl
    · rw [if_neg (by decide)]
    · rw [if_pos rfl]
  have key : ∀ d fu i (θ : Mem), i + d = tn (μ 10 s) → d + 1 < fu → AS μ θ → aM θ = hrN i S → (∀ x, θ 0 x = ν 0 x) → ∃ ν', it3 (f_X6_isTold_B5 (nI s) (nI j)) fu 1 (nI i) θ = some ((if tld (fun i => μ 11 (40 * s + i)) (fun i => hrN i S j) d i = true then 1 else 0), ν') ∧ AS μ ν' ∧ aM ν' = aM μ ∧ (∀ x, ν' 0 x = ν 0 x) := by
    intro d
    induction d with
    | zero =>
      intro fu i θ hd hf hA hr hx
      match fu, hf with
      | fu + 1, hf =>
        show ∃ ν', f_X6_isTold_B5 (nI s) (nI j) (it3 (f_X6_isTold_B5 (nI s) (nI j)) fu) 1 (nI i) θ = some (1, ν') ∧ _
        unfold f_X6_isTold_B5
        rw [chk_nI hs (by decide), nI_clamp (show s < 2 ^ 31 by omega), hA.2.1 10 (by omega), z2.2, if_pos (nle (by omega) (by omega))]
        exact fin θ 1 (Or.inr rfl) hA hx
    | succ d ih =>
      intro fu i θ hd hf hA hr hx
      match fu, hf with
      | fu + 1, hf =>
        have ex : it3 (f_X6_isTold_B5 (nI s) (nI j)) (fu + 1) 1 (nI i) θ = f_X6_isTold_B5 (nI s) (nI j) (it3 (f_X6_isTold_B5 (nI s) (nI j)) fu) 1 (nI i) θ := rfl
        rw [ex]
        replace ih := ih fu (i + 1)
        have e3 : ∀ θ' : Mem, AS μ θ' → (∀ x, θ' 0 x = ν 0 x) → ∃ ν', it3 (f_X6_isTold_B5 (nI s) (nI j)) fu 0 (nI (i + 1)) θ' = some (0, ν') ∧ AS μ ν' ∧ aM ν' = aM μ ∧ (∀ x, ν' 0 x = ν 0 x) := by
          intro θ' hA' hx'
          obtain ⟨g', rfl⟩ : ∃ g', fu = g' + 1 := ⟨fu - 1, by omega⟩
          show ∃ ν', f_X6_isTold_B5 (nI s) (nI j) (it3 (f_X6_isTold_B5 (nI s) (nI j)) g') 0 (nI (i + 1)) θ' = some (0, ν') ∧ _
          unfold f_X6_isTold_B5
          rw [chk_nI hs (by decide), if_pos (show (0 : Int32) = 0 from rfl), ite_self]
          exact fin θ' 0 (Or.inl rfl) hA' hx'
        revert ih e3
        generalize it3 (f_X6_isTold_B5 (nI s) (nI j)) fu = R
        intro ih e3
        unfold f_X6_isTold_B5 f_X6_isTold_J51 f_X6_isTold_J56
        have hb : BD (80 * k + i) (aM θ) := by rw [hr]; exact hS.hrN i (by omega)
        obtain ⟨θ2, g1, g2, -, g4⟩ := hour_open hb (hA.shut hI) (by omega)
        have ev : θ 1 j = hrN i S j := by
          rw [← hr]
          refine aM_at ?_
          rw [hr, hrN_1, h1]
          omega
        have hA2 := hA.step g4
        have hx2 : ∀ x, θ2 0 x = ν 0 x := fun x => by rw [g4 0 (by decide) (by decide)]; exact hx x
        rw [chk_nI hs (by decide), nI_clamp (show s < 2 ^ 31 by omega), hA.2.1 10 (by omega), hA.2.1 11 (by omega), if_neg (show ¬ μ 10 s ≤ nI i by rw [z2.2]; exact nnle (by omega) (by omega)), if_neg (show ¬ (1 : Int32) = 0 by decide), n40, chk_nI (show 40 * s + i < 160 by omega) (by decide), nI_clamp (show 40 * s + i < 2 ^ 31 by omega), chk_nI (show j < 74 by omega) (by decide), nI_clamp (show j < 2 ^ 31 by omega), ev, g1, Option.bind_some, Option.bind_some, nI_1]
        have go1 : ∃ ν', R 1 (nI (i + 1)) θ2 = some ((if tld (fun i => μ 11 (40 * s + i)) (fun i => hrN i S j) d (i + 1) = true then 1 else 0), ν') ∧ AS μ ν' ∧ aM ν' = aM μ ∧ (∀ x, ν' 0 x = ν 0 x) := ih θ2 (by omega) (by omega) hA2 (by rw [g2, hr]; rfl) hx2
        have et : tld (fun i => μ 11 (40 * s + i)) (fun i => hrN i S j) (d + 1) i = (if μ 11 (40 * s + i) = -1 ∨ μ 11 (40 * s + i) = hrN i S j then tld (fun i => μ 11 (40 * s + i)) (fun i => hrN i S j) d (i + 1) else false) := rfl
        rw [et]
        by_cases q1 : μ 11 (40 * s + i) = -1
        · rw [if_pos q1, if_pos (Or.inl q1)]; exact go1
        · rw [if_neg q1]
          by_cases q2 : μ 11 (40 * s + i) = hrN i S j
          · rw [if_pos q2, if_pos (Or.inr q2)]; exact go1
          · rw [if_neg q2, if_neg (show ¬ (μ 11 (40 * s + i) = -1 ∨ μ 11 (40 * s + i) = hrN i S j) from fun q => q.elim q1 q2), if_neg (show ¬ false = true by decide)]
            exact e3 θ2 hA2 hx2
  exact key (tn (μ 10 s)) FU 0 ν (by omega) (show tn (μ 10 s) + 1 < 1000 by omega) hA (by rw [hr]; rfl) (fun _ => rfl)
theorem couldOpen_eq {k : Nat} {σ μ τ : Mem} (hI : Inv k σ μ) (hk : k < 512) (hT : FT σ τ) {s h c v : Nat} (hs : s < 4) (hh : h < 8) (hc : c < 12) (hv : v ≤ 99) : ∃ τ', f_X5_couldBeOpened (nI v) (63 + 2 * s) (nI h) (nI c) τ = some ((if tld (fun i => μ 11 (40 * s + i)) (fun i => hrN i (sU (aM μ) (4 + h) (nI v)) (12 + c)) (tn (μ 10 s)) 0 = true then 1 else 0), τ') ∧ FT σ τ' := by
  unfold f_X5_couldBeOpened
  obtain ⟨z1, z2⟩ := hI.sz s hs
  have z3 := z2.1
  have hb : BD (80 * k) (sU (aM μ) (4 + h) (nI v)) := hI.bd.p hh (Bn_nI hv (by omega))
  have hW : WT 32 (mst (f_X5_waterTried τ) 35 h (nI v)) (sU (aM μ) (4 + h) (nI v)) := by
    have hw := tried_WT τ
    rw [hT.row, hI.row] at hw
    obtain ⟨p1, p2, p3, p4⟩ := hw
    refine ⟨?_, ?_, ?_, ?_⟩
    · rw [mst_c (by decide), sU_ne (by omega)]; exact p1
    · rw [mst_c (by decide), sU_ne (by omega)]; exact p2
    · intro h' hh'
      rw [mst_ap]
      by_cases e : h' = h
      · rw [if_pos ⟨rfl, e⟩, e, sU_at]
      · rw [if_neg (by omega), sU_ne (by omega)]; exact p3 h' hh'
    · intro c' hc'
      rw [mst_c (by decide), sU_ne (by omega)]; exact p4 c' hc'
  have ft : FT σ (mst (f_X5_waterTried τ) 35 h (nI v)) := (hT.trans (FT_tried τ)).trans (fun c hc => mst_c (by omega))
  rw [chk_nI hh (by decide), nI_clamp (show h < 2 ^ 31 by omega)]
  have key : ∀ d fu i (θ : Mem), i + d = tn (μ 10 s) → d < fu → WT 32 θ (hrN i (sU (aM μ) (4 + h) (nI v))) → FT σ θ → ∃ τ', it2 (f_X5_couldBeOpened_B17 (63 + 2 * s) (nI c)) fu (nI i) θ = some ((if tld (fun i => μ 11 (40 * s + i)) (fun i => hrN i (sU (aM μ) (4 + h) (nI v)) (12 + c)) d i = true then 1 else 0), τ') ∧ FT σ τ' := by
    intro d
    induction d with
    | zero =>
      intro fu i θ hd hf hW hT
      match fu, hf with
      | fu + 1, hf =>
        show ∃ τ', f_X5_couldBeOpened_B17 (63 + 2 * s) (nI c) (it2 (f_X5_couldBeOpened_B17 (63 + 2 * s) (nI c)) fu) (nI i) θ = some (1, τ') ∧ _
        unfold f_X5_couldBeOpened_B17
        rw [hT _ (by omega), z1, z2.2, if_pos (nle (by omega) (by omega))]
        exact ⟨θ, rfl, hT⟩
    | succ d ih =>
      intro fu i θ hd hf hW hT
      match fu, hf with
      | fu + 1, hf =>
        have ex : it2 (f_X5_couldBeOpened_B17 (63 + 2 * s) (nI c)) (fu + 1) (nI i) θ = f_X5_couldBeOpened_B17 (63 + 2 * s) (nI c) (it2 (f_X5_couldBeOpened_B17 (63 + 2 * s) (nI c)) fu) (nI i) θ := rfl
        rw [ex]
        replace ih := ih fu (i + 1)
        revert ih
        generalize it2 (f_X5_couldBeOpened_B17 (63 + 2 * s) (nI c)) fu = R
        intro ih
        unfold f_X5_couldBeOpened_B17
        have hb2 : BD (80 * k + i) (hrN i (sU (aM μ) (4 + h) (nI v))) := hb.hrN i (by omega)
        obtain ⟨r1, r2⟩ := wrun1 hW hb2 (by omega)
        have en : θ (63 + 2 * s + 1) i = μ 11 (40 * s + i) := by
          rw [hT _ (by omega), show 63 + 2 * s + 1 = 64 + 2 * s by omega]
          exact hI.sn s hs i (by omega)
        rw [hT (63 + 2 * s) (by omega), z1, if_neg (show ¬ μ 10 s ≤ nI i by rw [z2.2]; exact nnle (by omega) (by omega)), chk_nI hc (by decide), nI_clamp (show c < 2 ^ 31 by omega), hW.2.2.2 c hc, allows_eq (show i < 40 by omega), Option.bind_some, en, r1, Option.bind_some, nI_1]
        have et : tld (fun i => μ 11 (40 * s + i)) (fun i => hrN i (sU (aM μ) (4 + h) (nI v)) (12 + c)) (d + 1) i = (if μ 11 (40 * s + i) = -1 ∨ μ 11 (40 * s + i) = hrN i (sU (aM μ) (4 + h) (nI v)) (12 + c) then tld (fun i => μ 11 (40 * s + i)) (fun i => hrN i (sU (aM μ) (4 + h) (nI v)) (12 + c)) d (i + 1) else false) := rfl
        rw [et]
        by_cases q : μ 11 (40 * s + i) = -1 ∨ μ 11 (40 * s + i) = hrN i (sU (aM μ) (4 + h) (nI v)) (12 + c)
        · rw [if_pos q, if_pos q, if_neg (by decide)]
          exact ih _ (by omega) (by omega) r2 (hT.trans (FT_wstep θ))
        · rw [if_neg q, if_neg q, if_pos rfl, if_neg (show ¬ false = true by decide)]
          exact ⟨θ, rfl, hT⟩
  exact key (tn (μ 10 s)) FU 0 _ (by omega) (show tn (μ 10 s) < 1000 by omega) hW ft
/-- the reference's least of those that fit -/
def lsO (O : Nat → Bool) : Nat → Int32
  | 0 => -1
  | v + 1 => if O v = true then (if cntN O v = 0 then nI v else lsO O v) else lsO O v
theorem cnt_0 {O : Nat → Bool} : ∀ v, (∀ t, t < v → O t = false) → cntN O v = 0 ∧ lsO O v = -1
  | 0, _ => ⟨rfl, rfl⟩
  | v + 1, h => by
    obtain ⟨h1, h2⟩ := cnt_0 v (fun t ht => h t (by omega))
    unfold cntN lsO
    rw [h v (by omega), h1, h2]
    exact ⟨rfl, rfl⟩
theorem ls_first {O : Nat → Bool} {v : Nat} (hv : O v = true) (hn : ∀ t, t < v → O t = false) : ∀ d, lsO O (v + 1 + d) = nI v ∧ 1 ≤ cntN O (v + 1 + d)
  | 0 => by
    obtain ⟨h1, h2⟩ := cnt_0 v hn
    show lsO O (v + 1) = nI v ∧ 1 ≤ cntN O (v + 1)
    unfold cntN lsO
    rw [hv, h1, if_pos rfl, if_pos rfl]
    exact ⟨rfl, by decide⟩
  | d + 1 => by
    obtain ⟨h1, h2⟩ := ls_first hv hn d
    show lsO O (v + 1 + d + 1) = nI v ∧ 1 ≤ cntN O (v + 1 + d + 1)
    unfold cntN lsO
    rw [h1, if_neg (show ¬ cntN O (v + 1 + d) = 0 by omega), ite_self]
    exact ⟨rfl, by omega⟩
theorem findOpened_eq {k : Nat} {σ μ : Mem} (hI : Inv k σ μ) (hk : k < 512) {s h c : Nat} (hs : s < 4) (hh : h < 8) (hc : c < 12) (O : Nat → Bool) (hO : ∀ v, v ≤ 99 → O v = tld (fun i => μ 11 (40 * s + i)) (fun i => hrN i (sU (aM μ) (4 + h) (nI v)) (12 + c)) (tn (μ 10 s)) 0) : ∃ μ', f_X6_findOpened (nI s) (nI h) (nI c) μ = some μ' ∧ FR μ μ' ∧ aM μ' = aM μ ∧ μ' 0 11 = nI (cntN O 100) ∧ μ' 0 10 = lsO O 100 := by
  unfold f_X6_findOpened
  obtain ⟨μ1, m1, m2, m3, m4⟩ := aside (mst (mst μ 0 10 (-1)) 0 11 0)
  rw [m1, Option.bind_some]
  have e1 : mst (mst μ 0 10 (-1)) 0 11 0 1 = μ 1 := by rw [mst_c (by decide), mst_c (by decide)]
  have as0 : AS μ μ1 := by
    refine ⟨fun i hi => by rw [m2.1 i hi, e1], FR.trans ⟨fun x hx => ?_, fun x hx => ?_⟩ m2.2⟩
    · rw [mst_c (by omega), mst_c (by omega)]
    · rw [mst_ap, if_neg (by omega), mst_ap, if_neg (by omega)]
  have r0 : aM μ1 = aM μ := by rw [m3]; exact aM_frame e1
  have key : ∀ d fu v (ν : Mem), v + d = 100 → d < fu → AS μ ν → aM ν = aM μ → ν 0 11 = nI (cntN O v) → ν 0 10 = lsO O v → ∃ μ', it2 (f_X6_findOpened_B17 (nI s) (nI h) (nI c)) fu (nI v) ν = some μ' ∧ FR μ μ' ∧ aM μ' = aM μ ∧ μ' 0 11 = nI (cntN O 100) ∧ μ' 0 10 = lsO O 100 := by
    intro d
    induction d with
    | zero =>
      intro fu v ν hd hf hA hr h11 h10
      match fu, hf with
      | fu + 1, hf =>
        show ∃ μ', f_X6_findOpened_B17 (nI s) (nI h) (nI c) (it2 (f_X6_findOpened_B17 (nI s) (nI h) (nI c)) fu) (nI v) ν = some μ' ∧ _
        unfold f_X6_findOpened_B17
        obtain rfl : v = 100 := by omega
        rw [if_pos (by decide)]
        exact ⟨ν, rfl, hA.2, hr, h11, h10⟩
    | succ d ih =>
      intro fu v ν hd hf hA hr h11 h10
      match fu, hf with
      | fu + 1, hf =>
        have ex : it2 (f_X6_findOpened_B17 (nI s) (nI h) (nI c)) (fu + 1) (nI v) ν = f_X6_findOpened_B17 (nI s) (nI h) (nI c) (it2 (f_X6_findOpened_B17 (nI s) (nI h) (nI c)) fu) (nI v) ν := rfl
        rw [ex]
        replace ih := ih fu (v + 1)
        revert ih
        generalize it2 (f_X6_findOpened_B17 (nI s) (nI h) (nI c)) fu = R
        intro ih
        unfold f_X6_findOpened_B17 f_X6_findOpened_J63 f_X6_findOpened_J76
        have hb : BD (80 * k) (sU (aM μ) (4 + h) (nI v)) := hI.bd.p hh (Bn_nI (by omega) (by omega))
        have r6 : aM (mst ν 1 (4 + h) (nI v)) = sU (aM μ) (4 + h) (nI v) := by
          rw [aM_mst (PL_lo (by omega) (by omega)), hr]
        obtain ⟨ν2, t1, t2, t3, t4⟩ := isTold_eq hI hk (s := s) (j := 12 + c) hs hb (by rw [sU_ne (by omega), aM_lo μ (by decide)]) (Or.inl (by omega)) (hA.row (j := 4 + h) (v := nI v)) r6
        have x11 : ν2 0 11 = nI (cntN O v) := by rw [t4, mst_c (by decide)]; exact h11
        have x10 : ν2 0 10 = lsO O v := by rw [t4, mst_c (by decide)]; exact h10
        have hcl := cntN_le O v
        rw [if_neg (show ¬ (99 : Int32) < nI v by rw [show (99 : Int32) = nI 99 from rfl, nI_ltI (by decide) (by omega)]; omega), n4, chk_nI (show 4 + h < 74 by omega) (by decide), nI_clamp (show 4 + h < 2 ^ 31 by omega), n12, t1, Option.bind_some, ← hO v (by omega)]
        dsimp only
        by_cases ho : O v = true
        · have ei : (if ν2 0 11 = 0 then nI v else ν2 0 10) = (if cntN O v = 0 then nI v else lsO O v) := by
            by_cases h0 : cntN O v = 0
            · rw [if_pos h0, if_pos (by rw [x11, h0]; rfl)]
            · rw [if_neg h0, if_neg (by rw [x11]; exact nI_ne0 (by omega) (by omega)), x10]
          rw [if_pos ho, if_neg (by decide), ei, nI_1]
          have e11 : mst ν2 0 10 (if cntN O v = 0 then nI v else lsO O v) 0 11 = nI (cntN O v) := by
            rw [mst_ap, if_neg (by decide)]; exact x11
          rw [e11, nI_1]
          refine ih _ (by omega) (by omega) ?_ ?_ ?_ ?_
          · refine ⟨fun i hi => ?_, t2.2.trans ⟨fun x hx => ?_, fun x hx => ?_⟩⟩
            · rw [mst_c (by decide), mst_c (by decide)]; exact t2.1 i hi
            · rw [mst_c (by omega), mst_c (by omega)]
            · rw [mst_ap, if_neg (by omega), mst_ap, if_neg (by omega)]
          · rw [aM_frame (μ := ν2) (by rw [mst_c (by decide), mst_c (by decide)]), t3]
          · rw [mst_ap, if_pos ⟨rfl, rfl⟩]
            show _ = nI (cntN O v + (if O v = true then 1 else 0))
            rw [if_pos ho]
          · rw [mst_ap, if_neg (by decide), mst_ap, if_pos ⟨rfl, rfl⟩]
            show _ = (if O v = true then (if cntN O v = 0 then nI v else lsO O v) else lsO O v)
            rw [if_pos ho]
        · rw [if_neg ho, if_pos rfl, nI_1]
          refine ih ν2 (by omega) (by omega) t2 t3 ?_ ?_
          · rw [x11]
            show _ = nI (cntN O v + (if O v = true then 1 else 0))
            rw [if_neg ho]
            rfl
          · rw [x10]
            show _ = (if O v = true then (if cntN O v = 0 then nI v else lsO O v) else lsO O v)
            rw [if_neg ho]
  refine key 100 FU 0 μ1 (by decide) (by decide) as0 r0 ?_ ?_
  · rw [m4 0 (by decide), mst_ap, if_pos ⟨rfl, rfl⟩]; rfl
  · rw [m4 0 (by decide), mst_ap, if_neg (by decide), mst_ap, if_pos ⟨rfl, rfl⟩]; rfl
theorem troubleO {k : Nat} {σ μ : Mem} (hI : Inv k σ μ) (x y z : Int32) : (∃ s h c, s < 4 ∧ h < 8 ∧ c < 12 ∧ x = nI s ∧ y = nI h ∧ z = nI c ∧ f_X5_fittingTrouble x y z σ = some 0 ∧ f_X6_wrongOpened x y z μ = some 0) ∨ (∃ c j, j < 7 ∧ c = -1000001 - nI j ∧ c ≠ 0 ∧ f_X5_fittingTrouble x y z σ = some c ∧ f_X6_wrongOpened x y z μ = some c) := by
  unfold f_X5_fittingTrouble f_X6_wrongOpened f_X6_isHour f_X6_isCell
  rcases trouble hI x with ⟨s, hs, e, t1, t2⟩ | ⟨c, j, hj, hc, hc0, t1, t2⟩
  · rw [t1, t2, Option.bind_some, Option.bind_some, if_pos rfl, if_pos rfl]
    rcases gd y 7 (M := 7) (U := 7) rfl rfl (by decide) with ⟨h, hh, e2, a1, a2⟩ | ⟨a1, a2⟩
    · rw [if_pos a1, if_neg a2]
      rcases gd z 11 (M := 11) (U := 11) rfl rfl (by decide) with ⟨c, hc, e3, b1, b2⟩ | ⟨b1, b2⟩
      · rw [if_pos b1, if_neg b2]
        exact Or.inl ⟨s, h, c, hs, by omega, by omega, e, e2, e3, rfl, rfl⟩
      · rw [if_neg b1, if_pos b2]
        exact Or.inr ⟨-1000001, 0, by decide, by decide, by decide, rfl, rfl⟩
    · rw [if_neg a1, if_pos a2]
      exact Or.inr ⟨-1000001, 0, by decide, by decide, by decide, rfl, rfl⟩
  · rw [t1, t2, Option.bind_some, Option.bind_some, if_neg hc0, if_neg hc0]
    exact Or.inr ⟨c, j, hj, hc, hc0, rfl, rfl⟩
theorem st_fits : ST_fits Inv := by
  intro k σ μ x1 x2 x3 hk hI
  show RS k (f_X5_fits x1 x2 x3 σ) (f_X6_fits x1 x2 x3 μ)
  unfold f_X5_fits f_X6_fits
  rcases troubleO hI x1 x2 x3 with ⟨s, h, c, hs, hh, hc, rfl, rfl, rfl, t1, t2⟩ | ⟨c, j, hj, hc, hc0, t1, t2⟩
  · rw [t1, t2, Option.bind_some, Option.bind_some, if_pos rfl, if_pos rfl]
    obtain ⟨O, hO⟩ : ∃ O : Nat → Bool, ∀ v, v ≤ 99 → O v = tld (fun i => μ 11 (40 * s + i)) (fun i => hrN i (sU (aM μ) (4 + h) (nI v)) (12 + c)) (tn (μ 10 s)) 0 := ⟨fun v => tld (fun i => μ 11 (40 * s + i)) (fun i => hrN i (sU (aM μ) (4 + h) (nI v)) (12 + c)) (tn (μ 10 s)) 0, fun _ _ => rfl⟩
    obtain ⟨μ', f1, f2, f3, f4, f5⟩ := findOpened_eq hI hk hs hh hc O hO
    rw [f1, Option.bind_some]
    have cls : ∀ d fu v (τ : Mem), v + d = 100 → d < fu → FT σ τ → ∃ τ', it3 (f_X5_fits_B27 (nI s) (nI h) (nI c)) fu (nI (cntN O v)) (nI v) τ = some (nI (cntN O 100), τ') ∧ FT σ τ' := by
      intro d
      induction d with
      | zero =>
        intro fu v τ hd hf hT
        match fu, hf with
        | fu + 1, hf =>
          show ∃ τ', f_X5_fits_B27 (nI s) (nI h) (nI c) (it3 (f_X5_fits_B27 (nI s) (nI h) (nI c)) fu) _ (nI v) τ = _ ∧ _
          unfold f_X5_fits_B27
          obtain rfl : v = 100 := by omega
          rw [if_pos (by decide)]
          exact ⟨τ, rfl, hT⟩
      | succ d ih =>
        intro fu v τ hd hf hT
        match fu, hf with
        | fu + 1, hf =>
          have ex : ∀ a, it3 (f_X5_fits_B27 (nI s) (nI h) (nI c)) (fu + 1) a (nI v) τ = f_X5_fits_B27 (nI s) (nI h) (nI c) (it3 (f_X5_fits_B27 (nI s) (nI h) (nI c)) fu) a (nI v) τ := fun _ => rfl
          rw [ex]
          replace ih := ih fu (v + 1)
          revert ih
          generalize it3 (f_X5_fits_B27 (nI s) (nI h) (nI c)) fu = R
          intro ih
          unfold f_X5_fits_B27 f_X5_fits_J54
          obtain ⟨τ1, q1, q2⟩ := couldOpen_eq hI hk hT hs hh hc (show v ≤ 99 by omega)
          rw [if_neg (show ¬ (99 : Int32) < nI v by rw [show (99 : Int32) = nI 99 from rfl, nI_ltI (by decide) (by omega)]; omega), chk_nI hs (by decide), nI_clamp (show s < 2 ^ 31 by omega), q1, Option.bind_some, nI_1 v, nI_1 (cntN O v), ← hO v (by omega)]
          dsimp only
          have es : cntN O (v + 1) = cntN O v + (if O v = true then 1 else 0) := rfl
          have nx := ih τ1 (by omega) (by omega) q2
          rw [es] at nx
          by_cases ho : O v = true
          · rw [if_pos ho] at nx ⊢
            rw [if_neg (by decide)]
            exact nx
          · rw [if_neg ho] at nx ⊢
            rw [if_pos rfl]
            exact nx
    obtain ⟨τ', q1, q2⟩ := cls 100 FU 0 σ (by decide) (by decide) (FT.rfl' σ)
    rw [show it3 (f_X5_fits_B27 (nI s) (nI h) (nI c)) FU 0 0 σ = _ from q1]
    exact ⟨_, _, rfl, rfl, f4.symm, hI.tr q2 f2 f3⟩
  · rw [t1, t2, Option.bind_some, Option.bind_some, if_neg hc0, if_neg hc0]
    exact fnd hI j hj hc
theorem st_opened : ST_opened Inv := by
  intro k σ μ x1 x2 x3 hk hI
  show RS k (f_X5_opened x1 x2 x3 σ) (f_X6_opened x1 x2 x3 μ)
  unfold f_X5_opened f_X6_opened
  rcases troubleO hI x1 x2 x3 with ⟨s, h, c, hs, hh, hc, rfl, rfl, rfl, t1, t2⟩ | ⟨c, j, hj, hc, hc0, t1, t2⟩
  · rw [t1, t2, Option.bind_some, Option.bind_some, if_pos rfl, if_pos rfl]
    obtain ⟨O, hO⟩ : ∃ O : Nat → Bool, ∀ v, v ≤ 99 → O v = tld (fun i => μ 11 (40 * s + i)) (fun i => hrN i (sU (aM μ) (4 + h) (nI v)) (12 + c)) (tn (μ 10 s)) 0 := ⟨fun v => tld (fun i => μ 11 (40 * s + i)) (fun i => hrN i (sU (aM μ) (4 + h) (nI v)) (12 + c)) (tn (μ 10 s)) 0, fun _ _ => rfl⟩
    obtain ⟨μ', f1, f2, f3, f4, f5⟩ := findOpened_eq hI hk hs hh hc O hO
    rw [f1, Option.bind_some, f5]
    have cls : ∀ d fu v (τ : Mem), v + d = 100 → d < fu → FT σ τ → (∀ t, t < v → O t = false) → RS k (it2 (f_X5_opened_B24 (nI s) (nI h) (nI c)) fu (nI v) τ) (if 0 ≤ lsO O 100 then some (lsO O 100, μ') else ((f_X6_finds (-1000004) μ').bind fun q => some (q.1, q.2))) := by
      intro d
      induction d with
      | zero =>
        intro fu v τ hd hf hT hno
        match fu, hf with
        | fu + 1, hf =>
          show RS k (f_X5_opened_B24 (nI s) (nI h) (nI c) (it2 (f_X5_opened_B24 (nI s) (nI h) (nI c)) fu) (nI v) τ) _
          unfold f_X5_opened_B24
          obtain rfl : v = 100 := by omega
          rw [if_pos (by decide), (cnt_0 100 hno).2, if_neg (by decide)]
          exact fndN (hI.tr0 hT f2 f3)
      | succ d ih =>
        intro fu v τ hd hf hT hno
        match fu, hf with
        | fu + 1, hf =>
          show RS k (f_X5_opened_B24 (nI s) (nI h) (nI c) (it2 (f_X5_opened_B24 (nI s) (nI h) (nI c)) fu) (nI v) τ) _
          replace ih := ih fu (v + 1)
          revert ih
          generalize it2 (f_X5_opened_B24 (nI s) (nI h) (nI c)) fu = R
          intro ih
          unfold f_X5_opened_B24
          obtain ⟨τ1, q1, q2⟩ := couldOpen_eq hI hk hT hs hh hc (show v ≤ 99 by omega)
          rw [if_neg (show ¬ (99 : Int32) < nI v by rw [show (99 : Int32) = nI 99 from rfl, nI_ltI (by decide) (by omega)]; omega), chk_nI hs (by decide), nI_clamp (show s < 2 ^ 31 by omega), q1, Option.bind_some, nI_1, ← hO v (by omega)]
          dsimp only
          by_cases ho : O v = true
          · have hl := (ls_first ho hno (99 - v)).1
            rw [show v + 1 + (99 - v) = 100 by omega] at hl
            rw [if_pos ho, if_neg (by decide), hl, if_pos (nI_pos' (by omega))]
            exact ⟨_, _, rfl, rfl, rfl, hI.tr q2 f2 f3⟩
          · rw [if_neg ho, if_pos rfl]
            refine ih τ1 (by omega) (by omega) q2 (fun t ht => ?_)
            by_cases e : t = v
            · rw [e]; simpa using ho
            · exact hno t (by omega)
    exact cls 100 FU 0 σ (by decide) (by decide) (FT.rfl' σ) (fun t ht => by omega)
  · rw [t1, t2, Option.bind_some, Option.bind_some, if_neg hc0, if_neg hc0]
    exact fnd hI j hj hc
theorem couldKind_eq {k : Nat} {σ μ τ : Mem} (hI : Inv k σ μ) (hk : k < 512) (hT : FT σ τ) {s w : Nat} (v : Int32) (hs : s < 4) (hw : w < tn (μ 1 1)) : ∃ τ', f_X5_couldBeOfKind v (63 + 2 * s) (nI w) τ = some ((if tld (fun i => μ 11 (40 * s + i)) (fun i => hrN i (sU (aM μ) (24 + 5 * w) v) (27 + 5 * w)) (tn (μ 10 s)) 0 = true then 1 else 0), τ') ∧ FT σ τ' := by
  unfold f_X5_couldBeOfKind
  have hm := hI.m1.2.1
  have hwa : w < tn (aM μ 1) := by rw [aM_lo μ (by decide)]; exact hw
  obtain ⟨z1, z2⟩ := hI.sz s hs
  have z3 := z2.1
  have hb : BD (80 * k) (sU (aM μ) (24 + 5 * w) v) := hI.bd.w hwa (f := 0) (by decide) (fun q => absurd q (by decide)) (fun q => absurd q (by decide)) (fun q => absurd q (by decide))
  obtain ⟨τ1, t1, t2, t3, -⟩ := trial hI hT
  have q3 : τ1 31 3 = μ 1 1 := by
    have := congrFun t2 1
    rw [aC_1, aM_lo μ (by decide)] at this
    exact this
  have r5 : aC 31 (mst τ1 (38 + w) 0 v) = sU (aM μ) (24 + 5 * w) v := by
    have := aC_sw (b := 31) (σ := τ1) (w := w) (f := 0) (v := v) (by rw [q3]; exact hw) (by rw [q3]; exact hm) (by decide)
    rw [t2] at this
    exact this
  have ft : FT σ (mst τ1 (38 + w) 0 v) := t3.trans (fun c hc => mst_c (by omega))
  rw [t1, Option.bind_some, chk_nI (show w < 8 by omega) (by decide), nI_clamp (show w < 2 ^ 31 by omega)]
  have key : ∀ d fu i (θ : Mem), i + d = tn (μ 10 s) → d < fu → aC 31 θ = hrN i (sU (aM μ) (24 + 5 * w) v) → FT σ θ → ∃ τ', it2 (f_X5_couldBeOfKind_B27 (63 + 2 * s) (nI w)) fu (nI i) θ = some ((if tld (fun i => μ 11 (40 * s + i)) (fun i => hrN i (sU (aM μ) (24 + 5 * w) v) (27 + 5 * w)) d i = true then 1 else 0), τ') ∧ FT σ τ' := by
    intro d
    induction d with
    | zero =>
      intro fu i θ hd hf hW hT
      match fu, hf with
      | fu + 1, hf =>
        show ∃ τ', f_X5_couldBeOfKind_B27 (63 + 2 * s) (nI w) (it2 (f_X5_couldBeOfKind_B27 (63 + 2 * s) (nI w)) fu) (nI i) θ = some (1, τ') ∧ _
        unfold f_X5_couldBeOfKind_B27
        rw [hT _ (by omega), z1, z2.2, if_pos (nle (by omega) (by omega))]
        exact ⟨θ, rfl, hT⟩
    | succ d ih =>
      intro fu i θ hd hf hW hT
      match fu, hf with
      | fu + 1, hf =>
        have ex : it2 (f_X5_couldBeOfKind_B27 (63 + 2 * s) (nI w)) (fu + 1) (nI i) θ = f_X5_couldBeOfKind_B27 (63 + 2 * s) (nI w) (it2 (f_X5_couldBeOfKind_B27 (63 + 2 * s) (nI w)) fu) (nI i) θ := rfl
        rw [ex]
        replace ih := ih fu (i + 1)
        revert ih
        generalize it2 (f_X5_couldBeOfKind_B27 (63 + 2 * s) (nI w)) fu = R
        intro ih
        unfold f_X5_couldBeOfKind_B27
        have hb2 : BD (80 * k + i) (hrN i (sU (aM μ) (24 + 5 * w) v)) := hb.hrN i (by omega)
        obtain ⟨τ2, r1, r2, r3, -⟩ := passT 1 (Or.inl rfl) hW hb2 (by omega) (by decide)
        have e1 : hrN i (sU (aM μ) (24 + 5 * w) v) 1 = μ 1 1 := by rw [hrN_1, sU_ne (by omega), aM_lo μ (by decide)]
        have v5 : θ (38 + w) 3 = hrN i (sU (aM μ) (24 + 5 * w) v) (27 + 5 * w) := by
          have := aC_at (b := 31) (τ := θ) (w := w) (f := 3) (by rw [hW, e1]; exact hw) (by rw [hW, e1]; exact hm) (by decide)
          rw [hW, show 24 + 5 * w + 3 = 27 + 5 * w by omega] at this
          exact this
        have en : θ (63 + 2 * s + 1) i = μ 11 (40 * s + i) := by
          rw [hT _ (by omega), show 63 + 2 * s + 1 = 64 + 2 * s by omega]
          exact hI.sn s hs i (by omega)
        rw [hT (63 + 2 * s) (by omega), z1, if_neg (show ¬ μ 10 s ≤ nI i by rw [z2.2]; exact nnle (by omega) (by omega)), chk_nI (show w < 8 by omega) (by decide), nI_clamp (show w < 2 ^ 31 by omega), v5, allows_eq (show i < 40 by omega), Option.bind_some, en, show f_X2_pass 31 1 θ = _ from r1, Option.bind_some, nI_1]
        have et : tld (fun i => μ 11 (40 * s + i)) (fun i => hrN i (sU (aM μ) (24 + 5 * w) v) (27 + 5 * w)) (d + 1) i = (if μ 11 (40 * s + i) = -1 ∨ μ 11 (40 * s + i) = hrN i (sU (aM μ) (24 + 5 * w) v) (27 + 5 * w) then tld (fun i => μ 11 (40 * s + i)) (fun i => hrN i (sU (aM μ) (24 + 5 * w) v) (27 + 5 * w)) d (i + 1) else false) := rfl
        rw [et]
        by_cases q : μ 11 (40 * s + i) = -1 ∨ μ 11 (40 * s + i) = hrN i (sU (aM μ) (24 + 5 * w) v) (27 + 5 * w)
        · rw [if_pos q, if_pos q, if_neg (by decide)]
          exact ih _ (by omega) (by omega) r2 (hT.trans r3)
        · rw [if_neg q, if_neg q, if_pos rfl, if_neg (show ¬ false = true by decide)]
          exact ⟨θ, rfl, hT⟩
  exact key (tn (μ 10 s)) FU 0 _ (by omega) (show tn (μ 10 s) < 1000 by omega) r5 ft
theorem st_kinds : ST_kinds Inv := by
  intro k σ μ x1 x2 hk hI
  show RS k (f_X5_kinds x1 x2 σ) (f_X6_kinds x1 x2 μ)
  unfold f_X5_kinds f_X6_kinds f_X6_kinds_J23
  rcases trouble hI x1 with ⟨s, hs, rfl, t1, t2⟩ | ⟨c, j, hj, hc, hc0, t1, t2⟩
  · rw [t1, t2, Option.bind_some, Option.bind_some, if_pos rfl, if_pos rfl]
    rcases gw hI x2 with ⟨w, hw, rfl, a1, a2⟩ | ⟨a1, a2⟩
    · rw [if_pos a1, if_neg a2]
      have hm := hI.m1.2.1
      have hwa : w < tn (aM μ 1) := by rw [aM_lo μ (by decide)]; exact hw
      unfold f_X6_kinds_J24
      obtain ⟨μ1, m1, m2, m3, -⟩ := aside μ
      rw [if_pos rfl, m1, Option.bind_some]
      have p0 : f_X6_place (nI w) 0 = nI (24 + 5 * w) := place_nI w 0
      have p3 : f_X6_place (nI w) 3 = nI (27 + 5 * w) := by
        have := place_nI w 3
        rw [show 24 + 5 * w + 3 = 27 + 5 * w by omega] at this
        exact this
      have key : ∀ d fu v (τ ν : Mem) (st : Int32), v + d = 7 → d < fu → FT σ τ → AS μ ν → aM ν = aM μ → RS k (it3 (f_X5_kinds_B37 (nI s) (nI w)) fu st (nI v) τ) (it3 (f_X6_kinds_B45 (nI s) (nI w)) fu st (nI v) ν) := by
        intro d
        induction d with
        | zero =>
          intro fu v τ ν st hd hf hT hA hr
          match fu, hf with
          | fu + 1, hf =>
            show RS k (f_X5_kinds_B37 (nI s) (nI w) (it3 (f_X5_kinds_B37 (nI s) (nI w)) fu) st (nI v) τ) (f_X6_kinds_B45 (nI s) (nI w) (it3 (f_X6_kinds_B45 (nI s) (nI w)) fu) st (nI v) ν)
            unfold f_X5_kinds_B37 f_X6_kinds_B45
            obtain rfl : v = 7 := by omega
            rw [if_pos (by decide), if_pos (by decide)]
            exact ⟨_, _, rfl, rfl, rfl, hI.tr hT hA.2 hr⟩
        | succ d ih =>
          intro fu v τ ν st hd hf hT hA hr
          match fu, hf with
          | fu + 1, hf =>
            show RS k (f_X5_kinds_B37 (nI s) (nI w) (it3 (f_X5_kinds_B37 (nI s) (nI w)) fu) st (nI v) τ) (f_X6_kinds_B45 (nI s) (nI w) (it3 (f_X6_kinds_B45 (nI s) (nI w)) fu) st (nI v) ν)
            replace ih := ih fu (v + 1)
            revert ih
            generalize it3 (f_X5_kinds_B37 (nI s) (nI w)) fu = R5
            generalize it3 (f_X6_kinds_B45 (nI s) (nI w)) fu = R6
            intro ih
            unfold f_X5_kinds_B37 f_X6_kinds_B45 f_X5_kinds_J69 f_X6_kinds_J87
            obtain ⟨τ1, q1, q2⟩ := couldKind_eq hI hk hT (nI v) hs hw
            have hb : BD (80 * k) (sU (aM μ) (24 + 5 * w) (nI v)) := hI.bd.w hwa (f := 0) (by decide) (fun q => absurd q (by decide)) (fun q => absurd q (by decide)) (fun q => absurd q (by decide))
            have r6 : aM (mst ν 1 (24 + 5 * w) (nI v)) = sU (aM μ) (24 + 5 * w) (nI v) := by
              rw [aM_mst (by rw [hr]; exact PL_w hwa hI.bd.2.1.1 (f := 0) (by decide)), hr]
            obtain ⟨ν2, u1, u2, u3, u4⟩ := isTold_eq hI hk (s := s) (j := 27 + 5 * w) hs hb (by rw [sU_ne (by omega), aM_lo μ (by decide)]) (Or.inr (by omega)) (hA.row (j := 24 + 5 * w) (v := nI v)) r6
            have hv7 : v < 7 := by omega
            rw [if_neg (show ¬ (7 : Int32) ≤ nI v from nnle hv7 (by decide)), if_neg (show ¬ (6 : Int32) < nI v by rw [show (6 : Int32) = nI 6 from rfl, nI_ltI (by decide) (by omega)]; omega), chk_nI hs (by decide), nI_clamp (show s < 2 ^ 31 by omega), q1, Option.bind_some, p0, p3, chk_nI (show 24 + 5 * w < 74 by omega) (by decide), nI_clamp (show 24 + 5 * w < 2 ^ 31 by omega), u1, Option.bind_some, nI_1]
            dsimp only
            by_cases ho : tld (fun i => μ 11 (40 * s + i)) (fun i => hrN i (sU (aM μ) (24 + 5 * w) (nI v)) (27 + 5 * w)) (tn (μ 10 s)) 0 = true
            · rw [if_pos ho, if_neg (show ¬ (1 : Int32) = 0 by decide), if_neg (show ¬ (1 : Int32) = 0 by decide)]
              exact ih τ1 ν2 _ (by omega) (by omega) q2 u2 u3
            · rw [if_neg ho, if_pos (show (0 : Int32) = 0 from rfl), if_pos (show (0 : Int32) = 0 from rfl), Int32.or_zero]
              exact ih τ1 ν2 _ (by omega) (by omega) q2 u2 u3
      exact key 7 FU 0 σ μ1 0 (by decide) (by decide) (FT.rfl' σ) m2 m3
    · rw [if_neg a1, if_pos a2]
      unfold f_X6_kinds_J24
      rw [if_neg (by decide)]
      exact fndB hI
  · rw [t1, t2, Option.bind_some, Option.bind_some, if_neg hc0, if_neg hc0]
    unfold f_X6_kinds_J24
    rw [if_neg hc0]
    exact fnd hI j hj hc

/-! ===== pure: a valley becomes another; the water alone ===== -/
theorem x3become_eq {x y : Nat} (hne : x ≠ y) (σ : Mem) : f_X3_become x y σ = fun c k => if c = x ∧ k < 5 then σ y k else σ c k := by
  have hy : ¬ y = x := fun e => hne e.symm
  unfold f_X3_become
  funext c k
  simp only [mst_ap, hy, false_and, if_false]
  by_cases h1 : c = x
  · subst h1
    rcases (show k = 0 ∨ k = 1 ∨ k = 2 ∨ k = 3 ∨ k = 4 ∨ 5 ≤ k by omega) with rfl | rfl | rfl | rfl | rfl | h
    · simp
    · simp
    · simp
    · simp
    · simp
    · rw [if_neg (by omega), if_neg (by omega), if_neg (by omega), if_neg (by omega), if_neg (by omega), if_neg (by omega)]
  · simp [h1]
def vbec (b c m : Nat) (σ : Mem) : Mem := fun x k => if b + 7 ≤ x ∧ x < b + 7 + m ∧ k < 5 then σ (c + (x - b)) k else if x = b + 6 ∧ k < 10 then σ (c + 6) k else if x = b ∧ k = 3 then σ c 3 else if x = b ∧ k = 4 then σ c 4 else wbecome (b + 1) (c + 1) σ x k
theorem wbecome_out {w v : Nat} {σ : Mem} {c : Nat} (h : c ≠ w ∧ c ≠ w + 1 ∧ c ≠ w + 3) (k : Nat) : wbecome w v σ c k = σ c k := by
  unfold wbecome
  rw [if_neg (by omega), if_neg (by omega), if_neg (by omega), if_neg (by omega)]
theorem vbec_eq {b c m : Nat} {σ : Mem} (hb : isV b) (hc : isV c) (hne : b ≠ c) (hm : σ c 3 = nI m) (hm8 : m ≤ 8) : f_X2_become b c σ = some (vbec b c m σ) := by
  have hd : b + 15 ≤ c ∨ c + 15 ≤ b := by unfold isV at hb hc; omega
  unfold f_X2_become
  rw [wbecome_eq (isV_w hb) (isV_w hc) (by omega)]
  refine it2_for m (fun i => fun x k => if b + 7 ≤ x ∧ x < b + 7 + i ∧ k < 5 then σ (c + (x - b)) k else wbecome (b + 1) (c + 1) σ x k) ?_ (by omega) (fun rec i hi => ?_) (fun rec => ?_)
  · funext x k
    rw [if_neg (by omega)]
  · unfold f_X2_become_B13
    have a1 : (fun x k => if b + 7 ≤ x ∧ x < b + 7 + i ∧ k < 5 then σ (c + (x - b)) k else wbecome (b + 1) (c + 1) σ x k) c 3 = nI m := by
      show (if b + 7 ≤ c ∧ c < b + 7 + i ∧ 3 < 5 then _ else wbecome (b + 1) (c + 1) σ c 3) = nI m
      rw [if_neg (by omega), wbecome_out (by omega)]; exact hm
    rw [a1, if_neg (nnle hi (by omega)), chk_nI (show i < 8 by omega) (by decide), chk_nI (show i < 8 by omega) (by decide), nI_clamp (show i < 2 ^ 31 by omega), nI_1, x3become_eq (by omega)]
    congr 1
    funext x k
    by_cases h1 : x = b + 7 + i
    · subst h1
      by_cases h5 : k < 5
      · rw [if_pos ⟨rfl, h5⟩, if_neg (by omega), wbecome_out (by omega), if_pos (by omega), show c + (b + 7 + i - b) = c + 7 + i by omega]
      · rw [if_neg (by omega), if_neg (by omega), if_neg (by omega)]
    · rw [if_neg (by omega)]
      by_cases h2 : b + 7 ≤ x ∧ x < b + 7 + i ∧ k < 5
      · rw [if_pos h2, if_pos (by omega)]
      · rw [if_neg h2, if_neg (by omega)]
  · unfold f_X2_become_B13
    have a1 : ∀ k, (fun x k => if b + 7 ≤ x ∧ x < b + 7 + m ∧ k < 5 then σ (c + (x - b)) k else wbecome (b + 1) (c + 1) σ x k) c k = σ c k := fun k => by
      show (if b + 7 ≤ c ∧ c < b + 7 + m ∧ k < 5 then _ else wbecome (b + 1) (c + 1) σ c k) = σ c k
      rw [if_neg (by omega), wbecome_out (by omega)]
    have a6 : ∀ k, (fun x k => if b + 7 ≤ x ∧ x < b + 7 + m ∧ k < 5 then σ (c + (x - b)) k else wbecome (b + 1) (c + 1) σ x k) (c + 6) k = σ (c + 6) k := fun k => by
      show (if b + 7 ≤ c + 6 ∧ c + 6 < b + 7 + m ∧ k < 5 then _ else wbecome (b + 1) (c + 1) σ (c + 6) k) = σ (c + 6) k
      rw [if_neg (by omega), wbecome_out (by omega)]
    rw [a1, hm, if_pos (nle (Nat.le_refl m) (by omega))]
    congr 1
    funext x k
    unfold vbec
    simp only [mst_ap, mcp_ap, if_neg (show ¬ c = b + 6 by omega), if_neg (show ¬ (c = b ∧ 4 = 3) by omega), a1]
    by_cases h1 : x = b
    · subst h1
      by_cases h4 : k = 4
      · subst h4; rw [if_pos ⟨rfl, rfl⟩, if_neg (by omega), if_neg (by omega), if_neg (by omega), if_pos ⟨rfl, rfl⟩]
      · by_cases h3 : k = 3
        · subst h3; rw [if_neg (by omega), if_pos ⟨rfl, rfl⟩, if_neg (by omega), if_neg (by omega), if_pos ⟨rfl, rfl⟩]
        · rw [if_neg (by omega), if_neg (by omega), if_neg (by omega), if_neg (by omega), if_neg (by omega), if_neg (by omega), if_neg (by omega), if_neg (by omega)]
    · rw [if_neg (by omega), if_neg (by omega)]
      by_cases h6 : x = b + 6
      · subst h6
        rw [if_pos rfl, cpy_ap]
        rw [if_neg (show ¬ (b + 7 ≤ c + 6 ∧ c + 6 < b + 7 + m ∧ k < 5) by omega), wbecome_out (show c + 6 ≠ b + 1 ∧ c + 6 ≠ b + 1 + 1 ∧ c + 6 ≠ b + 1 + 3 by omega)]
        by_cases h10 : k < 10
        · rw [if_pos h10, if_neg (show ¬ (b + 7 ≤ b + 6 ∧ b + 6 < b + 7 + m ∧ k < 5) by omega), if_pos ⟨rfl, h10⟩]
        · rw [if_neg h10, if_neg (by omega), if_neg (by omega), if_neg (by omega), if_neg (by omega), if_neg (by omega)]
      · rw [if_neg h6]
        by_cases h7 : b + 7 ≤ x ∧ x < b + 7 + m ∧ k < 5
        · rw [if_pos h7, if_pos h7]
        · rw [if_neg h7, if_neg h7, if_neg (by omega), if_neg (by omega), if_neg (by omega)]
theorem become_spec {b c H : Nat} {σ : Mem} (hb : isV b) (hc : isV c) (hne : b ≠ c) (h : BD H (aC c σ)) : ∃ σ', f_X2_become b c σ = some σ' ∧ aC b σ' = aC c σ ∧ (∀ x, (x < b ∨ b + 15 ≤ x) → σ' x = σ x) := by
  have n1 := h.2.1
  rw [aC_1] at n1
  have hm := n1.1
  refine ⟨_, vbec_eq hb hc hne n1.2 hm, ?_, ?_⟩
  · have e3 : vbec b c (tn (σ c 3)) σ b 3 = σ c 3 := by
      unfold vbec
      rw [if_neg (by omega), if_neg (by omega), if_pos ⟨rfl, rfl⟩]
    have e4 : vbec b c (tn (σ c 3)) σ b 4 = σ c 4 := by
      unfold vbec
      rw [if_neg (by omega), if_neg (by omega), if_neg (by omega), if_pos ⟨rfl, rfl⟩]
    have ew : ∀ x k, (x = b + 1 ∨ x = b + 2 ∨ x = b + 4) → vbec b c (tn (σ c 3)) σ x k = wbecome (b + 1) (c + 1) σ x k := fun x k hx => by
      unfold vbec
      rw [if_neg (by omega), if_neg (by omega), if_neg (by omega), if_neg (by omega)]
    refine St_ext (aC_NRM _ _) (aC_NRM _ _) (by rw [aC_1, e3]; exact hm) ?_ ?_ ?_ ?_ ?_ ?_ ?_ ?_
    · rw [aC_0, aC_0, ew _ _ (by omega)]
      unfold wbecome
      rw [if_neg (by omega), if_neg (by omega), if_neg (by omega), if_pos ⟨rfl, rfl⟩]
    · rw [aC_1, aC_1, e3]
    · rw [aC_2, aC_2, ew _ _ (by omega)]
      unfold wbecome
      rw [if_neg (by omega), if_neg (by omega), if_pos ⟨rfl, rfl⟩]
    · rw [aC_3, aC_3, e4]
    · intro h hh
      rw [aC_p _ _ hh, aC_p _ _ hh, ew _ _ (by omega)]
      unfold wbecome
      rw [if_neg (by omega), if_pos ⟨by omega, hh⟩]
    · intro x hx
      rw [aC_l _ _ hx, aC_l _ _ hx, ew _ _ (by omega)]
      unfold wbecome
      rw [if_pos ⟨by omega, hx⟩]
    · intro w hw f hf
      rw [aC_1, e3] at hw
      rw [aC_w _ _ (by rw [e3]; exact hw) (by rw [e3]; exact hm) hf, aC_w _ _ hw hm hf]
      unfold vbec
      rw [if_pos (by omega), show c + (b + 7 + w - b) = c + 7 + w by omega]
    · intro k hk
      rw [aC_k _ _ hk, aC_k _ _ hk]
      unfold vbec
      rw [if_neg (by omega), if_pos ⟨rfl, hk⟩]
  · intro x hx
    funext k
    unfold vbec
    rw [if_neg (by omega), if_neg (by omega), if_neg (by omega), if_neg (by omega), wbecome_out (by omega)]
/-- a valley's row hangs on its own cells alone -/
theorem aC_frame {b : Nat} {σ σ' : Mem} (h : ∀ x, b ≤ x → x < b + 15 → σ' x = σ x) : aC b σ' = aC b σ := by
  unfold aC
  have : ∀ i, i < 74 → vv b σ' i = vv b σ i := by
    intro i hi
    unfold vv
    rw [h b (by omega) (by omega), h (b + 1) (by omega) (by omega), h (b + 2) (by omega) (by omega), h (b + 4) (by omega) (by omega), h (b + 6) (by omega) (by omega)]
    by_cases h1 : 24 ≤ i ∧ i < 64
    · rw [h (b + 7 + (i - 24) / 5) (by omega) (by omega)]
    · by_cases h2 : i < 24
      · by_cases h3 : i < 12
        · simp [h3]
        · simp [h2, h3]
      · rw [if_neg (by omega), if_neg (by omega), if_neg (by omega), if_neg (by omega), if_neg (by omega), if_neg (by omega), if_neg (by omega), if_neg (by omega), if_neg (by omega), if_neg (by omega), if_neg (by omega), if_neg (by omega), if_neg (by omega), if_neg (by omega)]
  funext i
  unfold NV
  rw [this 1 (by decide)]
  by_cases h1 : i < 24
  · rw [if_pos h1, if_pos h1, this i (by omega)]
  · rw [if_neg h1, if_neg h1]
    by_cases h2 : i < 64
    · rw [if_pos h2, if_pos h2, this i (by omega)]
    · rw [if_neg h2, if_neg h2]
      by_cases h3 : i < 74
      · rw [if_pos h3, if_pos h3, this i h3]
      · rw [if_neg h3, if_neg h3]
/-- the water at w is that of the row s -/
def WT (w : Nat) (σ : Mem) (s : St) : Prop := σ w 4 = s 0 ∧ σ w 3 = s 2 ∧ (∀ h, h < 8 → σ (w + 3) h = s (4 + h)) ∧ (∀ c, c < 12 → σ (w + 1) c = s (12 + c))
theorem WT_aC (b : Nat) (σ : Mem) : WT (b + 1) σ (aC b σ) := ⟨rfl, rfl, fun _ h => (aC_p b σ h).symm, fun _ h => (aC_l b σ h).symm⟩
theorem WT.step {w H : Nat} {σ : Mem} {s : St} (h : WT w σ s) (hB : BD H s) (hH : H < 99999) : WT w (wstep w σ) (hr1 s) := by
  obtain ⟨h0, h2, hp, hl⟩ := h
  have n0 := hB.2.2.1
  have ex : σ (w + 3) (tn (σ w 4) % 8) = s (4 + tn (s 0) % 8) := by
    rw [h0]; exact hp _ (Nat.mod_lt _ (by decide))
  unfold wstep hr1
  rw [ex]
  refine ⟨?_, ?_, ?_, ?_⟩
  · rw [wflow_hr (H := H) (by rw [h0]; exact n0) hH, hrA_0, h0, ← nI_1, ← n0.2]
  · rw [hrA_lo (by omega)]
    show wflow w _ σ w 3 = jm 999999 (s 2 + s (12 + 11) / 2)
    rw [← h2, ← hl 11 (by decide)]
    unfold wflow
    rw [if_neg (by omega), if_neg (by omega), if_pos ⟨rfl, rfl⟩]
  · intro h hh
    rw [wflow_out (by omega), hrA_lo (by omega), flA_out (by omega) (by omega) (by omega), hp h hh]
  · intro c hc
    rw [wflow_l hc, hrA_lo (by omega), flA_l hc]
    exact lvW_congr hc hl
theorem WT.steps {w H : Nat} {σ : Mem} {s : St} (h : WT w σ s) (hB : BD H s) : ∀ n, H + n ≤ 99999 → WT w (wsteps w n σ) (hrN n s)
  | 0, _ => h
  | n + 1, hn => (WT.steps h hB n (by omega)).step (hB.hrN n (by omega)) (by omega)
theorem WT.run {w H : Nat} {σ : Mem} {s : St} (n : Nat) (h : WT w σ s) (hB : BD H s) (hn : H + n ≤ 99999) (hn2 : n < 1000) : f_X4_run w (nI n) σ = some (wsteps w n σ) := run_eq n (by rw [h.1]; exact hB.2.2.1) hn hn2
theorem wstep_out {w : Nat} {σ : Mem} {c : Nat} (h : c ≠ w ∧ c ≠ w + 1 ∧ c ≠ w + 2) : wstep w σ c = σ c := by
  funext k
  exact wflow_out h k
theorem wsteps_out {w : Nat} {σ : Mem} {c : Nat} (h : c ≠ w ∧ c ≠ w + 1 ∧ c ≠ w + 2) : ∀ n, wsteps w n σ c = σ c
  | 0 => rfl
  | n + 1 => by
    show wstep w (wsteps w n σ) c = σ c
    rw [wstep_out h, wsteps_out h n]
theorem tried_eq (σ : Mem) : f_X5_waterTried σ = wbecome 32 2 σ := by
  unfold f_X5_waterTried
  exact wbecome_eq (by unfold isW; omega) (by unfold isW; omega) (by decide) σ
theorem tried_WT (σ : Mem) : WT 32 (f_X5_waterTried σ) (aC 1 σ) := by
  rw [tried_eq]
  refine ⟨rfl, rfl, fun h hh => ?_, fun c hc => ?_⟩
  · rw [aC_p _ _ hh]
    show wbecome 32 2 σ 35 h = σ 5 h
    unfold wbecome
    rw [if_neg (by omega), if_pos ⟨rfl, hh⟩]
  · rw [aC_l _ _ hc]
    show wbecome 32 2 σ 33 c = σ 3 c
    unfold wbecome
    rw [if_pos ⟨rfl, hc⟩]
theorem tried_out {σ : Mem} {c : Nat} (h : c ≠ 32 ∧ c ≠ 33 ∧ c ≠ 35) : f_X5_waterTried σ c = σ c := by
  rw [tried_eq]
  funext k
  exact wbecome_out (by omega) k

/-! ===== pure: the class's water ===== -/
def jm (m e : Int32) : Int32 := if e ≤ m then e else m
theorem jmin_jm (m e : Int32) : jmin m e = jm m e := by
  unfold jmin jm
  by_cases h : e < m
  · rw [if_pos h, if_pos (Int32.le_of_lt h)]
  · by_cases h2 : e ≤ m
    · rw [if_neg h, if_pos h2]
      exact Int32.le_antisymm (Int32.not_lt.mp h) h2
    · rw [if_neg h, if_neg h2]
def lvW (x : Int32) (L : Nat → Int32) (k : Nat) : Int32 := jm 9999 (L k - L k / 2 + (if k = 0 then x else L (k - 1) / 2))
def wflow (w : Nat) (x : Int32) (σ : Mem) : Mem := fun c k => if c = w + 1 ∧ k < 12 then lvW x (σ (w + 1)) k else if c = w + 2 ∧ k < 12 then σ (w + 1) k else if c = w ∧ k = 3 then jm 999999 (σ w 3 + σ (w + 1) 11 / 2) else if c = w ∧ k = 4 then jmin 99999 (σ w 4 + 1) else σ c k
theorem flow_eq (w : Nat) (x : Int32) (σ : Mem) : f_X4_flow w x σ = some (wflow w x σ) := by
  unfold f_X4_flow
  refine it2_for 12 (fun i => fun c k => if c = w + 1 ∧ k < i then lvW x (σ (w + 1)) k else if c = w + 2 ∧ k < 12 then σ (w + 1) k else if c = w ∧ k = 3 then jm 999999 (σ w 3 + σ (w + 1) 11 / 2) else σ c k) ?_ (by decide) ?_ ?_
  · funext c k
    simp only [mst_ap, mcp_ap, cpy_ap, jmin_jm]
    by_cases h1 : c = w
    · subst h1
      simp [cpy_ap]
    · by_cases h2 : c = w + 2
      · subst h2
        simp [cpy_ap]
      · simp [h1, h2]
  · intro rec i hi
    unfold f_X4_flow_B40
    rw [if_neg (show ¬ (12 : Int32) ≤ nI i from nnle hi (by decide))]
    have key : ∀ t : Int32, t = (if i = 0 then x else σ (w + 1) (i - 1) / 2) → f_X4_flow_J64 w (nI i) (fun c k => if c = w + 1 ∧ k < i then lvW x (σ (w + 1)) k else if c = w + 2 ∧ k < 12 then σ (w + 1) k else if c = w ∧ k = 3 then jm 999999 (σ w 3 + σ (w + 1) 11 / 2) else σ c k) rec t = rec (nI (i + 1)) (fun c k => if c = w + 1 ∧ k < i + 1 then lvW x (σ (w + 1)) k else if c = w + 2 ∧ k < 12 then σ (w + 1) k else if c = w ∧ k = 3 then jm 999999 (σ w 3 + σ (w + 1) 11 / 2) else σ c k) := by
      intro t ht
      unfold f_X4_flow_J64
      rw [chk_nI hi (by decide), chk_nI hi (by decide), chk_nI hi (by decide), nI_1, nI_clamp (show i < 2 ^ 31 by omega)]
      congr 1
      funext c k
      rw [mst_ap]
      by_cases h1 : c = w + 1
      · subst h1
        by_cases h2 : k = i
        · subst h2
          simp [hi, jmin_jm, lvW, ht]
        · by_cases h3 : k < i
          · simp [h2, h3, show k < i + 1 by omega]
          · simp [h2, h3, show ¬ k < i + 1 by omega]
      · simp [h1]
    by_cases h0 : i = 0
    · subst h0
      rw [nI_0, if_pos rfl, ← nI_0]
      exact key x (by simp)
    · rw [if_neg (show ¬ nI i = 0 from nI_ne0 (by omega) (by omega))]
      have e1 : nI i - 1 = nI (i - 1) := pk_sub (a := i) (b := 1) (by omega)
      rw [e1, chk_nI (show i - 1 < 12 by omega) (by decide), nI_clamp (show i - 1 < 2 ^ 31 by omega)]
      refine key _ ?_
      simp [h0, show i - 1 < 12 by omega]
  · intro rec
    unfold f_X4_flow_B40
    rw [if_pos (show (12 : Int32) ≤ nI 12 from nle (Nat.le_refl 12) (by decide))]
    congr 1
    funext c k
    rw [mst_ap]
    unfold wflow
    by_cases h1 : c = w
    · subst h1
      by_cases h2 : k = 4
      · subst h2; simp
      · simp [h2]
    · simp [h1]
theorem jrem_nI (h : Nat) (hh : h < 2 ^ 31) : jrem (nI h) 8 = nI (h % 8) := pk_rem (a := h) (d := 8) hh (by decide) (by decide)
def wstep (w : Nat) (σ : Mem) : Mem := wflow w (σ (w + 3) (tn (σ w 4) % 8)) σ
def wsteps (w : Nat) : Nat → Mem → Mem
  | 0, σ => σ
  | n + 1, σ => wstep w (wsteps w n σ)
theorem jmin_hr {h : Nat} (hh : h < 99999) : jmin 99999 (nI h + 1) = nI (h + 1) := by
  rw [nI_1]
  unfold jmin
  by_cases h2 : nI (h + 1) < (99999 : Int32)
  · rw [if_pos h2]
  · rw [if_neg h2]
    have h3 : ¬ h + 1 < 99999 := fun q => h2 (nI_lt (b := 99999) q (by decide))
    obtain rfl : h = 99998 := by omega
    rfl
theorem wflow_hr {w : Nat} {x : Int32} {σ : Mem} {H : Nat} (h : Bn (σ w 4) H) (hH : H < 99999) : wflow w x σ w 4 = nI (tn (σ w 4) + 1) := by
  have := h.1
  unfold wflow
  rw [if_neg (by omega), if_neg (by omega), if_neg (by omega), if_pos ⟨rfl, rfl⟩]
  rw [h.2, jmin_hr (by omega), tn_nI (by omega)]
theorem wsteps_hr {w : Nat} {σ : Mem} {H : Nat} (h : Bn (σ w 4) H) : ∀ n, H + n ≤ 99999 → Bn (wsteps w n σ w 4) (H + n)
  | 0, _ => h
  | n + 1, hn => by
    have h1 := wsteps_hr h n (by omega)
    show Bn (wflow w _ (wsteps w n σ) w 4) _
    rw [wflow_hr h1 (by omega)]
    have := h1.1
    exact Bn_nI (by omega) (by omega)
theorem run_eq {w : Nat} {σ : Mem} {H : Nat} (n : Nat) (h : Bn (σ w 4) H) (hn : H + n ≤ 99999) (hn2 : n < 1000) : f_X4_run w (nI n) σ = some (wsteps w n σ) := by
  unfold f_X4_run
  refine it2_for n (fun i => wsteps w i σ) rfl hn2 (fun rec i hi => ?_) (fun rec => ?_)
  · unfold f_X4_run_B2
    have h1 := wsteps_hr h i (by omega)
    have h2 := h1.1
    rw [if_neg (nnle hi (by omega))]
    rw [h1.2, jrem_nI _ (by omega), chk_nI (Nat.mod_lt _ (by decide)) (by decide), nI_clamp (show tn (wsteps w i σ w 4) % 8 < 2 ^ 31 by omega), flow_eq, nI_1]
    rfl
  · unfold f_X4_run_B2
    rw [if_pos (nle (Nat.le_refl n) (by omega))]
def wopen (w : Nat) (x : Int32) (σ : Mem) : Mem := fun c k => if c = w + 3 ∧ k < 8 then x else σ c k
theorem openAll_eq (w : Nat) (x : Int32) (σ : Mem) : f_X4_openAll w x σ = some (wopen w x σ) := by
  unfold f_X4_openAll
  refine it2_for 8 (fun i => fun c k => if c = w + 3 ∧ k < i then x else σ c k) (by funext c k; simp) (by decide) (fun rec i hi => ?_) (fun rec => ?_)
  · unfold f_X4_openAll_B2
    rw [if_neg (show ¬ (8 : Int32) ≤ nI i from nnle hi (by decide)), chk_nI hi (by decide), nI_1, nI_clamp (show i < 2 ^ 31 by omega)]
    congr 1
    funext c k
    rw [mst_ap]
    by_cases h1 : c = w + 3
    · by_cases h2 : k = i
      · simp [h1, h2]
      · by_cases h3 : k < i
        · simp [h1, h2, h3, show k < i + 1 by omega]
        · simp [h1, h2, h3, show ¬ k < i + 1 by omega]
    · simp [h1]
  · unfold f_X4_openAll_B2
    rw [if_pos (show (8 : Int32) ≤ nI 8 from nle (Nat.le_refl 8) (by decide))]
    rfl
def sumF (f : Nat → Int32) : Nat → Int32
  | 0 => 0
  | n + 1 => sumF f n + f n
theorem together_eq (c N : Nat) (hN : N < 1000) (σ : Mem) : f_X5_together c N σ = some (sumF (σ c) N) := by
  unfold f_X5_together
  refine it2_for' N (fun i => sumF (σ c) i) rfl hN (fun rec i hi => ?_) (fun rec => ?_)
  · unfold f_X5_together_B4
    rw [if_neg (show ¬ Int32.ofNat N ≤ nI i from nnle hi (by omega)), chk_nI hi (by omega), nI_1, nI_clamp (show i < 2 ^ 31 by omega)]
    rfl
  · unfold f_X5_together_B4
    rw [if_pos (show Int32.ofNat N ≤ nI N from nle (Nat.le_refl N) (by omega))]
def wbecome (w v : Nat) (σ : Mem) : Mem := fun c k => if c = w + 1 ∧ k < 12 then σ (v + 1) k else if c = w + 3 ∧ k < 8 then σ (v + 3) k else if c = w ∧ k = 3 then σ v 3 else if c = w ∧ k = 4 then σ v 4 else σ c k
theorem wbecome_eq {w v : Nat} (hw : isW w) (hv : isW v) (hne : w ≠ v) (σ : Mem) : f_X4_become w v σ = wbecome w v σ := by
  have h1 : v ≠ w + 1 ∧ v ≠ w + 3 ∧ v + 3 ≠ w + 1 ∧ v + 1 ≠ w + 3 ∧ v + 3 ≠ w ∧ v + 1 ≠ w ∧ v ≠ w := by
    unfold isW at hw hv; omega
  obtain ⟨a1, a2, a3, a4, a5, a6, a7⟩ := h1
  unfold f_X4_become
  funext c k
  simp only [mst_ap, mcp_ap, if_neg a1, if_neg a2, if_neg a3, cpy_ap]
  unfold wbecome
  by_cases h1 : c = w + 1
  · subst h1; simp [cpy_ap]
  · by_cases h2 : c = w + 3
    · subst h2; simp [cpy_ap]
    · by_cases h3 : c = w
      · subst h3
        by_cases h4 : k = 4
        · subst h4; simp [a7]
        · by_cases h5 : k = 3
          · subst h5; simp
          · simp [h4, h5]
      · simp [h1, h2, h3]
def cntN (P : Nat → Bool) : Nat → Nat
  | 0 => 0
  | n + 1 => cntN P n + (if P n = true then 1 else 0)
theorem cntN_le (P : Nat → Bool) : ∀ n, cntN P n ≤ n
  | 0 => Nat.le_refl 0
  | n + 1 => by
    have := cntN_le P n
    unfold cntN
    split <;> omega
theorem hoursOpen_eq (w : Nat) (σ : Mem) : f_X4_hoursOpen w σ = some (nI (cntN (fun h => decide (σ (w + 3) h ≠ 0)) 8)) := by
  unfold f_X4_hoursOpen
  refine it2_for' 8 (fun i => nI (cntN (fun h => decide (σ (w + 3) h ≠ 0)) i)) rfl (by decide) (fun rec i hi => ?_) (fun rec => ?_)
  · unfold f_X4_hoursOpen_B4 f_X4_hoursOpen_J22
    rw [if_neg (show ¬ (8 : Int32) ≤ nI i from nnle hi (by decide)), chk_nI hi (by decide), nI_clamp (show i < 2 ^ 31 by omega)]
    congr 1
    · by_cases h : σ (w + 3) i = 0
      · simp [h, cntN]
      · simp [h, cntN, nI_1]
    · exact nI_1 i
  · unfold f_X4_hoursOpen_B4
    rw [if_pos (show (8 : Int32) ≤ nI 8 from nle (Nat.le_refl 8) (by decide))]

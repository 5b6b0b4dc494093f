/-! ===== pure: bounds, an hour keeps them; the class's hour ===== -/
def BD (H : Nat) (s : St) : Prop := NRM s ∧ Bn (s 1) 8 ∧ Bn (s 0) H ∧ (∀ h, h < 8 → Bn (s (4 + h)) 99) ∧ (∀ c, c < 12 → Bn (s (12 + c)) 9999) ∧ (∀ w, w < tn (s 1) → Bn (s (25 + 5 * w)) 11 ∧ Bn (s (27 + 5 * w)) 99 ∧ Bn (s (28 + 5 * w)) 9999) ∧ (∀ k, k < 10 → s (64 + k) = -1 ∨ ∃ j, j < tn (s 1) ∧ s (64 + k) = nI j)
theorem jm_nI {n m : Nat} (hn : n < 2 ^ 31) (hm : m < 2 ^ 31) : jm (nI m) (nI n) = nI (min n m) := by
  unfold jm
  by_cases h : n ≤ m
  · rw [if_pos (nI_le h hm), Nat.min_eq_left h]
  · rw [if_neg (nI_ge (by omega) hn), Nat.min_eq_right (by omega)]
theorem half_nI {a : Nat} (ha : a < 2 ^ 31) : nI a / 2 = nI (a / 2) := pk_div (a := a) (d := 2) ha (by decide) (by decide)
theorem lvW_nI {x : Int32} {L : Nat → Int32} {k : Nat} (hx : Bn x 99) (hL : ∀ c, c < 12 → Bn (L c) 9999) (hk : k < 12) : lvW x L k = nI (min (tn (L k) - tn (L k) / 2 + (if k = 0 then tn x else tn (L (k - 1)) / 2)) 9999) := by
  unfold lvW
  have h1 := hL k hk
  have h1' := h1.1
  have hx' := hx.1
  have e0 : L k - L k / 2 = nI (tn (L k) - tn (L k) / 2) := by
    rw [h1.2, half_nI (by omega), pk_sub (by omega), tn_nI (by omega)]
  have e1 : (if k = 0 then x else L (k - 1) / 2) = nI (if k = 0 then tn x else tn (L (k - 1)) / 2) := by
    by_cases h0 : k = 0
    · rw [if_pos h0, if_pos h0]; exact hx.2
    · rw [if_neg h0, if_neg h0]
      have h2 := hL (k - 1) (by omega)
      have h2' := h2.1
      rw [h2.2, half_nI (by omega), tn_nI (by omega)]
  have hb : (if k = 0 then tn x else tn (L (k - 1)) / 2) ≤ 9999 := by
    by_cases h0 : k = 0
    · rw [if_pos h0]; omega
    · rw [if_neg h0]
      have h2 := (hL (k - 1) (by omega)).1
      omega
  rw [e0, e1, nI_add]
  exact jm_nI (by omega) (by decide)
theorem lvW_Bn {x : Int32} {L : Nat → Int32} {k : Nat} (hx : Bn x 99) (hL : ∀ c, c < 12 → Bn (L c) 9999) (hk : k < 12) : Bn (lvW x L k) 9999 := by
  rw [lvW_nI hx hL hk]
  exact Bn_nI (Nat.min_le_right _ _) (by omega)
theorem trA_Bn (k : Int32) : Bn (trA k) 3 := by
  unfold trA
  repeat' split
  all_goals first | exact Bn_nI (j := 2) (by decide) (by decide) | exact Bn_nI (j := 1) (by decide) (by decide) | exact Bn_nI (j := 0) (by decide) (by decide) | exact Bn_nI (j := 3) (by decide) (by decide)
theorem dbA_Bn (k : Int32) : Bn (dbA k) 50 := by
  unfold dbA
  repeat' split
  all_goals first | exact Bn_nI (j := 5) (by decide) (by decide) | exact Bn_nI (j := 20) (by decide) (by decide) | exact Bn_nI (j := 25) (by decide) (by decide) | exact Bn_nI (j := 50) (by decide) (by decide) | exact Bn_nI (j := 0) (by decide) (by decide) | exact Bn_nI (j := 1) (by decide) (by decide) | exact Bn_nI (j := 10) (by decide) (by decide)
theorem jmax_sub {a b : Nat} (ha : a < 2 ^ 30) (hb : b < 2 ^ 30) : jmax 0 (nI a - nI b) = nI (a - b) := by
  unfold jmax
  by_cases h : b ≤ a
  · rw [pk_sub h]
    by_cases h0 : a - b = 0
    · rw [h0, nI_0, if_neg (by decide)]
    · rw [if_pos (show (0 : Int32) < nI (a - b) from nI_lt (a := 0) (by omega) (by omega))]
  · rw [if_neg (fun q => Int32.lt_irrefl (Int32.lt_trans (pk_sneg hb (by omega : a < b)) q)), show a - b = 0 by omega]
    rfl
theorem nbA_Bn {kd wt bl bef now : Int32} (h : Bn bl 99) : Bn (nbA kd wt bl bef now) 99 := by
  unfold nbA
  have h1 := h.1
  have ht := trA_Bn kd
  have hd := dbA_Bn kd
  have ht1 := ht.1
  have hd1 := hd.1
  split
  · exact h
  · split
    · split
      · rw [h.2, ht.2, nI_add]
        rw [show (99 : Int32) = nI 99 from rfl, jm_nI (by omega) (by decide)]
        exact Bn_nI (Nat.min_le_right _ _) (by omega)
      · exact h
    · rw [h.2, hd.2, jmax_sub (by omega) (by omega)]
      exact Bn_nI (by omega) (by omega)
theorem ntA_Bn {wt th now : Int32} (h : Bn th 9999) : Bn (ntA wt th now) 9999 := by
  unfold ntA
  have h1 := h.1
  split
  · exact h
  · rw [h.2, nI_1, show (9999 : Int32) = nI 9999 from rfl, jm_nI (by omega) (by decide)]
    exact Bn_nI (Nat.min_le_right _ _) (by omega)
theorem BD.up {H H2 : Nat} {s : St} (h : BD H s) (hH : H ≤ H2) : BD H2 s := ⟨h.1, h.2.1, h.2.2.1.up hH, h.2.2.2⟩
theorem BD.hr {H : Nat} {s : St} {x : Int32} (h : BD H s) (hx : Bn x 99) (hH : H < 1000000) : BD (H + 1) (hrA x s) := by
  obtain ⟨n0, n1, n2, n3, n4, n5, n6⟩ := h
  refine ⟨hrA_NRM n0 n1.1, by rw [hrA_1]; exact n1, ?_, ?_, ?_, ?_, ?_⟩
  · rw [hrA_0]
    have := n2.1
    rw [n2.2, nI_1]
    exact Bn_nI (by omega) (by omega)
  · intro h hh
    rw [hrA_lo (by omega), flA_out (by omega) (by omega) (by omega)]
    exact n3 h hh
  · intro c hc
    rw [hrA_lo (by omega), flA_l hc]
    exact lvW_Bn hx n4 hc
  · intro w hw
    rw [hrA_1] at hw
    have e1 := hrA_w (x := x) (f := 1) hw n1.1 (by decide)
    have e3 := hrA_w (x := x) (f := 3) hw n1.1 (by decide)
    have e4 := hrA_w (x := x) (f := 4) hw n1.1 (by decide)
    rw [show 24 + 5 * w + 1 = 25 + 5 * w by omega] at e1
    rw [show 24 + 5 * w + 3 = 27 + 5 * w by omega] at e3
    rw [show 24 + 5 * w + 4 = 28 + 5 * w by omega] at e4
    rw [e1, e3, e4]
    obtain ⟨a1, a2, a3⟩ := n5 w hw
    simp only [if_pos, if_neg, reduceIte, Nat.reduceEqDiff]
    exact ⟨a1, nbA_Bn a2, ntA_Bn a3⟩
  · intro k hk
    rw [hrA_lo (by omega), flA_out (by omega) (by omega) (by omega), hrA_1]
    exact n6 k hk
theorem BD.inf {H : Nat} {s : St} (h : BD H s) : Bn (s (4 + tn (s 0) % 8)) 99 := h.2.2.2.1 _ (Nat.mod_lt _ (by decide))
theorem BD.hrN {H : Nat} {s : St} (h : BD H s) : ∀ n, H + n < 1000000 → BD (H + n) (hrN n s)
  | 0, _ => h
  | n + 1, hn => by
    have h1 := BD.hrN h n (by omega)
    exact h1.hr h1.inf (by omega)
-- the class's watcher
theorem live_eq (b : Nat) (x1 x2 : Int32) (σ : Mem) : f_X3_live b x1 x2 σ = fun c k => if c = b ∧ k = 3 then nbA (σ b 0) (σ b 2) (σ b 3) x1 x2 else if c = b ∧ k = 4 then ntA (σ b 2) (σ b 4) x2 else σ c k := by
  have eb : f_X3_bears b σ = brA (σ b 0) (σ b 2) (σ b 3) := rfl
  have ed : f_X3_doubts b σ = dbA (σ b 0) := rfl
  have et : f_X3_trusts b σ = trA (σ b 0) := rfl
  have key : ∀ σ1 : Mem, (∀ c k, ¬ (c = b ∧ k = 3) → σ1 c k = σ c k) → f_X3_live_J66 b x2 σ1 = fun c k => if c = b ∧ k = 3 then σ1 b 3 else if c = b ∧ k = 4 then ntA (σ b 2) (σ b 4) x2 else σ c k := by
    intro σ1 h1
    have e2 : σ1 b 2 = σ b 2 := h1 b 2 (by omega)
    have e4 : σ1 b 4 = σ b 4 := h1 b 4 (by omega)
    unfold f_X3_live_J66 f_X3_lacks
    rw [e2]
    funext c k
    by_cases hw : σ b 2 ≤ x2
    · rw [if_pos hw, if_pos rfl]
      by_cases c1 : c = b ∧ k = 3
      · rw [if_pos c1, c1.1, c1.2]
      · rw [if_neg c1]
        by_cases c2 : c = b ∧ k = 4
        · rw [if_pos c2, c2.1, c2.2, e4]
          unfold ntA
          rw [if_pos hw]
        · rw [if_neg c2]; exact h1 c k c1
    · rw [if_neg hw, if_neg (by decide), mst_ap, e4, jmin_jm]
      by_cases c2 : c = b ∧ k = 4
      · rw [if_pos c2, if_neg (by omega), if_pos c2]
        unfold ntA
        rw [if_neg hw]
      · rw [if_neg c2, if_neg c2]
        by_cases c1 : c = b ∧ k = 3
        · rw [if_pos c1, c1.1, c1.2]
        · rw [if_neg c1]; exact h1 c k c1
  unfold f_X3_live
  rw [eb, ed, et]
  unfold f_X3_knows f_X3_lacks
  rw [key]
  · funext c k
    by_cases c1 : c = b ∧ k = 3
    · rw [if_pos c1, if_pos c1]
      unfold nbA
      by_cases h0 : σ b 3 = 0
      · rw [if_pos h0, if_neg (by decide), if_pos h0]
      · rw [if_neg h0, if_pos rfl, if_neg h0]
        by_cases h1 : jabs (x2 - x1) ≤ brA (σ b 0) (σ b 2) (σ b 3)
        · rw [if_pos h1, if_pos h1]
          by_cases hw : σ b 2 ≤ x2
          · rw [if_pos hw, if_pos rfl, if_pos hw, mst_ap, if_pos ⟨rfl, rfl⟩, jmin_jm]
          · rw [if_neg hw, if_neg (by decide), if_neg hw]
        · rw [if_neg h1, if_neg h1, mst_ap, if_pos ⟨rfl, rfl⟩]
    · rw [if_neg c1, if_neg c1]
  · intro c k hck
    repeat' split
    all_goals first | rfl | (rw [mst_ap, if_neg hck])
def vlive (b : Nat) (m : Nat) (σ : Mem) : Mem := fun c k => if b + 7 ≤ c ∧ c < b + 7 + m ∧ k = 3 then nbA (σ c 0) (σ c 2) (σ c 3) (σ (b + 3) (tn (σ c 1))) (σ (b + 2) (tn (σ c 1))) else if b + 7 ≤ c ∧ c < b + 7 + m ∧ k = 4 then ntA (σ c 2) (σ c 4) (σ (b + 2) (tn (σ c 1))) else σ c k
theorem liveAll_eq {b m : Nat} {σ : Mem} (hm : σ b 3 = nI m) (hm8 : m ≤ 8) (hc : ∀ j, j < m → Bn (σ (b + 7 + j) 1) 11) : f_X2_liveAll b σ = some (vlive b m σ) := by
  unfold f_X2_liveAll
  refine it2_for m (fun i => vlive b i σ) ?_ (by omega) (fun rec i hi => ?_) (fun rec => ?_)
  · funext c k
    unfold vlive
    rw [if_neg (by omega), if_neg (by omega)]
  · have a1 : vlive b i σ b 3 = nI m := by
      unfold vlive
      rw [if_neg (by omega), if_neg (by omega)]; exact hm
    have a2 : ∀ k, vlive b i σ (b + 7 + i) k = σ (b + 7 + i) k := fun k => by
      unfold vlive
      rw [if_neg (by omega), if_neg (by omega)]
    have a3 : ∀ k, vlive b i σ (b + 3) k = σ (b + 3) k := fun k => by
      unfold vlive
      rw [if_neg (by omega), if_neg (by omega)]
    have a4 : ∀ k, vlive b i σ (b + 2) k = σ (b + 2) k := fun k => by
      unfold vlive
      rw [if_neg (by omega), if_neg (by omega)]
    unfold f_X2_liveAll_B2
    rw [a1, if_neg (nnle hi (by omega)), chk_nI (show i < 8 by omega) (by decide), nI_clamp (show i < 2 ^ 31 by omega), a2, (hc i hi).chk (by decide) (by decide), (hc i hi).chk (by decide) (by decide), a3, a4, nI_1, live_eq]
    congr 1
    funext c k
    rw [a2, a2, a2, a2]
    unfold vlive
    by_cases h1 : c = b + 7 + i
    · subst h1
      by_cases h3 : k = 3
      · subst h3
        rw [if_pos ⟨rfl, rfl⟩, if_pos (by omega)]
      · by_cases h4 : k = 4
        · subst h4
          rw [if_neg (by omega), if_pos ⟨rfl, rfl⟩, if_neg (by omega), if_pos (by omega)]
        · rw [if_neg (by omega), if_neg (by omega), if_neg (by omega), if_neg (by omega), if_neg (by omega), if_neg (by omega)]
    · rw [if_neg (by omega), if_neg (by omega)]
      by_cases h2 : b + 7 ≤ c ∧ c < b + 7 + i
      · by_cases h3 : k = 3
        · rw [if_pos (by omega), if_pos (by omega)]
        · by_cases h4 : k = 4
          · rw [if_neg (by omega), if_pos (by omega), if_neg (by omega), if_pos (by omega)]
          · rw [if_neg (by omega), if_neg (by omega), if_neg (by omega), if_neg (by omega)]
      · rw [if_neg (by omega), if_neg (by omega), if_neg (by omega), if_neg (by omega)]
  · have a1 : vlive b m σ b 3 = nI m := by
      unfold vlive
      rw [if_neg (by omega), if_neg (by omega)]; exact hm
    unfold f_X2_liveAll_B2
    rw [a1, if_pos (nle (Nat.le_refl m) (by omega))]
/-- an hour of the valley at b with x let in -/
def vhour (b : Nat) (x : Int32) (σ : Mem) : Mem := vlive b (tn (σ b 3)) (wflow (b + 1) x σ)

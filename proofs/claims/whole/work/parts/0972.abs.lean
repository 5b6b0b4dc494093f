/-! ===== pure: what a valley is, as one row of numbers; an hour of it ===== -/
abbrev St : Type := Nat → Int32
abbrev mny (s : St) : Nat := tn (s 1)
/-- normal: nothing behind the settled watchers, nothing behind the row -/
def NV (s : St) : St := fun i => if i < 24 then s i else if i < 64 then (if 24 + 5 * tn (s 1) ≤ i then 0 else s i) else if i < 74 then s i else 0
def NRM (s : St) : Prop := NV s = s
theorem NV_1 (s : St) : NV s 1 = s 1 := rfl
theorem NV_lo {s : St} {i : Nat} (h : i < 24) : NV s i = s i := if_pos h
theorem NV_w {s : St} {w f : Nat} (hw : w < tn (s 1)) (hm : tn (s 1) ≤ 8) (hf : f < 5) : NV s (24 + 5 * w + f) = s (24 + 5 * w + f) := by
  unfold NV
  rw [if_neg (by omega), if_pos (by omega), if_neg (by omega)]
theorem NV_hi {s : St} {i : Nat} (h : 64 ≤ i) (h2 : i < 74) : NV s i = s i := by
  unfold NV
  rw [if_neg (by omega), if_neg (by omega), if_pos h2]
theorem NV_NRM (s : St) : NRM (NV s) := by
  unfold NRM
  funext i
  unfold NV
  by_cases h1 : i < 24
  · simp [h1]
  · by_cases h2 : i < 64
    · by_cases h3 : 24 + 5 * tn (s 1) ≤ i <;> simp [h1, h2, h3]
    · by_cases h3 : i < 74 <;> simp [h1, h2, h3]
theorem St_ext {s t : St} (hs : NRM s) (ht : NRM t) (hm : tn (s 1) ≤ 8) (h0 : s 0 = t 0) (h1 : s 1 = t 1) (h2 : s 2 = t 2) (h3 : s 3 = t 3) (hp : ∀ h, h < 8 → s (4 + h) = t (4 + h)) (hl : ∀ c, c < 12 → s (12 + c) = t (12 + c)) (hw : ∀ w, w < tn (s 1) → ∀ f, f < 5 → s (24 + 5 * w + f) = t (24 + 5 * w + f)) (hk : ∀ k, k < 10 → s (64 + k) = t (64 + k)) : s = t := by
  unfold NRM at hs ht
  rw [← hs, ← ht]
  funext i
  unfold NV
  rw [← h1]
  by_cases c1 : i < 24
  · rw [if_pos c1, if_pos c1]
    rcases (show i = 0 ∨ i = 1 ∨ i = 2 ∨ i = 3 ∨ (∃ h, h < 8 ∧ i = 4 + h) ∨ (∃ c, c < 12 ∧ i = 12 + c) by
      by_cases q1 : i < 4
      · omega
      · by_cases q2 : i < 12
        · exact Or.inr (Or.inr (Or.inr (Or.inr (Or.inl ⟨i - 4, by omega, by omega⟩))))
        · exact Or.inr (Or.inr (Or.inr (Or.inr (Or.inr ⟨i - 12, by omega, by omega⟩))))) with rfl | rfl | rfl | rfl | ⟨h, hh, rfl⟩ | ⟨c, hc, rfl⟩
    · exact h0
    · exact h1
    · exact h2
    · exact h3
    · exact hp h hh
    · exact hl c hc
  · rw [if_neg c1, if_neg c1]
    by_cases c2 : i < 64
    · rw [if_pos c2, if_pos c2]
      by_cases c3 : 24 + 5 * tn (s 1) ≤ i
      · rw [if_pos c3, if_pos c3]
      · rw [if_neg c3, if_neg c3]
        have := hw ((i - 24) / 5) (by omega) ((i - 24) % 5) (Nat.mod_lt _ (by decide))
        rw [show 24 + 5 * ((i - 24) / 5) + (i - 24) % 5 = i by omega] at this
        exact this
    · rw [if_neg c2, if_neg c2]
      by_cases c3 : i < 74
      · rw [if_pos c3, if_pos c3]
        have := hk (i - 64) (by omega)
        rw [show 64 + (i - 64) = i by omega] at this
        exact this
      · rw [if_neg c3, if_neg c3]
/-- the valley whose first cell is b -/
def vv (b : Nat) (σ : Mem) : St := fun i => if i = 0 then σ (b + 1) 4 else if i = 1 then σ b 3 else if i = 2 then σ (b + 1) 3 else if i = 3 then σ b 4 else if i < 12 then σ (b + 4) (i - 4) else if i < 24 then σ (b + 2) (i - 12) else if i < 64 then σ (b + 7 + (i - 24) / 5) ((i - 24) % 5) else σ (b + 6) (i - 64)
def aC (b : Nat) (σ : Mem) : St := NV (vv b σ)
theorem aC_NRM (b : Nat) (σ : Mem) : NRM (aC b σ) := NV_NRM _
theorem aC_0 (b : Nat) (σ : Mem) : aC b σ 0 = σ (b + 1) 4 := rfl
theorem aC_1 (b : Nat) (σ : Mem) : aC b σ 1 = σ b 3 := rfl
theorem aC_2 (b : Nat) (σ : Mem) : aC b σ 2 = σ (b + 1) 3 := rfl
theorem aC_3 (b : Nat) (σ : Mem) : aC b σ 3 = σ b 4 := rfl
theorem aC_p (b : Nat) (σ : Mem) {h : Nat} (hh : h < 8) : aC b σ (4 + h) = σ (b + 4) h := by
  unfold aC
  rw [NV_lo (by omega)]
  unfold vv
  rw [if_neg (by omega), if_neg (by omega), if_neg (by omega), if_neg (by omega), if_pos (by omega), show 4 + h - 4 = h by omega]
theorem aC_l (b : Nat) (σ : Mem) {c : Nat} (hc : c < 12) : aC b σ (12 + c) = σ (b + 2) c := by
  unfold aC
  rw [NV_lo (by omega)]
  unfold vv
  rw [if_neg (by omega), if_neg (by omega), if_neg (by omega), if_neg (by omega), if_neg (by omega), if_pos (by omega), show 12 + c - 12 = c by omega]
theorem aC_w (b : Nat) (σ : Mem) {w f : Nat} (hw : w < tn (σ b 3)) (hm : tn (σ b 3) ≤ 8) (hf : f < 5) : aC b σ (24 + 5 * w + f) = σ (b + 7 + w) f := by
  unfold aC
  rw [NV_w hw hm hf]
  unfold vv
  rw [if_neg (by omega), if_neg (by omega), if_neg (by omega), if_neg (by omega), if_neg (by omega), if_neg (by omega), if_pos (by omega), show (24 + 5 * w + f - 24) / 5 = w by omega, show (24 + 5 * w + f - 24) % 5 = f by omega]
theorem aC_k (b : Nat) (σ : Mem) {k : Nat} (hk : k < 10) : aC b σ (64 + k) = σ (b + 6) k := by
  unfold aC
  rw [NV_hi (by omega) (by omega)]
  unfold vv
  rw [if_neg (by omega), if_neg (by omega), if_neg (by omega), if_neg (by omega), if_neg (by omega), if_neg (by omega), if_neg (by omega), show 64 + k - 64 = k by omega]
def brA (kd wt bl : Int32) : Int32 := if kd = 1 then 5 + wt / 10 else if kd = 2 then 3 else if kd = 3 then 2 else if kd = 4 then (if 20 ≤ bl then 2 else 1) else if kd = 5 then 20 else if kd = 6 then 2 * (5 + wt / 10) else 5
def dbA (kd : Int32) : Int32 := if kd = 1 then 5 else if kd = 2 then 20 else if kd = 3 then 25 else if kd = 4 then 50 else if kd = 5 then 0 else if kd = 6 then 1 else 10
def trA (kd : Int32) : Int32 := if kd = 1 then 2 else if kd = 2 then 1 else if kd = 3 then 0 else if kd = 4 then 0 else if kd = 5 then 3 else if kd = 6 then 2 else 1
def nbA (kd wt bl bef now : Int32) : Int32 := if bl = 0 then bl else if jabs (now - bef) ≤ brA kd wt bl then (if wt ≤ now then jm 99 (bl + trA kd) else bl) else jmax 0 (bl - dbA kd)
def ntA (wt th now : Int32) : Int32 := if wt ≤ now then th else jm 9999 (th + 1)
def flA (x : Int32) (s : St) : St := fun i => if i = 0 then s 0 + 1 else if i = 2 then jm 999999 (s 2 + s 23 / 2) else if 12 ≤ i ∧ i < 24 then lvW x (fun k => s (12 + k)) (i - 12) else s i
def hrA (x : Int32) (s : St) : St := fun i => if 24 ≤ i ∧ i < 64 ∧ i < 24 + 5 * tn (s 1) then (if (i - 24) % 5 = 3 then nbA (s (24 + 5 * ((i - 24) / 5))) (s (26 + 5 * ((i - 24) / 5))) (s (27 + 5 * ((i - 24) / 5))) (s (12 + tn (s (25 + 5 * ((i - 24) / 5))))) (flA x s (12 + tn (s (25 + 5 * ((i - 24) / 5))))) else if (i - 24) % 5 = 4 then ntA (s (26 + 5 * ((i - 24) / 5))) (s (28 + 5 * ((i - 24) / 5))) (flA x s (12 + tn (s (25 + 5 * ((i - 24) / 5))))) else s i) else flA x s i
/-- an hour by the plan -/
def hr1 (s : St) : St := hrA (s (4 + tn (s 0) % 8)) s
def hrN : Nat → St → St
  | 0, s => s
  | n + 1, s => hr1 (hrN n s)
theorem flA_out {x : Int32} {s : St} {i : Nat} (h0 : i ≠ 0) (h2 : i ≠ 2) (h : i < 12 ∨ 24 ≤ i) : flA x s i = s i := by
  unfold flA
  rw [if_neg h0, if_neg h2, if_neg (by omega)]
theorem flA_l {x : Int32} {s : St} {c : Nat} (hc : c < 12) : flA x s (12 + c) = lvW x (fun k => s (12 + k)) c := by
  unfold flA
  rw [if_neg (by omega), if_neg (by omega), if_pos (by omega), show 12 + c - 12 = c by omega]
theorem hrA_lo {x : Int32} {s : St} {i : Nat} (h : i < 24 ∨ 64 ≤ i) : hrA x s i = flA x s i := by
  unfold hrA
  rw [if_neg (by omega)]
theorem hrA_1 (x : Int32) (s : St) : hrA x s 1 = s 1 := by
  rw [hrA_lo (by omega), flA_out (by omega) (by omega) (by omega)]
theorem hrA_0 (x : Int32) (s : St) : hrA x s 0 = s 0 + 1 := rfl
theorem hrA_w {x : Int32} {s : St} {w f : Nat} (hw : w < tn (s 1)) (hm : tn (s 1) ≤ 8) (hf : f < 5) : hrA x s (24 + 5 * w + f) = if f = 3 then nbA (s (24 + 5 * w)) (s (26 + 5 * w)) (s (27 + 5 * w)) (s (12 + tn (s (25 + 5 * w)))) (flA x s (12 + tn (s (25 + 5 * w)))) else if f = 4 then ntA (s (26 + 5 * w)) (s (28 + 5 * w)) (flA x s (12 + tn (s (25 + 5 * w)))) else s (24 + 5 * w + f) := by
  unfold hrA
  rw [if_pos (by omega), show (24 + 5 * w + f - 24) / 5 = w by omega, show (24 + 5 * w + f - 24) % 5 = f by omega]
theorem hrA_NRM {x : Int32} {s : St} (h : NRM s) (hm : tn (s 1) ≤ 8) : NRM (hrA x s) := by
  unfold NRM at h ⊢
  funext i
  unfold NV
  rw [hrA_1]
  by_cases c1 : i < 24
  · rw [if_pos c1]
  · rw [if_neg c1]
    by_cases c2 : i < 64
    · rw [if_pos c2]
      by_cases c3 : 24 + 5 * tn (s 1) ≤ i
      · rw [if_pos c3]
        have e1 : hrA x s i = s i := by
          unfold hrA
          rw [if_neg (by omega), flA_out (by omega) (by omega) (by omega)]
        rw [e1, ← h]
        unfold NV
        rw [if_neg c1, if_pos c2, if_pos c3]
      · rw [if_neg c3]
    · rw [if_neg c2]
      by_cases c3 : i < 74
      · rw [if_pos c3]
      · rw [if_neg c3, hrA_lo (by omega), flA_out (by omega) (by omega) (by omega), ← h]
        unfold NV
        rw [if_neg c1, if_neg c2, if_neg c3]

/-! ===== pure: numbers, checks, loops ===== -/
abbrev tn (x : Int32) : Nat := x.toNatClampNeg
/-- a number from 0 to n -/
def Bn (x : Int32) (n : Nat) : Prop := tn x ≤ n ∧ x = nI (tn x)
theorem Bn_nI {j n : Nat} (h : j ≤ n) (hj : j < 2 ^ 31) : Bn (nI j) n := by
  have e : tn (nI j) = j := nI_clamp hj
  exact ⟨by rw [e]; exact h, by rw [e]⟩
theorem Bn.up {x : Int32} {n m : Nat} (h : Bn x n) (hm : n ≤ m) : Bn x m := ⟨Nat.le_trans h.1 hm, h.2⟩
theorem Bn.in {x : Int32} {n N : Nat} (h : Bn x n) (hN : n < N) (hs : N < 2 ^ 31) : vp_in x N := by
  rw [h.2]
  exact vp_in_nI (Nat.lt_of_le_of_lt h.1 hN) hs
theorem Bn.chk {x : Int32} {n N : Nat} (h : Bn x n) (hN : n < N) (hs : N < 2 ^ 31) {R : Type} (k : Option R) : chk x N k = k := chk_ok (h.in hN hs)
theorem chk_nI {j N : Nat} (h : j < N) (hs : N < 2 ^ 31) {R : Type} (k : Option R) : chk (nI j) N k = k := chk_ok (vp_in_nI h hs)
theorem tn_nI {j : Nat} (h : j < 2 ^ 31) : tn (nI j) = j := nI_clamp h
theorem Bn_of {x : Int32} {n : Nat} (h0 : 0 ≤ x.toInt) (h : x.toInt ≤ n) (hn : n < 2 ^ 31) : Bn x n := by
  have hx : ¬ x < 0 := by
    rw [Int32.lt_iff_toInt_lt]
    show ¬ x.toInt < 0
    omega
  obtain ⟨j, hj, rfl⟩ := nI_of hx
  rw [nI_toInt hj] at h
  exact Bn_nI (by omega) hj
theorem Bn.toInt {x : Int32} {n : Nat} (h : Bn x n) (hn : n < 2 ^ 31) : x.toInt = (tn x : Int) := by
  have := h.1
  rw [h.2, nI_toInt (by omega), tn_nI (by omega)]
theorem Bn.ge {x : Int32} {n : Nat} (h : Bn x n) (hn : n < 2 ^ 31) : 0 ≤ x.toInt := by
  rw [h.toInt hn]; omega
theorem Bn.le {x : Int32} {n : Nat} (h : Bn x n) (hn : n < 2 ^ 31) : x.toInt ≤ n := by
  have := h.1
  rw [h.toInt hn]; omega
theorem outside_spec (x : Int32) (m : Nat) (hm : m < 2 ^ 31) : f_X5_outside x (nI m) = if 0 ≤ x.toInt ∧ x.toInt ≤ (m : Int) then 0 else 1 := by
  unfold f_X5_outside
  have e0 : x < 0 ↔ x.toInt < 0 := Int32.lt_iff_toInt_lt
  have e1 : x ≤ nI m ↔ x.toInt ≤ (m : Int) := by rw [Int32.le_iff_toInt_le, nI_toInt hm]
  by_cases h0 : x.toInt < 0
  · rw [if_pos (e0.mpr h0), if_neg (by omega)]
  · by_cases h1 : x.toInt ≤ (m : Int)
    · rw [if_neg (fun q => h0 (e0.mp q)), if_pos (e1.mpr h1), if_pos (by omega)]
    · rw [if_neg (fun q => h0 (e0.mp q)), if_neg (fun q => h1 (e1.mp q)), if_neg (by omega)]
theorem in_spec (x lo hi : Int64) : f_X6_in x lo hi = if lo.toInt ≤ x.toInt ∧ x.toInt ≤ hi.toInt then 1 else 0 := by
  unfold f_X6_in
  have e0 : lg_cmp x lo < 0 ↔ x.toInt < lo.toInt := by rw [lg_cmp_lt, Int64.lt_iff_toInt_lt]
  have e1 : 0 < lg_cmp x hi ↔ hi.toInt < x.toInt := by rw [lg_cmp_gt, Int64.lt_iff_toInt_lt]
  by_cases h0 : x.toInt < lo.toInt
  · rw [if_pos (e0.mpr h0), if_neg (by omega)]
  · by_cases h1 : hi.toInt < x.toInt
    · rw [if_neg (fun q => h0 (e0.mp q)), if_pos (e1.mpr h1), if_neg (by omega)]
    · rw [if_neg (fun q => h0 (e0.mp q)), if_neg (fun q => h1 (e1.mp q)), if_pos (by omega)]
theorem in32 (x : Int32) (lo hi : Int64) {a b : Int} (ha : lo.toInt = a) (hb : hi.toInt = b) : f_X6_in x.toInt64 lo hi = if a ≤ x.toInt ∧ x.toInt ≤ b then 1 else 0 := by
  rw [in_spec, Int32.toInt_toInt64, ha, hb]
theorem it2_ind {A B R : Type} {f : (A → B → Option R) → A → B → Option R} {res : Option R} (P : Nat → A → B → Prop) (h : ∀ n a b rec, P n a b → (∀ m a' b', m < n → P m a' b' → rec a' b' = res) → f rec a b = res) : ∀ fu n a b, n < fu → P n a b → it2 f fu a b = res := by
  intro fu
  induction fu with
  | zero => intro n a b h1; omega
  | succ fu ih =>
    intro n a b hn hP
    exact h n a b _ hP (fun m a' b' hm hP' => ih m a' b' (by omega) hP')
theorem it1_ind {A R : Type} {f : (A → Option R) → A → Option R} {res : Option R} (P : Nat → A → Prop) (h : ∀ n a rec, P n a → (∀ m a', m < n → P m a' → rec a' = res) → f rec a = res) : ∀ fu n a, n < fu → P n a → it1 f fu a = res := by
  intro fu
  induction fu with
  | zero => intro n a h1; omega
  | succ fu ih =>
    intro n a hn hP
    exact h n a _ hP (fun m a' hm hP' => ih m a' (by omega) hP')
theorem it3_ind {A B C R : Type} {f : (A → B → C → Option R) → A → B → C → Option R} {res : Option R} (P : Nat → A → B → C → Prop) (h : ∀ n a b c rec, P n a b c → (∀ m a' b' c', m < n → P m a' b' c' → rec a' b' c' = res) → f rec a b c = res) : ∀ fu n a b c, n < fu → P n a b c → it3 f fu a b c = res := by
  intro fu
  induction fu with
  | zero => intro n a b c h1; omega
  | succ fu ih =>
    intro n a b c hn hP
    exact h n a b c _ hP (fun m a' b' c' hm hP' => ih m a' b' c' (by omega) hP')
theorem it4_ind {A B C D R : Type} {f : (A → B → C → D → Option R) → A → B → C → D → Option R} {res : Option R} (P : Nat → A → B → C → D → Prop) (h : ∀ n a b c d rec, P n a b c d → (∀ m a' b' c' d', m < n → P m a' b' c' d' → rec a' b' c' d' = res) → f rec a b c d = res) : ∀ fu n a b c d, n < fu → P n a b c d → it4 f fu a b c d = res := by
  intro fu
  induction fu with
  | zero => intro n a b c d h1; omega
  | succ fu ih =>
    intro n a b c d hn hP
    exact h n a b c d _ hP (fun m a' b' c' d' hm hP' => ih m a' b' c' d' (by omega) hP')
/-- a loop that counts to N, its states told ahead -/
theorem it2_for {S R : Type} {f : (Int32 → S → Option R) → Int32 → S → Option R} {res : Option R} (N : Nat) (st : Nat → S) {s0 : S} (h0 : s0 = st 0) (hN : N < 1000) (hs : ∀ rec i, i < N → f rec (nI i) (st i) = rec (nI (i + 1)) (st (i + 1))) (he : ∀ rec, f rec (nI N) (st N) = res) : it2 f FU 0 s0 = res := by
  refine it2_ind (fun n a b => ∃ i, i + n = N ∧ a = nI i ∧ b = st i) ?_ FU N 0 s0 hN ⟨0, by omega, nI_0.symm, h0⟩
  rintro n a b rec ⟨i, hi, rfl, rfl⟩ ih
  by_cases hn : n = 0
  · subst hn
    obtain rfl : i = N := hi
    exact he rec
  · rw [hs rec i (by omega)]
    exact ih (n - 1) _ _ (by omega) ⟨i + 1, by omega, rfl, rfl⟩
theorem it2_for' {S R : Type} {f : (S → Int32 → Option R) → S → Int32 → Option R} {res : Option R} (N : Nat) (st : Nat → S) {s0 : S} (h0 : s0 = st 0) (hN : N < 1000) (hs : ∀ rec i, i < N → f rec (st i) (nI i) = rec (st (i + 1)) (nI (i + 1))) (he : ∀ rec, f rec (st N) (nI N) = res) : it2 f FU s0 0 = res := by
  refine it2_ind (fun n a b => ∃ i, i + n = N ∧ b = nI i ∧ a = st i) ?_ FU N s0 0 hN ⟨0, by omega, nI_0.symm, h0⟩
  rintro n a b rec ⟨i, hi, rfl, rfl⟩ ih
  by_cases hn : n = 0
  · subst hn
    obtain rfl : i = N := hi
    exact he rec
  · rw [hs rec i (by omega)]
    exact ih (n - 1) _ _ (by omega) ⟨i + 1, by omega, rfl, rfl⟩
theorem mst_ap (σ : Mem) (c k : Nat) (v : Int32) (c' k' : Nat) : mst σ c k v c' k' = if c' = c ∧ k' = k then v else σ c' k' := by
  unfold mst upd
  by_cases h1 : c' = c
  · subst h1
    by_cases h2 : k' = k <;> simp [h2]
  · simp [h1]
theorem mcp_ap (σ : Mem) (c : Nat) (g : Nat → Int32) (c' : Nat) : mcp σ c g c' = if c' = c then g else σ c' := rfl
theorem cpy_ap (f g : Nat → Int32) (n k : Nat) : va_cpy f g 0 0 n k = if k < n then f k else g k := by
  unfold va_cpy
  simp
theorem nle {a b : Nat} (h : a ≤ b) (hb : b < 2 ^ 31) : nI a ≤ nI b := nI_le h hb
theorem nnle {a b : Nat} (h : a < b) (hb : b < 2 ^ 31) : ¬ nI b ≤ nI a := nI_ge h hb
theorem mst_c {σ : Mem} {c k : Nat} {v : Int32} {c' : Nat} (h : c' ≠ c) : mst σ c k v c' = σ c' := by
  unfold mst; rw [if_neg h]
theorem n_add (a b : Nat) : nI a + nI b = nI (a + b) := nI_add a b

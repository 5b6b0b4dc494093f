/-! ===== pure: the texts' tokens ===== -/
def cdB (b : Nat) : Nat := if 97 ≤ b ∧ b ≤ 122 then 1 else if 48 ≤ b ∧ b ≤ 57 then 2 else if b = 59 then 3 else 4
theorem tokenOf_eq {b : Nat} (hb : b ≤ 255) : f_X0_tokenOf (nI b) = nI (cdB b) := by
  have l97 : nI b < 97 ↔ b < 97 := nI_ltI (b := 97) (by omega) (by decide)
  have g122 : 122 < nI b ↔ 122 < b := nI_ltI (a := 122) (by decide) (by omega)
  have l48 : nI b < 48 ↔ b < 48 := nI_ltI (b := 48) (by omega) (by decide)
  have g57 : 57 < nI b ↔ 57 < b := nI_ltI (a := 57) (by decide) (by omega)
  have e59 : nI b = 59 ↔ b = 59 := nI_eq (b := 59) (by omega) (by decide)
  unfold f_X0_tokenOf f_X0_tokenOf_J14 f_X0_tokenOf_J28 cdB
  by_cases h1 : 97 ≤ b ∧ b ≤ 122
  · rw [if_neg (fun q => by have := l97.mp q; omega), if_neg (fun q => by have := g122.mp q; omega), if_pos h1]; rfl
  · rw [if_neg h1]
    by_cases h2 : 48 ≤ b ∧ b ≤ 57
    · rw [if_pos (l97.mpr (by omega)), if_neg (fun q => by have := l48.mp q; omega), if_neg (fun q => by have := g57.mp q; omega), if_pos h2]; rfl
    · rw [if_neg h2]
      have fin : (if nI b = 59 then (3 : Int32) else 4) = nI (if b = 59 then 3 else 4) := by
        by_cases h3 : b = 59
        · rw [if_pos h3, if_pos (e59.mpr h3)]; rfl
        · rw [if_neg h3, if_neg (fun q => h3 (e59.mp q))]; rfl
      rw [fin]
      by_cases a1 : b < 97
      · rw [if_pos (l97.mpr a1)]
        by_cases a2 : b < 48
        · rw [if_pos (l48.mpr a2)]
        · rw [if_neg (fun q => a2 (l48.mp q)), if_pos (g57.mpr (by omega))]
      · rw [if_neg (fun q => a1 (l97.mp q)), if_pos (g122.mpr (by omega))]
        rw [if_neg (fun q => by have := l48.mp q; omega), if_pos (g57.mpr (by omega))]
theorem isLetter_eq {b : Nat} (hb : b ≤ 255) : f_X6_isLetter (nI b) = 0 ↔ ¬ cdB b = 1 := by
  unfold f_X6_isLetter
  rw [in_iff, nI_toInt (by omega), show (97 : Int64).toInt = 97 from rfl, show (122 : Int64).toInt = 122 from rfl]
  unfold cdB
  by_cases h1 : 97 ≤ b ∧ b ≤ 122
  · rw [if_pos h1]; omega
  · rw [if_neg h1]
    constructor
    · intro _
      split
      · decide
      · split <;> decide
    · intro _; omega
theorem isDigit_eq {b : Nat} (hb : b ≤ 255) : f_X6_isDigit (nI b) = 0 ↔ ¬ cdB b = 2 := by
  unfold f_X6_isDigit
  rw [in_iff, nI_toInt (by omega), show (48 : Int64).toInt = 48 from rfl, show (57 : Int64).toInt = 57 from rfl]
  unfold cdB
  by_cases h1 : 97 ≤ b ∧ b ≤ 122
  · rw [if_pos h1]
    exact ⟨fun _ => by decide, fun _ => by omega⟩
  · rw [if_neg h1]
    by_cases h2 : 48 ≤ b ∧ b ≤ 57
    · rw [if_pos h2]; omega
    · rw [if_neg h2]
      constructor
      · intro _
        split <;> decide
      · intro _; omega
theorem cdB_b (b : Nat) : cdB b = 1 ∨ cdB b = 2 ∨ cdB b = 3 ∨ cdB b = 4 := by
  unfold cdB
  repeat' split
  all_goals decide
def TPR (σ μ : Mem) (L : Nat) (B : Nat → Nat) : Prop := σ 71 1 = nI L ∧ μ 0 13 = nI L ∧ L ≤ 120 ∧ ∀ i, i < L → σ 72 i = nI (B i) ∧ μ 8 i = nI (B i) ∧ B i ≤ 255
def kdT (L : Nat) (B : Nat → Nat) (s : Nat) : Nat := if s < L then cdB (B s) else 0
theorem kdT_b (L : Nat) (B : Nat → Nat) (s : Nat) : kdT L B s ≤ 4 := by
  unfold kdT
  split
  · have := cdB_b (B s); omega
  · decide
def FA (σ σ' : Mem) : Prop := (∀ c, c ≠ 71 → σ' c = σ c) ∧ σ' 71 1 = σ 71 1 ∧ σ' 71 2 = σ 71 2
def FB (μ μ' : Mem) : Prop := (∀ c, c ≠ 0 → μ' c = μ c) ∧ (∀ x, x ≠ 14 → x ≠ 15 → μ' 0 x = μ 0 x)
theorem FA.trans {a b c : Mem} (h : FA a b) (g : FA b c) : FA a c := ⟨fun x hx => by rw [g.1 x hx, h.1 x hx], by rw [g.2.1, h.2.1], by rw [g.2.2, h.2.2]⟩
theorem FB.trans {a b c : Mem} (h : FB a b) (g : FB b c) : FB a c := ⟨fun x hx => by rw [g.1 x hx, h.1 x hx], fun x h1 h2 => by rw [g.2 x h1 h2, h.2 x h1 h2]⟩
theorem FA.rfl' (σ : Mem) : FA σ σ := ⟨fun _ _ => rfl, rfl, rfl⟩
theorem FB.rfl' (μ : Mem) : FB μ μ := ⟨fun _ _ => rfl, fun _ _ _ => rfl⟩
theorem FA.st {σ θ : Mem} {k : Nat} {v : Int32} (h : FA σ θ) (h1 : k ≠ 1) (h2 : k ≠ 2) : FA σ (mst θ 71 k v) :=
  ⟨fun c hc => by rw [mst_c hc, h.1 c hc], by rw [mst_ap, if_neg (by omega), h.2.1], by rw [mst_ap, if_neg (by omega), h.2.2]⟩
theorem FB.st {μ θ : Mem} {k : Nat} {v : Int32} (h : FB μ θ) (hk : k = 14 ∨ k = 15) : FB μ (mst θ 0 k v) :=
  ⟨fun c hc => by rw [mst_c hc, h.1 c hc], fun x h1 h2 => by rw [mst_ap, if_neg (by omega), h.2 x h1 h2]⟩
theorem TPR.fr {σ μ σ' μ' : Mem} {L : Nat} {B : Nat → Nat} (h : TPR σ μ L B) (ha : FA σ σ') (hb : FB μ μ') : TPR σ' μ' L B := by
  obtain ⟨h1, h2, h3, h4⟩ := h
  exact ⟨by rw [ha.2.1]; exact h1, by rw [hb.2 13 (by decide) (by decide)]; exact h2, h3, by rw [ha.1 72 (by decide), hb.1 8 (by decide)]; exact h4⟩
def TS (L : Nat) (B : Nat → Nat) (σ μ : Mem) (s e : Nat) : Prop := σ 71 4 = nI s ∧ σ 71 5 = nI e ∧ σ 71 3 = nI (kdT L B s) ∧ μ 0 14 = nI s ∧ μ 0 15 = nI e ∧ s ≤ L ∧ e ≤ L ∧ (s < L → s < e) ∧ (¬ s < L → e = s) ∧ (kdT L B s = 1 → ∀ i, s ≤ i → i < e → cdB (B i) = 1) ∧ (kdT L B s = 2 → ∀ i, s ≤ i → i < e → cdB (B i) = 2)
theorem byteAt_eq {σ μ : Mem} {L : Nat} {B : Nat → Nat} (h : TPR σ μ L B) {p : Nat} (hp : p ≤ L) : f_X6_byteAt (nI p) μ = some (if p < L then nI (B p) else -1) := by
  obtain ⟨h1, h2, h3, h4⟩ := h
  unfold f_X6_byteAt
  rw [h2]
  by_cases hl : p < L
  · rw [if_neg (nnle hl (by omega)), chk_nI (show p < 120 by omega) (by decide), nI_clamp (show p < 2 ^ 31 by omega), (h4 p hl).2.1, if_pos hl]
  · rw [if_pos (nle (by omega) (by omega)), if_neg hl]
theorem letterAt {L : Nat} {B : Nat → Nat} (hB : ∀ i, i < L → B i ≤ 255) (p : Nat) : f_X6_isLetter (if p < L then nI (B p) else -1) = 0 ↔ ¬ kdT L B p = 1 := by
  unfold kdT
  by_cases hl : p < L
  · rw [if_pos hl, if_pos hl]; exact isLetter_eq (hB p hl)
  · rw [if_neg hl, if_neg hl]
    exact ⟨fun _ => by decide, fun _ => by decide⟩
theorem digitAt {L : Nat} {B : Nat → Nat} (hB : ∀ i, i < L → B i ≤ 255) (p : Nat) : f_X6_isDigit (if p < L then nI (B p) else -1) = 0 ↔ ¬ kdT L B p = 2 := by
  unfold kdT
  by_cases hl : p < L
  · rw [if_pos hl, if_pos hl]; exact isDigit_eq (hB p hl)
  · rw [if_neg hl, if_neg hl]
    exact ⟨fun _ => by decide, fun _ => by decide⟩
theorem TPR.b {σ μ : Mem} {L : Nat} {B : Nat → Nat} (h : TPR σ μ L B) : ∀ i, i < L → B i ≤ 255 := fun i hi => (h.2.2.2 i hi).2.2
theorem it1_s {A R : Type} (f : (A → Option R) → A → Option R) (n : Nat) (a : A) : it1 f (n + 1) a = f (it1 f n) a := rfl
/-- a word or a number goes on as long as can be -/
theorem ext_sim {σ μ : Mem} {L : Nat} {B : Nat → Nat} (hT : TPR σ μ L B) {s : Nat} (hs : s < L) : ∀ d fu e (θ ν : Mem), e + d = L → d < fu → FA σ θ → FB μ ν → θ 71 3 = nI (kdT L B s) → θ 71 4 = nI s → θ 71 5 = nI e → ν 0 14 = nI s → ν 0 15 = nI e → s < e → (kdT L B s = 1 → ∀ i, s ≤ i → i < e → cdB (B i) = 1) → (kdT L B s = 2 → ∀ i, s ≤ i → i < e → cdB (B i) = 2) → ∃ σ' μ' e', it1 f_X0_advance_B97 fu θ = some σ' ∧ it1 (f_X6_token_B86 (if s < L then nI (B s) else -1) (if s < L then nI (B s) else -1)) fu ν = some μ' ∧ FA σ σ' ∧ FB μ μ' ∧ TS L B σ' μ' s e' := by
  intro d
  induction d with
  | zero =>
    intro fu e θ ν hd hf ha hb t3 t4 t5 m14 m15 hse q1 q2
    have hT2 := hT.fr ha hb
    match fu, hf with
    | fu + 1, hf =>
      refine ⟨θ, ν, e, ?_, ?_, ha, hb, t4, t5, t3, m14, m15, by omega, by omega, fun _ => hse, fun q => absurd hs q, q1, q2⟩
      · show f_X0_advance_B97 (it1 f_X0_advance_B97 fu) θ = _
        unfold f_X0_advance_B97
        rw [hT2.1, t5, if_pos (nle (by omega) (by have := hT.2.2.1; omega))]
      · show f_X6_token_B86 _ _ (it1 (f_X6_token_B86 _ _) fu) ν = _
        unfold f_X6_token_B86 f_X6_token_J104
        rw [m15, byteAt_eq hT2 (by omega), Option.bind_some, Option.bind_some]
        have hk0 : kdT L B e = 0 := if_neg (by omega)
        rw [if_pos ((letterAt hT.b e).mpr (by rw [hk0]; decide)), if_pos ((digitAt hT.b e).mpr (by rw [hk0]; decide)), ite_self, ite_self]
  | succ d ih =>
    intro fu e θ ν hd hf ha hb t3 t4 t5 m14 m15 hse q1 q2
    have hT2 := hT.fr ha hb
    have hL := hT.2.2.1
    match fu, hf with
    | fu + 1, hf =>
      have hel : e < L := by omega
      have he := hT2.2.2.2 e hel
      have ex5 : it1 f_X0_advance_B97 (fu + 1) θ = f_X0_advance_B97 (it1 f_X0_advance_B97 fu) θ := rfl
      have ex6 : it1 (f_X6_token_B86 (if s < L then nI (B s) else -1) (if s < L then nI (B s) else -1)) (fu + 1) ν = f_X6_token_B86 (if s < L then nI (B s) else -1) (if s < L then nI (B s) else -1) (it1 (f_X6_token_B86 (if s < L then nI (B s) else -1) (if s < L then nI (B s) else -1)) fu) ν := rfl
      rw [ex5, ex6]
      replace ih := ih fu (e + 1)
      revert ih
      generalize it1 f_X0_advance_B97 fu = R5
      generalize it1 (f_X6_token_B86 (if s < L then nI (B s) else -1) (if s < L then nI (B s) else -1)) fu = R6
      intro ih
      have hke : kdT L B e = cdB (B e) := if_pos hel
      have hks : kdT L B s = cdB (B s) := if_pos hs
      have cb := cdB_b (B s)
      have cbe := cdB_b (B e)
      -- the class goes on or stops
      have c5 : f_X0_advance_B97 R5 θ = if (cdB (B s) = 1 ∨ cdB (B s) = 2) ∧ cdB (B e) = cdB (B s) then R5 (mst θ 71 5 (nI (e + 1))) else some θ := by
        unfold f_X0_advance_B97 f_X0_advance_J124
        have e1 : θ 71 3 = 1 ↔ cdB (B s) = 1 := by
          rw [t3, hks, show (1 : Int32) = nI 1 from rfl, nI_eq (by omega) (by decide)]
        have e2 : θ 71 3 = 2 ↔ cdB (B s) = 2 := by
          rw [t3, hks, show (2 : Int32) = nI 2 from rfl, nI_eq (by omega) (by decide)]
        have e3 : f_X0_tokenOf (θ 72 (θ 71 5).toNatClampNeg) = θ 71 3 ↔ cdB (B e) = cdB (B s) := by
          rw [t5, nI_clamp (show e < 2 ^ 31 by omega), he.1, tokenOf_eq he.2.2, t3, hks, nI_eq (by omega) (by omega)]
        rw [if_neg (show ¬ θ 71 1 ≤ θ 71 5 by rw [hT2.1, t5]; exact nnle hel (by omega))]
        have ck : ∀ {R : Type} (x : Option R), chk (θ 71 5) 120 x = x := fun x => by rw [t5]; exact chk_nI (show e < 120 by omega) (by decide) x
        rw [ck]
        have e5 : mst θ 71 5 (θ 71 5 + 1) = mst θ 71 5 (nI (e + 1)) := by rw [t5, nI_1]
        rw [e5]
        by_cases g : cdB (B e) = cdB (B s)
        · rw [if_pos (e3.mpr g)]
          by_cases g1 : cdB (B s) = 1
          · rw [if_pos (e1.mpr g1), if_pos ⟨Or.inl g1, g⟩]
          · rw [if_neg (fun q => g1 (e1.mp q))]
            by_cases g2 : cdB (B s) = 2
            · rw [if_pos (e2.mpr g2), if_pos ⟨Or.inr g2, g⟩]
            · rw [if_neg (fun q => g2 (e2.mp q)), if_neg (by omega)]
        · rw [if_neg (fun q => g (e3.mp q)), ite_self, ite_self, if_neg (fun q => g q.2)]
      have c6 : f_X6_token_B86 (if s < L then nI (B s) else -1) (if s < L then nI (B s) else -1) R6 ν = if (cdB (B s) = 1 ∨ cdB (B s) = 2) ∧ cdB (B e) = cdB (B s) then R6 (mst ν 0 15 (nI (e + 1))) else some ν := by
        unfold f_X6_token_B86 f_X6_token_J104 f_X6_token_J122
        have e5 : mst ν 0 15 (ν 0 15 + 1) = mst ν 0 15 (nI (e + 1)) := by rw [m15, nI_1]
        have ls := letterAt hT.b s
        have ds := digitAt hT.b s
        have le := letterAt hT.b e
        have de := digitAt hT.b e
        rw [hks] at ls ds
        rw [hke] at le de
        have bt : f_X6_byteAt (ν 0 15) ν = some (if e < L then nI (B e) else -1) := by rw [m15]; exact byteAt_eq hT2 (by omega)
        rw [e5, bt, Option.bind_some, Option.bind_some]
        by_cases g1 : cdB (B s) = 1
        · rw [if_neg (fun q => (ls.mp q) g1), if_pos (ds.mpr (by omega))]
          by_cases h1 : cdB (B e) = 1
          · rw [if_neg (fun q => (le.mp q) h1), if_pos ⟨Or.inl g1, by omega⟩]
          · rw [if_pos (le.mpr h1), if_neg (by omega)]
        · rw [if_pos (ls.mpr g1)]
          by_cases g2 : cdB (B s) = 2
          · rw [if_neg (fun q => (ds.mp q) g2)]
            by_cases h2 : cdB (B e) = 2
            · rw [if_neg (fun q => (de.mp q) h2), if_pos ⟨Or.inr g2, by omega⟩]
            · rw [if_pos (de.mpr h2), if_neg (by omega)]
          · rw [if_pos (ds.mpr g2), if_neg (by omega)]
      rw [c5, c6]
      by_cases g : (cdB (B s) = 1 ∨ cdB (B s) = 2) ∧ cdB (B e) = cdB (B s)
      · rw [if_pos g, if_pos g]
        refine ih _ _ (by omega) (by omega) (ha.st (by decide) (by decide)) (hb.st (Or.inr rfl)) ?_ ?_ ?_ ?_ ?_ (by omega) ?_ ?_
        · rw [mst_ap, if_neg (by decide)]; exact t3
        · rw [mst_ap, if_neg (by decide)]; exact t4
        · rw [mst_ap, if_pos ⟨rfl, rfl⟩]
        · rw [mst_ap, if_neg (by decide)]; exact m14
        · rw [mst_ap, if_pos ⟨rfl, rfl⟩]
        · intro k1 i h1 h2
          by_cases ei : i = e
          · rw [ei, g.2, ← hks]; exact k1
          · exact q1 k1 i h1 (by omega)
        · intro k1 i h1 h2
          by_cases ei : i = e
          · rw [ei, g.2, ← hks]; exact k1
          · exact q2 k1 i h1 (by omega)
      · rw [if_neg g, if_neg g]
        exact ⟨θ, ν, e, rfl, rfl, ha, hb, t4, t5, t3, m14, m15, by omega, by omega, fun _ => hse, fun q => absurd hs q, q1, q2⟩
theorem adv_sim {σ μ : Mem} {L e : Nat} {B : Nat → Nat} (hT : TPR σ μ L B) (h5 : σ 71 5 = nI e) (h15 : μ 0 15 = nI e) (he : e ≤ L) : ∃ σ' μ' s e', f_X0_advance σ = some σ' ∧ f_X6_token μ = some μ' ∧ FA σ σ' ∧ FB μ μ' ∧ TS L B σ' μ' s e' ∧ e ≤ s := by
  have hL := hT.2.2.1
  unfold f_X0_advance f_X6_token
  rw [h5, h15]
  have key : ∀ d fu p (θ ν : Mem), p + d = L → d < fu → FA σ θ → FB μ ν → θ 71 4 = nI p → ν 0 14 = nI p → e ≤ p → ∃ σ' μ' s e', it1 f_X0_advance_B8 fu θ = some σ' ∧ it1 f_X6_token_B8 fu ν = some μ' ∧ FA σ σ' ∧ FB μ μ' ∧ TS L B σ' μ' s e' ∧ e ≤ s := by
    -- no more blanks
    have stop : ∀ p (θ ν : Mem) (R6 : Mem → Option Mem), p ≤ L → FA σ θ → FB μ ν → θ 71 4 = nI p → ν 0 14 = nI p → e ≤ p → (p < L → B p ≠ 32) → ∃ σ' μ' s e', f_X0_advance_J46 θ = some σ' ∧ f_X6_token_B8 R6 ν = some μ' ∧ FA σ σ' ∧ FB μ μ' ∧ TS L B σ' μ' s e' ∧ e ≤ s := by
      intro p θ ν R6 hp ha hb t4 m14 hep h32
      have hT2 := hT.fr ha hb
      have bt : f_X6_byteAt (ν 0 14) ν = some (if p < L then nI (B p) else -1) := by rw [m14]; exact byteAt_eq hT2 hp
      unfold f_X0_advance_J46 f_X6_token_B8 f_X6_token_J83
      have a4 : mst θ 71 5 (θ 71 4) 71 4 = nI p := by rw [mst_ap, if_neg (by decide)]; exact t4
      have a1 : mst θ 71 5 (θ 71 4) 71 1 = nI L := by rw [mst_ap, if_neg (by decide)]; exact hT2.1
      have a72 : mst θ 71 5 (θ 71 4) 72 = θ 72 := mst_c (by decide)
      rw [a4, a1, a72, bt, Option.bind_some, Option.bind_some, Option.bind_some, hT2.2.1, m14]
      by_cases hpl : p < L
      · have hbp := hT2.2.2.2 p hpl
        have n32 : ¬ (if p < L then nI (B p) else -1) = 32 := by
          rw [if_pos hpl, show (32 : Int32) = nI 32 from rfl, nI_eq (by omega) (by decide)]
          exact h32 hpl
        rw [if_pos (nI_lt hpl (by omega)), chk_nI (show p < 120 by omega) (by decide), if_neg n32, if_neg (nnle hpl (by omega)), nI_clamp (show p < 2 ^ 31 by omega), hbp.1, tokenOf_eq hbp.2.2, nI_1]
        have a5 : mst (mst θ 71 5 (θ 71 4)) 71 3 (nI (cdB (B p))) 71 5 = nI p := by
          rw [mst_ap, if_neg (by decide), mst_ap, if_pos ⟨rfl, rfl⟩]; exact t4
        rw [a5, nI_1]
        have hk : kdT L B p = cdB (B p) := if_pos hpl
        obtain ⟨σ', μ', e', x1, x2, x3, x4, x5⟩ := ext_sim hT hpl (L - (p + 1)) FU (p + 1) (mst (mst (mst θ 71 5 (θ 71 4)) 71 3 (nI (cdB (B p)))) 71 5 (nI (p + 1))) (mst ν 0 15 (nI (p + 1))) (by omega) (show L - (p + 1) < 1000 by omega) (((ha.st (by decide) (by decide)).st (by decide) (by decide)).st (by decide) (by decide)) (hb.st (Or.inr rfl)) (by rw [mst_ap, if_neg (by decide), mst_ap, if_pos ⟨rfl, rfl⟩, hk]) (by rw [mst_ap, if_neg (by decide), mst_ap, if_neg (by decide)]; exact a4) (by rw [mst_ap, if_pos ⟨rfl, rfl⟩]) (by rw [mst_ap, if_neg (by decide)]; exact m14) (by rw [mst_ap, if_pos ⟨rfl, rfl⟩]) (by omega) (fun q i h1 h2 => by rw [show i = p by omega, ← hk]; exact q) (fun q i h1 h2 => by rw [show i = p by omega, ← hk]; exact q)
        exact ⟨σ', μ', p, e', x1, x2, x3, x4, x5, hep⟩
      · have hpL : p = L := by omega
        rw [if_neg (nI_nlt (by omega) (by omega)), if_neg hpl, if_neg (show ¬ (-1 : Int32) = 32 by decide), if_pos (nle (by omega) (by omega))]
        have hk : kdT L B p = 0 := if_neg hpl
        refine ⟨_, mst ν 0 15 (nI p), p, p, rfl, ?_, (ha.st (by decide) (by decide)).st (by decide) (by decide), hb.st (Or.inr rfl), ⟨?_, ?_, ?_, ?_, ?_, by omega, by omega, fun q => absurd q hpl, fun _ => rfl, fun q => by rw [hk] at q; exact absurd q (by decide), fun q => by rw [hk] at q; exact absurd q (by decide)⟩, hep⟩
        · rw [show FU = 999 + 1 from rfl, it1_s]
          unfold f_X6_token_B86 f_X6_token_J104
          rw [if_pos (by decide), if_pos (by decide)]
        · rw [mst_ap, if_neg (by decide)]; exact a4
        · rw [mst_ap, if_neg (by decide), mst_ap, if_pos ⟨rfl, rfl⟩]; exact t4
        · rw [mst_ap, if_pos ⟨rfl, rfl⟩, hk]; rfl
        · rw [mst_ap, if_neg (by decide)]; exact m14
        · rw [mst_ap, if_pos ⟨rfl, rfl⟩]
    intro d
    induction d with
    | zero =>
      intro fu p θ ν hd hf ha hb t4 m14 hep
      have hT2 := hT.fr ha hb
      match fu, hf with
      | fu + 1, hf =>
        obtain ⟨σ', μ', s, e', x1, x2, x3⟩ := stop p θ ν (it1 f_X6_token_B8 fu) (by omega) ha hb t4 m14 hep (fun q => by omega)
        refine ⟨σ', μ', s, e', ?_, x2, x3⟩
        show f_X0_advance_B8 (it1 f_X0_advance_B8 fu) θ = _
        unfold f_X0_advance_B8
        rw [hT2.1, t4, if_pos (nle (by omega) (by omega))]
        exact x1
    | succ d ih =>
      intro fu p θ ν hd hf ha hb t4 m14 hep
      have hT2 := hT.fr ha hb
      match fu, hf with
      | fu + 1, hf =>
        have hpl : p < L := by omega
        have hbp := hT2.2.2.2 p hpl
        have e32 : θ 72 (θ 71 4).toNatClampNeg = 32 ↔ B p = 32 := by
          rw [t4, nI_clamp (show p < 2 ^ 31 by omega), hbp.1, show (32 : Int32) = nI 32 from rfl, nI_eq (by omega) (by decide)]
        have c5 : it1 f_X0_advance_B8 (fu + 1) θ = if B p = 32 then it1 f_X0_advance_B8 fu (mst θ 71 4 (nI (p + 1))) else f_X0_advance_J46 θ := by
          show f_X0_advance_B8 (it1 f_X0_advance_B8 fu) θ = _
          generalize it1 f_X0_advance_B8 fu = R
          unfold f_X0_advance_B8
          have ck : ∀ {R : Type} (x : Option R), chk (θ 71 4) 120 x = x := fun x => by rw [t4]; exact chk_nI (show p < 120 by omega) (by decide) x
          rw [if_neg (show ¬ θ 71 1 ≤ θ 71 4 by rw [hT2.1, t4]; exact nnle hpl (by omega)), ck]
          by_cases h : B p = 32
          · rw [if_pos (e32.mpr h), if_pos h, t4, nI_1]
          · rw [if_neg (fun q => h (e32.mp q)), if_neg h]
        rw [c5]
        by_cases h : B p = 32
        · have c6 : it1 f_X6_token_B8 (fu + 1) ν = it1 f_X6_token_B8 fu (mst ν 0 14 (nI (p + 1))) := by
            show f_X6_token_B8 (it1 f_X6_token_B8 fu) ν = _
            generalize it1 f_X6_token_B8 fu = R
            unfold f_X6_token_B8
            rw [m14, byteAt_eq hT2 (by omega), Option.bind_some, if_pos (by rw [if_pos hpl, h]; rfl), nI_1]
          rw [c6, if_pos h]
          refine ih fu (p + 1) _ _ (by omega) (by omega) (ha.st (by decide) (by decide)) (hb.st (Or.inl rfl)) ?_ ?_ (by omega)
          · rw [mst_ap, if_pos ⟨rfl, rfl⟩]
          · rw [mst_ap, if_pos ⟨rfl, rfl⟩]
        · rw [if_neg h]
          exact stop p θ ν (it1 f_X6_token_B8 fu) (by omega) ha hb t4 m14 hep (fun _ => h)
  refine key (L - e) FU e _ _ (by omega) (show L - e < 1000 by omega) ((FA.rfl' σ).st (by decide) (by decide)) ((FB.rfl' μ).st (Or.inl rfl)) ?_ ?_ (Nat.le_refl e)
  · rw [mst_ap, if_pos ⟨rfl, rfl⟩]
  · rw [mst_ap, if_pos ⟨rfl, rfl⟩]

/-! ===== pure: words and numbers of a text ===== -/
def capV (B : Nat → Nat) (s : Nat) : Nat → Nat
  | 0 => 0
  | n + 1 => if 36028797018963967 < capV B s n then capV B s n else 32 * capV B s n + (B (s + n) - 96)
def valD (d : Nat → Nat) : Nat → Nat
  | 0 => 0
  | n + 1 => 32 * valD d n + d n
def cWn (z : Nat) : Nat := [435596, 539828, 18226974674418, 4820390066, 206440, 86282469, 24750694578, 52, 24165011, 74500462771, 12769452, 536622, 658670745].getD z 0
theorem cWn_val : ∀ z, z < 13 → valD (fun i => tn (sCh z (nI i)) - 96) (lenStr.getD z 0) = cWn z ∧ cWn z < 36028797018963968 ∧ lenStr.getD z 0 ≤ 9 := by decide +kernel
theorem sCh_b : ∀ z, z < 13 → ∀ i, i < lenStr.getD z 0 → sCh z (nI i) = nI (tn (sCh z (nI i))) ∧ 97 ≤ tn (sCh z (nI i)) ∧ tn (sCh z (nI i)) ≤ 122 := by decide +kernel
theorem valD_congr {d c : Nat → Nat} : ∀ n, (∀ i, i < n → d i = c i) → valD d n = valD c n
  | 0, _ => rfl
  | n + 1, h => by
    unfold valD
    rw [valD_congr n (fun i hi => h i (by omega)), h n (by omega)]
theorem valD_inj {d c : Nat → Nat} : ∀ n m, (∀ i, i < n → 1 ≤ d i ∧ d i < 32) → (∀ i, i < m → 1 ≤ c i ∧ c i < 32) → valD d n = valD c m → n = m ∧ ∀ i, i < n → d i = c i
  | 0, 0, _, _, _ => ⟨rfl, fun i hi => by omega⟩
  | 0, m + 1, _, hc, e => by
    have h0 : valD d 0 = 0 := rfl
    have h1 : valD c (m + 1) = 32 * valD c m + c m := rfl
    have := hc m (by omega)
    omega
  | n + 1, 0, hd, _, e => by
    have h0 : valD c 0 = 0 := rfl
    have h1 : valD d (n + 1) = 32 * valD d n + d n := rfl
    have := hd n (by omega)
    omega
  | n + 1, m + 1, hd, hc, e => by
    have h1 : valD d (n + 1) = 32 * valD d n + d n := rfl
    have h2 : valD c (m + 1) = 32 * valD c m + c m := rfl
    have a := hd n (by omega)
    have b := hc m (by omega)
    obtain ⟨g1, g2⟩ := valD_inj n m (fun i hi => hd i (by omega)) (fun i hi => hc i (by omega)) (by omega)
    subst g1
    refine ⟨rfl, fun i hi => ?_⟩
    by_cases e2 : i = n
    · subst e2; omega
    · exact g2 i (by omega)
theorem capV_bd {B : Nat → Nat} {s n : Nat} (hB : ∀ i, i < n → 97 ≤ B (s + i) ∧ B (s + i) ≤ 122) : capV B s n < 2 ^ 61 := by
  induction n with
  | zero => show 0 < 2 ^ 61; decide
  | succ n ih =>
    have := ih (fun i hi => hB i (by omega))
    have h := hB n (by omega)
    unfold capV
    split <;> omega
theorem capV_val {B : Nat → Nat} {s : Nat} : ∀ n, (∀ i, i < n → 97 ≤ B (s + i) ∧ B (s + i) ≤ 122) → n ≤ 11 → capV B s n = valD (fun i => B (s + i) - 96) n ∧ capV B s n < 32 ^ n
  | 0, _, _ => ⟨rfl, by show 0 < 1; decide⟩
  | n + 1, hB, hn => by
    obtain ⟨h1, h2⟩ := capV_val n (fun i hi => hB i (by omega)) (by omega)
    have h := hB n (by omega)
    have h3 : 32 ^ n ≤ 36028797018963968 := by
      have : 32 ^ n ≤ 32 ^ 11 := Nat.pow_le_pow_right (by decide) (by omega)
      exact this
    have e1 : capV B s (n + 1) = 32 * capV B s n + (B (s + n) - 96) := by
      show (if 36028797018963967 < capV B s n then capV B s n else 32 * capV B s n + (B (s + n) - 96)) = _
      rw [if_neg (by omega)]
    have e2 : valD (fun i => B (s + i) - 96) (n + 1) = 32 * valD (fun i => B (s + i) - 96) n + (B (s + n) - 96) := rfl
    rw [e1, e2, h1]
    refine ⟨rfl, ?_⟩
    rw [← h1, Nat.pow_succ]
    omega
theorem valD_low {d : Nat → Nat} : ∀ n, (∀ i, i < n + 1 → 1 ≤ d i) → 32 ^ n ≤ valD d (n + 1)
  | 0, h => by
    have := h 0 (by omega)
    show 1 ≤ 32 * 0 + d 0
    omega
  | n + 1, h => by
    have := valD_low n (fun i hi => h i (by omega))
    have e : valD d (n + 1 + 1) = 32 * valD d (n + 1) + d (n + 1) := rfl
    rw [e, Nat.pow_succ]
    omega
theorem capV_big {B : Nat → Nat} {s : Nat} : ∀ n, (∀ i, i < n + 12 → 97 ≤ B (s + i) ∧ B (s + i) ≤ 122) → 36028797018963968 ≤ capV B s (n + 12)
  | 0, hB => by
    obtain ⟨h1, h2⟩ := capV_val (B := B) (s := s) 11 (fun i hi => hB i (by omega)) (by decide)
    have h := hB 11 (by omega)
    have hl := valD_low (d := fun i => B (s + i) - 96) 11 (fun i hi => by have := hB i (by omega); show 1 ≤ B (s + i) - 96; omega)
    have e1 : capV B s (0 + 12) = (if 36028797018963967 < capV B s 11 then capV B s 11 else 32 * capV B s 11 + (B (s + 11) - 96)) := rfl
    have e2 : valD (fun i => B (s + i) - 96) (11 + 1) = 32 * valD (fun i => B (s + i) - 96) 11 + (B (s + 11) - 96) := rfl
    rw [e1]
    rw [e2, ← h1] at hl
    have h3 : (32 : Nat) ^ 11 = 36028797018963968 := by decide
    rw [h3] at hl h2
    rw [if_neg (by omega)]
    omega
  | n + 1, hB => by
    have := capV_big n (fun i hi => hB i (by omega))
    have e1 : capV B s (n + 1 + 12) = (if 36028797018963967 < capV B s (n + 12) then capV B s (n + 12) else 32 * capV B s (n + 12) + (B (s + (n + 12)) - 96)) := rfl
    rw [e1, if_pos (by omega)]
    exact this
theorem cap_iff {B : Nat → Nat} {s n z : Nat} (hz : z < 13) (hB : ∀ i, i < n → 97 ≤ B (s + i) ∧ B (s + i) ≤ 122) : capV B s n = cWn z ↔ (n = lenStr.getD z 0 ∧ ∀ i, i < n → B (s + i) = tn (sCh z (nI i))) := by
  obtain ⟨c1, c2, c3⟩ := cWn_val z hz
  have cb := sCh_b z hz
  constructor
  · intro e
    by_cases h12 : n < 12
    · obtain ⟨h1, -⟩ := capV_val n hB (by omega)
      rw [h1, ← c1] at e
      obtain ⟨g1, g2⟩ := valD_inj n (lenStr.getD z 0) (fun i hi => by have := hB i hi; show 1 ≤ B (s + i) - 96 ∧ B (s + i) - 96 < 32; omega) (fun i hi => by have := cb i hi; show 1 ≤ tn (sCh z (nI i)) - 96 ∧ tn (sCh z (nI i)) - 96 < 32; omega) e
      refine ⟨g1, fun i hi => ?_⟩
      have a := g2 i hi
      have b := hB i hi
      have c := cb i (by omega)
      omega
    · have := capV_big (B := B) (s := s) (n - 12) (fun i hi => hB i (by omega))
      rw [show n - 12 + 12 = n by omega] at this
      omega
  · rintro ⟨g1, g2⟩
    obtain ⟨h1, -⟩ := capV_val n hB (by omega)
    rw [h1, ← c1, ← g1]
    exact valD_congr n (fun i hi => by show B (s + i) - 96 = _; rw [g2 i hi])
theorem letter_rng {b : Nat} (h : cdB b = 1) : 97 ≤ b ∧ b ≤ 122 := by
  unfold cdB at h
  by_cases h1 : 97 ≤ b ∧ b ≤ 122
  · exact h1
  · rw [if_neg h1] at h
    repeat' split at h
    all_goals omega
theorem digit_rng {b : Nat} (h : cdB b = 2) : 48 ≤ b ∧ b ≤ 57 := by
  unfold cdB at h
  by_cases h1 : 97 ≤ b ∧ b ≤ 122
  · rw [if_pos h1] at h; omega
  · rw [if_neg h1] at h
    by_cases h2 : 48 ≤ b ∧ b ≤ 57
    · exact h2
    · rw [if_neg h2] at h
      repeat' split at h
      all_goals omega
/-- the reference's word -/
theorem word_eq {σ μ : Mem} {L s e : Nat} {B : Nat → Nat} (hT : TPR σ μ L B) (hS : TS L B σ μ s e) (hw : μ 0 17 = 0) : f_X6_word μ = some (if kdT L B s = 1 then lN (capV B s (e - s)) else 0) := by
  obtain ⟨t1, t2, t3, t4, t5, t6, t7, t8, t9, t10, t11⟩ := hS
  have hL := hT.2.2.1
  have hse : s ≤ e := by
    by_cases h : s < L
    · have := t8 h; omega
    · have := t9 h; omega
  unfold f_X6_word
  rw [t4]
  by_cases hk : kdT L B s = 1
  · rw [if_pos hk]
    have hB : ∀ i, i < e - s → 97 ≤ B (s + i) ∧ B (s + i) ≤ 122 := fun i hi => letter_rng (t10 hk (s + i) (by omega) (by omega))
    have key : ∀ d fu i, s + i + d = e → d < fu → it2 (f_X6_word_B7 μ) fu (lN (capV B s i)) (nI (s + i)) = some (lN (capV B s (e - s))) := by
      intro d
      induction d with
      | zero =>
        intro fu i hd hf
        match fu, hf with
        | fu + 1, hf =>
          show f_X6_word_B7 μ (it2 (f_X6_word_B7 μ) fu) (lN (capV B s i)) (nI (s + i)) = _
          unfold f_X6_word_B7
          rw [t5, if_pos (nle (by omega) (by omega)), if_pos hw, t4, byteAt_eq hT t6, Option.bind_some, if_neg (fun q => ((letterAt hT.b s).mp q) hk), show e - s = i by omega]
      | succ d ih =>
        intro fu i hd hf
        match fu, hf with
        | fu + 1, hf =>
          show f_X6_word_B7 μ (it2 (f_X6_word_B7 μ) fu) (lN (capV B s i)) (nI (s + i)) = _
          replace ih := ih fu (i + 1)
          revert ih
          generalize it2 (f_X6_word_B7 μ) fu = R
          intro ih
          unfold f_X6_word_B7 f_X6_word_J43
          have hbd := capV_bd (B := B) (s := s) (n := i) (fun j hj => hB j (by omega))
          have hb := hB i (by omega)
          have ht := hT.2.2.2 (s + i) (by omega)
          rw [t5, if_neg (nnle (show s + i < e by omega) (by omega)), chk_nI (show s + i < 120 by omega) (by decide), nI_clamp (show s + i < 2 ^ 31 by omega), ht.2.1, nI_1]
          have e1 : (nI (B (s + i)) - 96).toInt64 = lN (B (s + i) - 96) := by
            rw [show nI (B (s + i)) - 96 = nI (B (s + i) - 96) from pk_sub (a := B (s + i)) (b := 96) (by omega)]
            exact nI_l (by omega)
          have e2 : 32 * lN (capV B s i) + (nI (B (s + i)) - 96).toInt64 = lN (32 * capV B s i + (B (s + i) - 96)) := by
            rw [e1, show (32 : Int64) = lN 32 from rfl, lN_mul, lN_add]
          rw [e2]
          have ec : lg_cmp (lN (capV B s i)) 36028797018963967 ≤ 0 ↔ capV B s i ≤ 36028797018963967 := by
            rw [lg_cmp_le, show (36028797018963967 : Int64) = lN 36028797018963967 from rfl, pk_lLE (by omega) (by decide)]
          have es : capV B s (i + 1) = (if 36028797018963967 < capV B s i then capV B s i else 32 * capV B s i + (B (s + i) - 96)) := rfl
          have nx := ih (by omega) (by omega)
          rw [es, show s + (i + 1) = s + i + 1 by omega] at nx
          by_cases hc : capV B s i ≤ 36028797018963967
          · rw [if_pos (ec.mpr hc)]
            rw [if_neg (by omega)] at nx
            exact nx
          · rw [if_neg (fun q => hc (ec.mp q))]
            rw [if_pos (by omega)] at nx
            exact nx
    exact key (e - s) FU 0 (by omega) (show e - s < 1000 by omega)
  · rw [if_neg hk]
    have key : ∀ d fu i (v : Int64), s + i + d = e → d < fu → it2 (f_X6_word_B7 μ) fu v (nI (s + i)) = some 0 := by
      intro d
      induction d with
      | zero =>
        intro fu i v hd hf
        match fu, hf with
        | fu + 1, hf =>
          show f_X6_word_B7 μ (it2 (f_X6_word_B7 μ) fu) v (nI (s + i)) = _
          unfold f_X6_word_B7
          rw [t5, if_pos (nle (by omega) (by omega)), if_pos hw, t4, byteAt_eq hT t6, Option.bind_some, if_pos ((letterAt hT.b s).mpr hk)]
      | succ d ih =>
        intro fu i v hd hf
        match fu, hf with
        | fu + 1, hf =>
          show f_X6_word_B7 μ (it2 (f_X6_word_B7 μ) fu) v (nI (s + i)) = _
          replace ih := ih fu (i + 1)
          revert ih
          generalize it2 (f_X6_word_B7 μ) fu = R
          intro ih
          unfold f_X6_word_B7 f_X6_word_J43
          have nx := fun v => ih v (by omega) (by omega)
          rw [show s + (i + 1) = s + i + 1 by omega] at nx
          rw [t5, if_neg (nnle (show s + i < e by omega) (by omega)), chk_nI (show s + i < 120 by omega) (by decide), nI_1, nx, nx, ite_self]
    exact key (e - s) FU 0 0 (by omega) (show e - s < 1000 by omega)
/-- a text gone wrong has no word -/
theorem word_bad {μ : Mem} {p e : Nat} (h14 : μ 0 14 = nI p) (h15 : μ 0 15 = nI e) (hw : ¬ μ 0 17 = 0) (hp : p ≤ 120) (he : e ≤ 120) : f_X6_word μ = some 0 := by
  unfold f_X6_word
  rw [h14]
  have key : ∀ d fu i (v : Int64), e - i = d → i ≤ 120 → d < fu → it2 (f_X6_word_B7 μ) fu v (nI i) = some 0 := by
    intro d
    induction d with
    | zero =>
      intro fu i v hd hi hf
      match fu, hf with
      | fu + 1, hf =>
        show f_X6_word_B7 μ (it2 (f_X6_word_B7 μ) fu) v (nI i) = _
        unfold f_X6_word_B7
        rw [h15, if_pos (nle (by omega) (by omega)), if_neg hw]
    | succ d ih =>
      intro fu i v hd hi hf
      match fu, hf with
      | fu + 1, hf =>
        show f_X6_word_B7 μ (it2 (f_X6_word_B7 μ) fu) v (nI i) = _
        replace ih := ih fu (i + 1)
        revert ih
        generalize it2 (f_X6_word_B7 μ) fu = R
        intro ih
        unfold f_X6_word_B7 f_X6_word_J43
        have nx := fun v => ih v (by omega) (by omega) (by omega)
        rw [h15, if_neg (nnle (show i < e by omega) (by omega)), chk_nI (show i < 120 by omega) (by decide), nI_1, nx, nx, ite_self]
  exact key (e - p) FU p 0 rfl hp (show e - p < 1000 by omega)
/-- the class's word -/
theorem isWord_eq {σ μ : Mem} {L s e z : Nat} {B : Nat → Nat} (hT : TPR σ μ L B) (hS : TS L B σ μ s e) (hz : z < 13) : f_X0_isWord z σ = some (if kdT L B s = 1 ∧ capV B s (e - s) = cWn z then 1 else 0) := by
  obtain ⟨t1, t2, t3, t4, t5, t6, t7, t8, t9, t10, t11⟩ := hS
  have hL := hT.2.2.1
  have hkb := kdT_b L B s
  obtain ⟨-, -, hl9⟩ := cWn_val z hz
  unfold f_X0_isWord
  have ek : σ 71 3 = 1 ↔ kdT L B s = 1 := by
    rw [t3, show (1 : Int32) = nI 1 from rfl, nI_eq (by omega) (by decide)]
  by_cases hk : kdT L B s = 1
  · have hsL : s < L := by
      by_cases h : s < L
      · exact h
      · unfold kdT at hk
        rw [if_neg h] at hk
        exact absurd hk (by decide)
    have hse := t8 hsL
    have hB : ∀ i, i < e - s → 97 ≤ B (s + i) ∧ B (s + i) ≤ 122 := fun i hi => letter_rng (t10 hk (s + i) (by omega) (by omega))
    have ci := cap_iff hz hB
    rw [if_pos (ek.mpr hk)]
    have el : σ 71 5 - σ 71 4 = sLen z ↔ e - s = lenStr.getD z 0 := by
      rw [t2, t1, pk_sub (by omega)]
      unfold sLen
      rw [nI_eq (by omega) (by omega)]
    by_cases hlen : e - s = lenStr.getD z 0
    · rw [if_pos (el.mpr hlen)]
      have key : ∀ d fu i, i + d = e - s → d < fu → (∀ j, j < i → B (s + j) = tn (sCh z (nI j))) → it1 (f_X0_isWord_B28 z σ) fu (nI i) = some (if kdT L B s = 1 ∧ capV B s (e - s) = cWn z then 1 else 0) := by
        intro d
        induction d with
        | zero =>
          intro fu i hd hf hall
          match fu, hf with
          | fu + 1, hf =>
            show f_X0_isWord_B28 z σ (it1 (f_X0_isWord_B28 z σ) fu) (nI i) = _
            unfold f_X0_isWord_B28 sLen
            rw [if_pos (nle (by omega) (by omega)), if_pos ⟨hk, ci.mpr ⟨hlen, fun j hj => hall j (by omega)⟩⟩]
        | succ d ih =>
          intro fu i hd hf hall
          match fu, hf with
          | fu + 1, hf =>
            show f_X0_isWord_B28 z σ (it1 (f_X0_isWord_B28 z σ) fu) (nI i) = _
            replace ih := ih fu (i + 1)
            revert ih
            generalize it1 (f_X0_isWord_B28 z σ) fu = R
            intro ih
            unfold f_X0_isWord_B28 sLen
            have ht := hT.2.2.2 (s + i) (by omega)
            have hb := hB i (by omega)
            have hc := sCh_b z hz i (by omega)
            rw [if_neg (nnle (show i < lenStr.getD z 0 by omega) (by omega)), t1, nI_add, chk_nI (show s + i < 120 by omega) (by decide), chk_nI (show i < lenStr.getD z 0 by omega) (by omega), nI_clamp (show s + i < 2 ^ 31 by omega), ht.1, nI_1]
            have ee : nI (B (s + i)) = sCh z (nI i) ↔ B (s + i) = tn (sCh z (nI i)) := by
              conv => lhs; rw [hc.1]
              exact nI_eq (by omega) (by omega)
            by_cases h : B (s + i) = tn (sCh z (nI i))
            · rw [if_pos (ee.mpr h)]
              refine ih (by omega) (by omega) (fun j hj => ?_)
              by_cases e2 : j = i
              · rw [e2]; exact h
              · exact hall j (by omega)
            · rw [if_neg (fun q => h (ee.mp q)), if_neg (fun q => h ((ci.mp q.2).2 i (by omega)))]
      exact key (e - s) FU 0 (by omega) (show e - s < 1000 by omega) (fun j hj => by omega)
    · rw [if_neg (fun q => hlen (el.mp q)), if_neg (fun q => hlen (ci.mp q.2).1)]
  · rw [if_neg (fun q => hk (ek.mp q)), if_neg (fun q => hk q.1)]
-- numbers
def nuC (B : Nat → Nat) (s : Nat) : Nat → Nat
  | 0 => 0
  | n + 1 => min (10 * nuC B s n + (B (s + n) - 48)) 10000
def nuM (B : Nat → Nat) (s : Nat) : Nat → Nat
  | 0 => 0
  | n + 1 => if nuM B s n ≤ 9999 then 10 * nuM B s n + (B (s + n) - 48) else nuM B s n
theorem nCM {B : Nat → Nat} {s : Nat} : ∀ n, (∀ i, i < n → 48 ≤ B (s + i) ∧ B (s + i) ≤ 57) → ((nuC B s n = nuM B s n ∧ nuM B s n ≤ 9999) ∨ (nuC B s n = 10000 ∧ 9999 < nuM B s n)) ∧ nuM B s n ≤ 99999
  | 0, _ => ⟨Or.inl ⟨rfl, Nat.zero_le 9999⟩, Nat.zero_le 99999⟩
  | n + 1, h => by
    obtain ⟨h1, h2⟩ := nCM n (fun i hi => h i (by omega))
    have hb := h n (by omega)
    have e1 : nuC B s (n + 1) = min (10 * nuC B s n + (B (s + n) - 48)) 10000 := rfl
    have e2 : nuM B s (n + 1) = if nuM B s n ≤ 9999 then 10 * nuM B s n + (B (s + n) - 48) else nuM B s n := rfl
    rw [e1, e2]
    rcases h1 with ⟨a, b⟩ | ⟨a, b⟩
    · rw [if_pos b, a]
      by_cases hh : 10 * nuM B s n + (B (s + n) - 48) ≤ 9999
      · rw [Nat.min_eq_left (by omega)]
        exact ⟨Or.inl ⟨rfl, hh⟩, by omega⟩
      · rw [Nat.min_eq_right (by omega)]
        exact ⟨Or.inr ⟨rfl, by omega⟩, by omega⟩
    · rw [if_neg (by omega), a, Nat.min_eq_right (by omega)]
      exact ⟨Or.inr ⟨rfl, b⟩, h2⟩
theorem nC_le (B : Nat → Nat) (s : Nat) : ∀ n, nuC B s n ≤ 10000
  | 0 => Nat.zero_le 10000
  | n + 1 => Nat.min_le_right _ _
theorem numberHere_eq {σ μ : Mem} {L s e : Nat} {B : Nat → Nat} (hT : TPR σ μ L B) (hS : TS L B σ μ s e) (hk : kdT L B s = 2) : f_X0_numberHere σ = some (nI (nuC B s (e - s))) := by
  obtain ⟨t1, t2, t3, t4, t5, t6, t7, t8, t9, t10, t11⟩ := hS
  have hL := hT.2.2.1
  have hsL : s < L := by
    by_cases h : s < L
    · exact h
    · unfold kdT at hk
      rw [if_neg h] at hk
      exact absurd hk (by decide)
  have hse := t8 hsL
  have hB : ∀ i, i < e - s → 48 ≤ B (s + i) ∧ B (s + i) ≤ 57 := fun i hi => digit_rng (t11 hk (s + i) (by omega) (by omega))
  unfold f_X0_numberHere
  rw [t1]
  have key : ∀ d fu i, s + i + d = e → d < fu → it2 (f_X0_numberHere_B7 σ) fu (nI (nuC B s i)) (nI (s + i)) = some (nI (nuC B s (e - s))) := by
    intro d
    induction d with
    | zero =>
      intro fu i hd hf
      match fu, hf with
      | fu + 1, hf =>
        show f_X0_numberHere_B7 σ (it2 (f_X0_numberHere_B7 σ) fu) (nI (nuC B s i)) (nI (s + i)) = _
        unfold f_X0_numberHere_B7
        rw [t2, if_pos (nle (by omega) (by omega)), show e - s = i by omega]
    | succ d ih =>
      intro fu i hd hf
      match fu, hf with
      | fu + 1, hf =>
        show f_X0_numberHere_B7 σ (it2 (f_X0_numberHere_B7 σ) fu) (nI (nuC B s i)) (nI (s + i)) = _
        replace ih := ih fu (i + 1)
        revert ih
        generalize it2 (f_X0_numberHere_B7 σ) fu = R
        intro ih
        unfold f_X0_numberHere_B7
        have ht := hT.2.2.2 (s + i) (by omega)
        have hb := hB i (by omega)
        have hc := nC_le B s i
        have ea : 10 * nI (nuC B s i) + nI (B (s + i)) - 48 = nI (10 * nuC B s i + (B (s + i) - 48)) := by
          rw [show (10 : Int32) = nI 10 from rfl, pk_mul, nI_add, show (48 : Int32) = nI 48 from rfl, pk_sub (by omega), show 10 * nuC B s i + B (s + i) - 48 = 10 * nuC B s i + (B (s + i) - 48) by omega]
        rw [t2, if_neg (nnle (show s + i < e by omega) (by omega)), chk_nI (show s + i < 120 by omega) (by decide), nI_clamp (show s + i < 2 ^ 31 by omega), ht.1, ea, nI_1, show (10000 : Int32) = nI 10000 from rfl, jmin_nI (by decide) (by omega), Nat.min_comm]
        exact ih (by omega) (by omega)
  exact key (e - s) FU 0 (by omega) (show e - s < 1000 by omega)
theorem mnumber_eq {σ μ : Mem} {L s e : Nat} {B : Nat → Nat} (hT : TPR σ μ L B) (hS : TS L B σ μ s e) (hw : μ 0 17 = 0) (x1 x2 : Int32) : ∃ v, f_X6_number x1 x2 μ = f_X6_number_J79 x1 x2 μ (if s < L then nI (B s) else -1) v ∧ (kdT L B s = 2 → v = nI (nuM B s (e - s))) := by
  obtain ⟨t1, t2, t3, t4, t5, t6, t7, t8, t9, t10, t11⟩ := hS
  have hL := hT.2.2.1
  unfold f_X6_number
  rw [if_pos hw, t4, byteAt_eq hT t6, Option.bind_some]
  by_cases hk : kdT L B s = 2
  · have hsL : s < L := by
      by_cases h : s < L
      · exact h
      · unfold kdT at hk
        rw [if_neg h] at hk
        exact absurd hk (by decide)
    have hse := t8 hsL
    have hB : ∀ i, i < e - s → 48 ≤ B (s + i) ∧ B (s + i) ≤ 57 := fun i hi => digit_rng (t11 hk (s + i) (by omega) (by omega))
    have hnd : ¬ f_X6_isDigit (if s < L then nI (B s) else -1) = 0 := fun q => ((digitAt hT.b s).mp q) hk
    have key : ∀ d fu i, s + i + d = e → d < fu → it2 (f_X6_number_B29 x1 x2 μ (if s < L then nI (B s) else -1)) fu (nI (nuM B s i)) (nI (s + i)) = f_X6_number_J79 x1 x2 μ (if s < L then nI (B s) else -1) (nI (nuM B s (e - s))) := by
      intro d
      induction d with
      | zero =>
        intro fu i hd hf
        match fu, hf with
        | fu + 1, hf =>
          show f_X6_number_B29 x1 x2 μ _ (it2 (f_X6_number_B29 x1 x2 μ _) fu) (nI (nuM B s i)) (nI (s + i)) = _
          unfold f_X6_number_B29
          rw [t5, if_pos (nle (by omega) (by omega)), show e - s = i by omega]
      | succ d ih =>
        intro fu i hd hf
        match fu, hf with
        | fu + 1, hf =>
          show f_X6_number_B29 x1 x2 μ (if s < L then nI (B s) else -1) (it2 (f_X6_number_B29 x1 x2 μ (if s < L then nI (B s) else -1)) fu) (nI (nuM B s i)) (nI (s + i)) = _
          replace ih := ih fu (i + 1)
          revert ih
          generalize it2 (f_X6_number_B29 x1 x2 μ (if s < L then nI (B s) else -1)) fu = R
          intro ih
          unfold f_X6_number_B29 f_X6_number_J71
          have ht := hT.2.2.2 (s + i) (by omega)
          have hb := hB i (by omega)
          have hc := (nCM (B := B) (s := s) i (fun j hj => hB j (by omega))).2
          have ea : 10 * nI (nuM B s i) + nI (B (s + i)) - 48 = nI (10 * nuM B s i + (B (s + i) - 48)) := by
            rw [show (10 : Int32) = nI 10 from rfl, pk_mul, nI_add, show (48 : Int32) = nI 48 from rfl, pk_sub (by omega), show 10 * nuM B s i + B (s + i) - 48 = 10 * nuM B s i + (B (s + i) - 48) by omega]
          have nx := ih (by omega) (by omega)
          have es : nuM B s (i + 1) = if nuM B s i ≤ 9999 then 10 * nuM B s i + (B (s + i) - 48) else nuM B s i := rfl
          rw [es, show s + (i + 1) = s + i + 1 by omega] at nx
          rw [t5, if_neg (nnle (show s + i < e by omega) (by omega)), if_neg hnd, chk_nI (show s + i < 120 by omega) (by decide), nI_clamp (show s + i < 2 ^ 31 by omega), ht.2.1, ea, nI_1]
          by_cases h9 : nuM B s i ≤ 9999
          · rw [if_pos (show nI (nuM B s i) ≤ 9999 from nI_le (b := 9999) h9 (by decide))]
            rw [if_pos h9] at nx
            exact nx
          · rw [if_neg (show ¬ nI (nuM B s i) ≤ 9999 from nI_ge (a := 9999) (by omega) (by omega))]
            rw [if_neg h9] at nx
            exact nx
    exact ⟨_, key (e - s) FU 0 (by omega) (show e - s < 1000 by omega), fun _ => rfl⟩
  · refine ⟨0, ?_, fun q => absurd q hk⟩
    rw [show FU = 999 + 1 from rfl]
    show f_X6_number_B29 x1 x2 μ (if s < L then nI (B s) else -1) (it2 (f_X6_number_B29 x1 x2 μ (if s < L then nI (B s) else -1)) 999) 0 (nI s) = _
    unfold f_X6_number_B29
    rw [if_pos ((digitAt hT.b s).mpr hk), ite_self]

/-! ===== pure: one place of a row is set ===== -/
def sU (s : St) (j : Nat) (v : Int32) : St := fun i => if i = j then v else s i
theorem sU_at (s : St) (j : Nat) (v : Int32) : sU s j v j = v := if_pos rfl
theorem sU_ne {s : St} {j i : Nat} {v : Int32} (h : i ≠ j) : sU s j v i = s i := if_neg h
/-- a place of the row that counts -/
def PL (s : St) (j : Nat) : Prop := j ≠ 1 ∧ (j < 24 ∨ (j < 24 + 5 * tn (s 1) ∧ j < 64) ∨ (64 ≤ j ∧ j < 74))
theorem NV_sU {r : St} {j : Nat} {v : Int32} (h : PL r j) : NV (sU r j v) = sU (NV r) j v := by
  obtain ⟨h1, h2⟩ := h
  have e1 : sU r j v 1 = r 1 := sU_ne (by omega)
  funext i
  by_cases hi : i = j
  · subst hi
    rw [sU_at]
    unfold NV
    rw [e1]
    by_cases c1 : i < 24
    · rw [if_pos c1, sU_at]
    · rw [if_neg c1]
      by_cases c2 : i < 64
      · rw [if_pos c2, if_neg (by omega), sU_at]
      · rw [if_neg c2, if_pos (by omega), sU_at]
  · rw [sU_ne hi]
    unfold NV
    rw [e1, sU_ne hi]
theorem NRM_sU {s : St} {j : Nat} {v : Int32} (h : NRM s) (hp : PL s j) : NRM (sU s j v) := by
  unfold NRM at h ⊢
  rw [NV_sU hp, h]
theorem PL_NV {r : St} {j : Nat} : PL (NV r) j ↔ PL r j := Iff.rfl
theorem mst_row (μ : Mem) (j : Nat) (v : Int32) : mst μ 1 j v 1 = sU (μ 1) j v := by
  funext i
  rw [mst_ap]
  unfold sU
  by_cases h : i = j
  · rw [if_pos ⟨rfl, h⟩, if_pos h]
  · rw [if_neg (by omega), if_neg h]
theorem aM_mst {μ : Mem} {j : Nat} {v : Int32} (h : PL (aM μ) j) : aM (mst μ 1 j v) = sU (aM μ) j v := by
  unfold aM
  rw [mst_row, NV_sU (PL_NV.mp h)]
theorem aM_frame {μ μ' : Mem} (h : μ' 1 = μ 1) : aM μ' = aM μ := by
  unfold aM
  rw [h]
def va (b i : Nat) : Nat := if i = 0 then b + 1 else if i = 1 then b else if i = 2 then b + 1 else if i = 3 then b else if i < 12 then b + 4 else if i < 24 then b + 2 else if i < 64 then b + 7 + (i - 24) / 5 else b + 6
def vk (i : Nat) : Nat := if i = 0 then 4 else if i = 1 then 3 else if i = 2 then 3 else if i = 3 then 4 else if i < 12 then i - 4 else if i < 24 then i - 12 else if i < 64 then (i - 24) % 5 else i - 64
theorem vv_va (b : Nat) (σ : Mem) (i : Nat) : vv b σ i = σ (va b i) (vk i) := by
  unfold vv va vk
  by_cases h0 : i = 0
  · rw [if_pos h0, if_pos h0, if_pos h0]
  · rw [if_neg h0, if_neg h0, if_neg h0]
    by_cases h1 : i = 1
    · rw [if_pos h1, if_pos h1, if_pos h1]
    · rw [if_neg h1, if_neg h1, if_neg h1]
      by_cases h2 : i = 2
      · rw [if_pos h2, if_pos h2, if_pos h2]
      · rw [if_neg h2, if_neg h2, if_neg h2]
        by_cases h3 : i = 3
        · rw [if_pos h3, if_pos h3, if_pos h3]
        · rw [if_neg h3, if_neg h3, if_neg h3]
          by_cases h4 : i < 12
          · rw [if_pos h4, if_pos h4, if_pos h4]
          · rw [if_neg h4, if_neg h4, if_neg h4]
            by_cases h5 : i < 24
            · rw [if_pos h5, if_pos h5, if_pos h5]
            · rw [if_neg h5, if_neg h5, if_neg h5]
              by_cases h6 : i < 64
              · rw [if_pos h6, if_pos h6, if_pos h6]
              · rw [if_neg h6, if_neg h6, if_neg h6]
theorem va_inj {b i j : Nat} (h : va b i = va b j) (h2 : vk i = vk j) : i = j := by
  unfold va at h
  unfold vk at h2
  by_cases i0 : i < 4 <;> by_cases j0 : j < 4
  · rcases (show i = 0 ∨ i = 1 ∨ i = 2 ∨ i = 3 by omega) with rfl | rfl | rfl | rfl <;> rcases (show j = 0 ∨ j = 1 ∨ j = 2 ∨ j = 3 by omega) with rfl | rfl | rfl | rfl <;> simp at h h2 ⊢
  · exfalso
    rw [if_neg (show ¬ j = 0 by omega), if_neg (show ¬ j = 1 by omega), if_neg (show ¬ j = 2 by omega), if_neg (show ¬ j = 3 by omega)] at h
    split at h <;> (try split at h) <;> (try split at h) <;> (try split at h) <;> (try split at h) <;> (try split at h) <;> (try split at h) <;> omega
  · exfalso
    rw [if_neg (show ¬ i = 0 by omega), if_neg (show ¬ i = 1 by omega), if_neg (show ¬ i = 2 by omega), if_neg (show ¬ i = 3 by omega)] at h
    split at h <;> (try split at h) <;> (try split at h) <;> (try split at h) <;> (try split at h) <;> (try split at h) <;> (try split at h) <;> omega
  · rw [if_neg (show ¬ i = 0 by omega), if_neg (show ¬ i = 1 by omega), if_neg (show ¬ i = 2 by omega), if_neg (show ¬ i = 3 by omega), if_neg (show ¬ j = 0 by omega), if_neg (show ¬ j = 1 by omega), if_neg (show ¬ j = 2 by omega), if_neg (show ¬ j = 3 by omega)] at h h2
    by_cases i1 : i < 12
    · rw [if_pos i1] at h h2
      by_cases j1 : j < 12
      · rw [if_pos j1] at h2; omega
      · rw [if_neg j1] at h h2
        split at h <;> (try split at h) <;> omega
    · rw [if_neg i1] at h h2
      by_cases j1 : j < 12
      · rw [if_pos j1] at h h2
        split at h <;> (try split at h) <;> omega
      · rw [if_neg j1] at h h2
        by_cases i2 : i < 24
        · rw [if_pos i2] at h h2
          by_cases j2 : j < 24
          · rw [if_pos j2] at h2; omega
          · rw [if_neg j2] at h h2
            split at h <;> omega
        · rw [if_neg i2] at h h2
          by_cases j2 : j < 24
          · rw [if_pos j2] at h h2
            split at h <;> omega
          · rw [if_neg j2] at h h2
            by_cases i3 : i < 64 <;> by_cases j3 : j < 64
            · rw [if_pos i3, if_pos j3] at h h2; omega
            · rw [if_pos i3, if_neg j3] at h h2; omega
            · rw [if_neg i3, if_pos j3] at h h2; omega
            · rw [if_neg i3, if_neg j3] at h h2; omega
theorem vv_set (b : Nat) (σ : Mem) (j : Nat) (v : Int32) : vv b (mst σ (va b j) (vk j) v) = sU (vv b σ) j v := by
  funext i
  rw [vv_va, mst_ap]
  unfold sU
  by_cases h : i = j
  · subst h
    rw [if_pos ⟨rfl, rfl⟩, if_pos rfl]
  · rw [if_neg (fun q => h (va_inj q.1 q.2)), if_neg h, vv_va]
theorem aC_set {b : Nat} {σ : Mem} {j : Nat} {v : Int32} (h : PL (aC b σ) j) : aC b (mst σ (va b j) (vk j) v) = sU (aC b σ) j v := by
  unfold aC
  rw [vv_set, NV_sU (PL_NV.mp h)]
theorem va_p {b h : Nat} (hh : h < 8) : va b (4 + h) = b + 4 ∧ vk (4 + h) = h := by
  unfold va vk
  rw [if_neg (by omega), if_neg (by omega), if_neg (by omega), if_neg (by omega), if_pos (by omega), if_neg (by omega), if_neg (by omega), if_neg (by omega), if_neg (by omega), if_pos (by omega)]
  omega
theorem va_l {b c : Nat} (hc : c < 12) : va b (12 + c) = b + 2 ∧ vk (12 + c) = c := by
  unfold va vk
  rw [if_neg (by omega), if_neg (by omega), if_neg (by omega), if_neg (by omega), if_neg (by omega), if_pos (by omega), if_neg (by omega), if_neg (by omega), if_neg (by omega), if_neg (by omega), if_neg (by omega), if_pos (by omega)]
  omega
theorem va_w {b w f : Nat} (hw : w < 8) (hf : f < 5) : va b (24 + 5 * w + f) = b + 7 + w ∧ vk (24 + 5 * w + f) = f := by
  unfold va vk
  rw [if_neg (by omega), if_neg (by omega), if_neg (by omega), if_neg (by omega), if_neg (by omega), if_neg (by omega), if_pos (by omega), if_neg (by omega), if_neg (by omega), if_neg (by omega), if_neg (by omega), if_neg (by omega), if_neg (by omega), if_pos (by omega)]
  omega
theorem va_k {b k : Nat} : va b (64 + k) = b + 6 ∧ vk (64 + k) = k := by
  unfold va vk
  rw [if_neg (by omega), if_neg (by omega), if_neg (by omega), if_neg (by omega), if_neg (by omega), if_neg (by omega), if_neg (by omega), if_neg (by omega), if_neg (by omega), if_neg (by omega), if_neg (by omega), if_neg (by omega), if_neg (by omega), if_neg (by omega)]
  omega
theorem PL_lo {s : St} {j : Nat} (h1 : j ≠ 1) (h : j < 24) : PL s j := ⟨h1, Or.inl h⟩
theorem PL_w {s : St} {w f : Nat} (hw : w < tn (s 1)) (hm : tn (s 1) ≤ 8) (hf : f < 5) : PL s (24 + 5 * w + f) := ⟨by omega, Or.inr (Or.inl (by omega))⟩
theorem PL_k {s : St} {k : Nat} (hk : k < 10) : PL s (64 + k) := ⟨by omega, Or.inr (Or.inr (by omega))⟩
theorem aC_sp {b : Nat} {σ : Mem} {h : Nat} {v : Int32} (hh : h < 8) : aC b (mst σ (b + 4) h v) = sU (aC b σ) (4 + h) v := by
  have := aC_set (b := b) (σ := σ) (j := 4 + h) (v := v) (PL_lo (by omega) (by omega))
  rw [(va_p hh).1, (va_p (b := b) hh).2] at this
  exact this
theorem aC_sl {b : Nat} {σ : Mem} {c : Nat} {v : Int32} (hc : c < 12) : aC b (mst σ (b + 2) c v) = sU (aC b σ) (12 + c) v := by
  have := aC_set (b := b) (σ := σ) (j := 12 + c) (v := v) (PL_lo (by omega) (by omega))
  rw [(va_l hc).1, (va_l (b := b) hc).2] at this
  exact this
theorem aC_sw {b : Nat} {σ : Mem} {w f : Nat} {v : Int32} (hw : w < tn (σ b 3)) (hm : tn (σ b 3) ≤ 8) (hf : f < 5) : aC b (mst σ (b + 7 + w) f v) = sU (aC b σ) (24 + 5 * w + f) v := by
  have := aC_set (b := b) (σ := σ) (j := 24 + 5 * w + f) (v := v) (PL_w (by rw [aC_1]; exact hw) (by rw [aC_1]; exact hm) hf)
  rw [(va_w (by omega) hf).1, (va_w (b := b) (by omega) hf).2] at this
  exact this
theorem aC_sk {b : Nat} {σ : Mem} {k : Nat} {v : Int32} (hk : k < 10) : aC b (mst σ (b + 6) k v) = sU (aC b σ) (64 + k) v := by
  have := aC_set (b := b) (σ := σ) (j := 64 + k) (v := v) (PL_k hk)
  rw [va_k.1, (va_k (b := b)).2] at this
  exact this
theorem aC_sz {b : Nat} {σ : Mem} {v : Int32} : aC b (mst σ b 4 v) = sU (aC b σ) 3 v := aC_set (b := b) (σ := σ) (j := 3) (v := v) (PL_lo (by decide) (by decide))
-- bounds
theorem BD.set {H : Nat} {s : St} {j : Nat} {v : Int32} (h : BD H s) (hp : PL s j) (h0 : j ≠ 0) (b1 : 4 ≤ j → j < 12 → Bn v 99) (b2 : 12 ≤ j → j < 24 → Bn v 9999) (b3 : 24 ≤ j → j < 64 → (j - 24) % 5 = 1 → Bn v 11) (b4 : 24 ≤ j → j < 64 → (j - 24) % 5 = 3 → Bn v 99) (b5 : 24 ≤ j → j < 64 → (j - 24) % 5 = 4 → Bn v 9999) (b6 : 64 ≤ j → v = -1 ∨ ∃ i, i < tn (s 1) ∧ v = nI i) : BD H (sU s j v) := by
  obtain ⟨n0, n1, n2, n3, n4, n5, n6⟩ := h
  have e1 : sU s j v 1 = s 1 := sU_ne (fun q => hp.1 q.symm)
  have hm := n1.1
  refine ⟨NRM_sU n0 hp, by rw [e1]; exact n1, by rw [sU_ne (fun q => h0 q.symm)]; exact n2, ?_, ?_, ?_, ?_⟩
  · intro h hh
    by_cases e : 4 + h = j
    · rw [e, sU_at]; exact b1 (by omega) (by omega)
    · rw [sU_ne e]; exact n3 h hh
  · intro c hc
    by_cases e : 12 + c = j
    · rw [e, sU_at]; exact b2 (by omega) (by omega)
    · rw [sU_ne e]; exact n4 c hc
  · intro w hw
    rw [e1] at hw
    obtain ⟨a1, a2, a3⟩ := n5 w hw
    refine ⟨?_, ?_, ?_⟩
    · by_cases e : 25 + 5 * w = j
      · rw [e, sU_at]; exact b3 (by omega) (by omega) (by omega)
      · rw [sU_ne e]; exact a1
    · by_cases e : 27 + 5 * w = j
      · rw [e, sU_at]; exact b4 (by omega) (by omega) (by omega)
      · rw [sU_ne e]; exact a2
    · by_cases e : 28 + 5 * w = j
      · rw [e, sU_at]; exact b5 (by omega) (by omega) (by omega)
      · rw [sU_ne e]; exact a3
  · intro k hk
    rw [e1]
    by_cases e : 64 + k = j
    · rw [e, sU_at]; exact b6 (by omega)
    · rw [sU_ne e]; exact n6 k hk
theorem BD.p {H : Nat} {s : St} {h : Nat} {v : Int32} (hB : BD H s) (hh : h < 8) (hv : Bn v 99) : BD H (sU s (4 + h) v) :=
  hB.set (PL_lo (by omega) (by omega)) (by omega) (fun _ _ => hv) (fun _ _ => by omega) (fun _ _ => by omega) (fun _ _ => by omega) (fun _ _ => by omega) (fun _ => by omega)
theorem BD.l {H : Nat} {s : St} {c : Nat} {v : Int32} (hB : BD H s) (hc : c < 12) (hv : Bn v 9999) : BD H (sU s (12 + c) v) :=
  hB.set (PL_lo (by omega) (by omega)) (by omega) (fun _ _ => by omega) (fun _ _ => hv) (fun _ _ => by omega) (fun _ _ => by omega) (fun _ _ => by omega) (fun _ => by omega)
theorem BD.z {H : Nat} {s : St} {v : Int32} (hB : BD H s) : BD H (sU s 3 v) :=
  hB.set (PL_lo (by omega) (by omega)) (by omega) (fun _ _ => by omega) (fun _ _ => by omega) (fun _ _ => by omega) (fun _ _ => by omega) (fun _ _ => by omega) (fun _ => by omega)
theorem BD.k {H : Nat} {s : St} {k : Nat} {v : Int32} (hB : BD H s) (hk : k < 10) (hv : v = -1 ∨ ∃ i, i < tn (s 1) ∧ v = nI i) : BD H (sU s (64 + k) v) :=
  hB.set (PL_k hk) (by omega) (fun _ _ => by omega) (fun _ _ => by omega) (fun _ _ => by omega) (fun _ _ => by omega) (fun _ _ => by omega) (fun _ => hv)
theorem BD.w {H : Nat} {s : St} {w f : Nat} {v : Int32} (hB : BD H s) (hw : w < tn (s 1)) (hf : f < 5) (h1 : f = 1 → Bn v 11) (h3 : f = 3 → Bn v 99) (h4 : f = 4 → Bn v 9999) : BD H (sU s (24 + 5 * w + f) v) := by
  have hm := hB.2.1.1
  exact hB.set (PL_w hw hm hf) (by omega) (fun _ _ => by omega) (fun _ _ => by omega) (fun _ _ q => h1 (by omega)) (fun _ _ q => h3 (by omega)) (fun _ _ q => h4 (by omega)) (fun _ => by omega)
-- all the plan
def opA (x : Int32) (s : St) : St := fun i => if 4 ≤ i ∧ i < 12 then x else s i
theorem NV_opA (x : Int32) (r : St) : NV (opA x r) = opA x (NV r) := by
  funext i
  have e1 : opA x r 1 = r 1 := rfl
  unfold NV
  rw [e1]
  by_cases h : 4 ≤ i ∧ i < 12
  · unfold opA
    rw [if_pos (by omega), if_pos h, if_pos h]
  · have e : opA x r i = r i := if_neg h
    rw [e]
    unfold opA
    rw [if_neg h]
theorem aC_open (b : Nat) (x : Int32) (σ : Mem) : aC b (wopen (b + 1) x σ) = opA x (aC b σ) := by
  unfold aC
  rw [← NV_opA]
  congr 1
  funext i
  rw [vv_va]
  unfold wopen opA
  by_cases h : 4 ≤ i ∧ i < 12
  · obtain ⟨h', hh, rfl⟩ : ∃ h', h' < 8 ∧ i = 4 + h' := ⟨i - 4, by omega, by omega⟩
    rw [(va_p hh).1, (va_p (b := b) hh).2, if_pos (by omega), if_pos h]
  · rw [if_neg h, vv_va, if_neg]
    intro q
    have : va b i = va b (4 + vk i) := by rw [(va_p q.2).1]; omega
    have := va_inj this (va_p (b := b) q.2).2.symm
    omega
theorem BD.op {H : Nat} {s : St} {x : Int32} (h : BD H s) (hx : Bn x 99) : BD H (opA x s) := by
  obtain ⟨n0, n1, n2, n3, n4, n5, n6⟩ := h
  have o : ∀ i, ¬ (4 ≤ i ∧ i < 12) → opA x s i = s i := fun i hi => if_neg hi
  refine ⟨?_, n1, n2, ?_, ?_, ?_, ?_⟩
  · unfold NRM at n0 ⊢
    rw [NV_opA, n0]
  · intro h hh
    unfold opA
    rw [if_pos (by omega)]; exact hx
  · intro c hc
    rw [o _ (by omega)]; exact n4 c hc
  · intro w hw
    rw [o _ (by omega), o _ (by omega), o _ (by omega)]
    exact n5 w hw
  · intro k hk
    rw [o _ (by omega)]
    exact n6 k hk
theorem mopensAll_eq (x : Int32) (μ : Mem) : f_X6_opensAll x μ = some (fun c => if c = 1 then opA x (μ 1) else μ c) := by
  unfold f_X6_opensAll
  refine it2_for 8 (fun i => fun c k => if c = 1 ∧ 4 ≤ k ∧ k < 4 + i then x else μ c k) (by funext c k; rw [if_neg (by omega)]) (by decide) (fun rec i hi => ?_) (fun rec => ?_)
  · unfold f_X6_opensAll_B2
    rw [if_neg (show ¬ (8 : Int32) ≤ nI i from nnle hi (by decide)), n4, chk_nI (show 4 + i < 74 by omega) (by decide), nI_1, nI_clamp (show 4 + i < 2 ^ 31 by omega)]
    congr 1
    funext c k
    rw [mst_ap]
    by_cases h1 : c = 1 ∧ k = 4 + i
    · rw [if_pos h1, if_pos (by omega)]
    · rw [if_neg h1]
      by_cases h2 : c = 1 ∧ 4 ≤ k ∧ k < 4 + i
      · rw [if_pos h2, if_pos (by omega)]
      · rw [if_neg h2, if_neg (by omega)]
  · unfold f_X6_opensAll_B2
    rw [if_pos (show (8 : Int32) ≤ nI 8 from nle (Nat.le_refl 8) (by decide))]
    congr 1
    funext c
    by_cases h1 : c = 1
    · subst h1
      rw [if_pos rfl]
      funext k
      unfold opA
      by_cases h2 : 4 ≤ k ∧ k < 12
      · rw [if_pos (by omega), if_pos h2]
      · rw [if_neg (by omega), if_neg h2]
    · rw [if_neg h1]
      funext k
      rw [if_neg (by omega)]
theorem mopens_spec (x : Int32) (μ : Mem) : ∃ μ', f_X6_opensAll x μ = some μ' ∧ aM μ' = opA x (aM μ) ∧ ∀ c, c ≠ 1 → μ' c = μ c := by
  refine ⟨_, mopensAll_eq x μ, ?_, fun c hc => if_neg hc⟩
  unfold aM
  rw [← NV_opA]
  rfl
-- copies of the whole row
theorem laysAside_spec (μ : Mem) : ∃ μ', f_X6_laysAside μ = some μ' ∧ (∀ i, i < 74 → μ' 4 i = μ 1 i) ∧ ∀ c, c ≠ 4 → μ' c = μ c := by
  refine ⟨fun c k => if c = 4 ∧ k < 74 then μ 1 k else μ c k, ?_, fun i hi => if_pos ⟨rfl, hi⟩, fun c hc => by funext k; exact if_neg (by omega)⟩
  unfold f_X6_laysAside
  refine it2_for 74 (fun n => fun c k => if c = 4 ∧ k < n then μ 1 k else μ c k) (by funext c k; rw [if_neg (by omega)]) (by decide) (fun rec i hi => ?_) (fun rec => ?_)
  · unfold f_X6_laysAside_B2
    rw [if_neg (show ¬ (74 : Int32) ≤ nI i from nnle hi (by decide)), chk_nI hi (by decide), chk_nI hi (by decide), nI_1, nI_clamp (show i < 2 ^ 31 by omega)]
    congr 1
    funext c k
    rw [mst_ap]
    by_cases h1 : c = 4 ∧ k = i
    · rw [if_pos h1]
      dsimp only
      rw [if_neg (by omega), if_pos (by omega), h1.2]
    · rw [if_neg h1]
      by_cases h2 : c = 4 ∧ k < i
      · rw [if_pos h2, if_pos (by omega)]
      · rw [if_neg h2, if_neg (by omega)]
  · unfold f_X6_laysAside_B2
    rw [if_pos (show (74 : Int32) ≤ nI 74 from nle (Nat.le_refl 74) (by decide))]
theorem takesBack_spec (v : Int32) (μ : Mem) : ∃ μ', f_X6_takesBack v μ = some (v, μ') ∧ (∀ i, i < 74 → μ' 1 i = μ 4 i) ∧ ∀ c, c ≠ 1 → μ' c = μ c := by
  refine ⟨fun c k => if c = 1 ∧ k < 74 then μ 4 k else μ c k, ?_, fun i hi => if_pos ⟨rfl, hi⟩, fun c hc => by funext k; exact if_neg (by omega)⟩
  unfold f_X6_takesBack
  refine it2_for 74 (fun n => fun c k => if c = 1 ∧ k < n then μ 4 k else μ c k) (by funext c k; rw [if_neg (by omega)]) (by decide) (fun rec i hi => ?_) (fun rec => ?_)
  · unfold f_X6_takesBack_B2
    rw [if_neg (show ¬ (74 : Int32) ≤ nI i from nnle hi (by decide)), chk_nI hi (by decide), chk_nI hi (by decide), nI_1, nI_clamp (show i < 2 ^ 31 by omega)]
    congr 1
    funext c k
    rw [mst_ap]
    by_cases h1 : c = 1 ∧ k = i
    · rw [if_pos h1]
      dsimp only
      rw [if_neg (by omega), if_pos (by omega), h1.2]
    · rw [if_neg h1]
      by_cases h2 : c = 1 ∧ k < i
      · rw [if_pos h2, if_pos (by omega)]
      · rw [if_neg h2, if_neg (by omega)]
  · unfold f_X6_takesBack_B2
    rw [if_pos (show (74 : Int32) ≤ nI 74 from nle (Nat.le_refl 74) (by decide))]
theorem saves_spec (μ : Mem) : ∃ μ', f_X6_saves μ = some μ' ∧ (∀ i, i < 74 → μ' 3 i = μ 1 i) ∧ ∀ c, c ≠ 3 → μ' c = μ c := by
  refine ⟨fun c k => if c = 3 ∧ k < 74 then μ 1 k else μ c k, ?_, fun i hi => if_pos ⟨rfl, hi⟩, fun c hc => by funext k; exact if_neg (by omega)⟩
  unfold f_X6_saves
  refine it2_for 74 (fun n => fun c k => if c = 3 ∧ k < n then μ 1 k else μ c k) (by funext c k; rw [if_neg (by omega)]) (by decide) (fun rec i hi => ?_) (fun rec => ?_)
  · unfold f_X6_saves_B2
    rw [if_neg (show ¬ (74 : Int32) ≤ nI i from nnle hi (by decide)), chk_nI hi (by decide), chk_nI hi (by decide), nI_1, nI_clamp (show i < 2 ^ 31 by omega)]
    congr 1
    funext c k
    rw [mst_ap]
    by_cases h1 : c = 3 ∧ k = i
    · rw [if_pos h1]
      dsimp only
      rw [if_neg (by omega), if_pos (by omega), h1.2]
    · rw [if_neg h1]
      by_cases h2 : c = 3 ∧ k < i
      · rw [if_pos h2, if_pos (by omega)]
      · rw [if_neg h2, if_neg (by omega)]
  · unfold f_X6_saves_B2
    rw [if_pos (show (74 : Int32) ≤ nI 74 from nle (Nat.le_refl 74) (by decide))]
theorem putsBack_spec (μ : Mem) : ∃ μ', f_X6_putsBack μ = some μ' ∧ (∀ i, i < 74 → μ' 1 i = μ 3 i) ∧ ∀ c, c ≠ 1 → μ' c = μ c := by
  refine ⟨fun c k => if c = 1 ∧ k < 74 then μ 3 k else μ c k, ?_, fun i hi => if_pos ⟨rfl, hi⟩, fun c hc => by funext k; exact if_neg (by omega)⟩
  unfold f_X6_putsBack
  refine it2_for 74 (fun n => fun c k => if c = 1 ∧ k < n then μ 3 k else μ c k) (by funext c k; rw [if_neg (by omega)]) (by decide) (fun rec i hi => ?_) (fun rec => ?_)
  · unfold f_X6_putsBack_B2
    rw [if_neg (show ¬ (74 : Int32) ≤ nI i from nnle hi (by decide)), chk_nI hi (by decide), chk_nI hi (by decide), nI_1, nI_clamp (show i < 2 ^ 31 by omega)]
    congr 1
    funext c k
    rw [mst_ap]
    by_cases h1 : c = 1 ∧ k = i
    · rw [if_pos h1]
      dsimp only
      rw [if_neg (by omega), if_pos (by omega), h1.2]
    · rw [if_neg h1]
      by_cases h2 : c = 1 ∧ k < i
      · rw [if_pos h2, if_pos (by omega)]
      · rw [if_neg h2, if_neg (by omega)]
  · unfold f_X6_putsBack_B2
    rw [if_pos (show (74 : Int32) ≤ nI 74 from nle (Nat.le_refl 74) (by decide))]
theorem image_spec (μ : Mem) : ∃ μ', f_X6_image μ = some (1, mst μ' 0 5 1) ∧ (∀ i, i < 74 → μ' 2 i = μ 1 i) ∧ ∀ c, c ≠ 2 → μ' c = μ c := by
  refine ⟨fun c k => if c = 2 ∧ k < 74 then μ 1 k else μ c k, ?_, fun i hi => if_pos ⟨rfl, hi⟩, fun c hc => by funext k; exact if_neg (by omega)⟩
  unfold f_X6_image
  refine it2_for 74 (fun n => fun c k => if c = 2 ∧ k < n then μ 1 k else μ c k) (by funext c k; rw [if_neg (by omega)]) (by decide) (fun rec i hi => ?_) (fun rec => ?_)
  · unfold f_X6_image_B2
    rw [if_neg (show ¬ (74 : Int32) ≤ nI i from nnle hi (by decide)), chk_nI hi (by decide), chk_nI hi (by decide), nI_1, nI_clamp (show i < 2 ^ 31 by omega)]
    congr 1
    funext c k
    rw [mst_ap]
    by_cases h1 : c = 2 ∧ k = i
    · rw [if_pos h1]
      dsimp only
      rw [if_neg (by omega), if_pos (by omega), h1.2]
    · rw [if_neg h1]
      by_cases h2 : c = 2 ∧ k < i
      · rw [if_pos h2, if_pos (by omega)]
      · rw [if_neg h2, if_neg (by omega)]
  · unfold f_X6_image_B2
    rw [if_pos (show (74 : Int32) ≤ nI 74 from nle (Nat.le_refl 74) (by decide))]
theorem undoB_spec (μ : Mem) : ∃ μ', it2 f_X6_undo_B16 FU 0 μ = some (μ' 1 0, μ') ∧ (∀ i, i < 74 → μ' 1 i = μ 2 i) ∧ ∀ c, c ≠ 1 → μ' c = μ c := by
  refine ⟨fun c k => if c = 1 ∧ k < 74 then μ 2 k else μ c k, ?_, fun i hi => if_pos ⟨rfl, hi⟩, fun c hc => by funext k; exact if_neg (by omega)⟩
  refine it2_for 74 (fun n => fun c k => if c = 1 ∧ k < n then μ 2 k else μ c k) (by funext c k; rw [if_neg (by omega)]) (by decide) (fun rec i hi => ?_) (fun rec => ?_)
  · unfold f_X6_undo_B16
    rw [if_neg (show ¬ (74 : Int32) ≤ nI i from nnle hi (by decide)), chk_nI hi (by decide), chk_nI hi (by decide), nI_1, nI_clamp (show i < 2 ^ 31 by omega)]
    congr 1
    funext c k
    rw [mst_ap]
    by_cases h1 : c = 1 ∧ k = i
    · rw [if_pos h1]
      dsimp only
      rw [if_neg (by omega), if_pos (by omega), h1.2]
    · rw [if_neg h1]
      by_cases h2 : c = 1 ∧ k < i
      · rw [if_pos h2, if_pos (by omega)]
      · rw [if_neg h2, if_neg (by omega)]
  · unfold f_X6_undo_B16
    rw [if_pos (show (74 : Int32) ≤ nI 74 from nle (Nat.le_refl 74) (by decide))]
theorem NV_congr {r t : St} (h : ∀ i, i < 74 → r i = t i) : NV r = NV t := by
  funext i
  unfold NV
  rw [h 1 (by decide)]
  by_cases c1 : i < 24
  · rw [if_pos c1, if_pos c1, h i (by omega)]
  · rw [if_neg c1, if_neg c1]
    by_cases c2 : i < 64
    · rw [if_pos c2, if_pos c2, h i (by omega)]
    · rw [if_neg c2, if_neg c2]
      by_cases c3 : i < 74
      · rw [if_pos c3, if_pos c3, h i c3]
      · rw [if_neg c3, if_neg c3]
-- sums and sets of the reference
theorem mknowing_eq {H : Nat} {μ : Mem} (h : BD H (aM μ)) : f_X6_knowing μ = some (knA (aM μ)) := by
  have n1 := h.2.1
  rw [aM_lo μ (by decide)] at n1
  have hm := n1.1
  unfold f_X6_knowing knA
  rw [aM_lo μ (by decide)]
  refine it2_for' (tn (μ 1 1)) (fun i => setA (knB (aM μ)) i) rfl (by omega) (fun rec i hi => ?_) (fun rec => ?_)
  · unfold f_X6_knowing_B4 f_X6_knowing_J31
    obtain ⟨-, -, -, g3, -⟩ := aM_wf h hi
    rw [if_neg (show ¬ μ 1 1 ≤ nI i by rw [n1.2]; exact nnle hi (by omega)), its3 (show i < 8 by omega), Option.bind_some]
    congr 1
    · show _ = if knB (aM μ) i = true then _ else _
      unfold knB
      rw [g3]
      by_cases h0 : μ 1 (27 + 5 * i) = 0
      · simp [h0]
      · simp [h0]
    · exact nI_1 i
  · unfold f_X6_knowing_B4
    rw [if_pos (show μ 1 1 ≤ nI (tn (μ 1 1)) by rw [← n1.2]; exact Int32.le_refl _)]
theorem mwanting_eq {H : Nat} {μ : Mem} (h : BD H (aM μ)) : f_X6_wanting μ = some (wtA (aM μ)) := by
  have n1 := h.2.1
  rw [aM_lo μ (by decide)] at n1
  have hm := n1.1
  unfold f_X6_wanting wtA
  rw [aM_lo μ (by decide)]
  refine it2_for' (tn (μ 1 1)) (fun i => setA (wtB (aM μ)) i) rfl (by omega) (fun rec i hi => ?_) (fun rec => ?_)
  · unfold f_X6_wanting_B4 f_X6_wanting_J36
    obtain ⟨-, g1, g2, -, -⟩ := aM_wf h hi
    have hc := (h.2.2.2.2.2.1 i (by rw [aM_lo μ (by decide)]; exact hi)).1
    rw [g1] at hc
    have hc1 := hc.1
    rw [if_neg (show ¬ μ 1 1 ≤ nI i by rw [n1.2]; exact nnle hi (by omega)), there_eq (show i < 8 by omega) hc, Option.bind_some, its2 (show i < 8 by omega), Option.bind_some]
    congr 1
    · show _ = if wtB (aM μ) i = true then _ else _
      unfold wtB
      rw [g1, g2, aM_lo μ (by omega)]
      by_cases h0 : μ 1 (26 + 5 * i) ≤ μ 1 (12 + tn (μ 1 (25 + 5 * i)))
      · simp [h0]
      · simp [h0]
    · exact nI_1 i
  · unfold f_X6_wanting_B4
    rw [if_pos (show μ 1 1 ≤ nI (tn (μ 1 1)) by rw [← n1.2]; exact Int32.le_refl _)]
theorem mbeliefs_eq {H : Nat} {μ : Mem} (h : BD H (aM μ)) : f_X6_beliefs μ = some (blA (aM μ)) := by
  have n1 := h.2.1
  rw [aM_lo μ (by decide)] at n1
  have hm := n1.1
  unfold f_X6_beliefs blA
  rw [aM_lo μ (by decide)]
  refine it2_for' (tn (μ 1 1)) (fun i => sumF (fun w => aM μ (27 + 5 * w)) i) rfl (by omega) (fun rec i hi => ?_) (fun rec => ?_)
  · unfold f_X6_beliefs_B4
    obtain ⟨-, -, -, g3, -⟩ := aM_wf h hi
    rw [if_neg (show ¬ μ 1 1 ≤ nI i by rw [n1.2]; exact nnle hi (by omega)), its3 (show i < 8 by omega), Option.bind_some, nI_1, ← g3]
    rfl
  · unfold f_X6_beliefs_B4
    rw [if_pos (show μ 1 1 ≤ nI (tn (μ 1 1)) by rw [← n1.2]; exact Int32.le_refl _)]
theorem mlevels_eq (μ : Mem) : f_X6_levels μ = some (sumF (fun c => aM μ (12 + c)) 12) := by
  unfold f_X6_levels
  refine it2_for' 12 (fun i => sumF (fun c => aM μ (12 + c)) i) rfl (by decide) (fun rec i hi => ?_) (fun rec => ?_)
  · unfold f_X6_levels_B4
    rw [if_neg (show ¬ (12 : Int32) ≤ nI i from nnle hi (by decide)), n12, chk_nI (show 12 + i < 74 by omega) (by decide), nI_1, nI_clamp (show 12 + i < 2 ^ 31 by omega), ← aM_lo μ (show 12 + i < 24 by omega)]
    rfl
  · unfold f_X6_levels_B4
    rw [if_pos (show (12 : Int32) ≤ nI 12 from nle (Nat.le_refl 12) (by decide))]
theorem mopenings_eq (μ : Mem) : f_X6_openings μ = some (sumF (fun h => aM μ (4 + h)) 8) := by
  unfold f_X6_openings
  refine it2_for' 8 (fun i => sumF (fun h => aM μ (4 + h)) i) rfl (by decide) (fun rec i hi => ?_) (fun rec => ?_)
  · unfold f_X6_openings_B4
    rw [if_neg (show ¬ (8 : Int32) ≤ nI i from nnle hi (by decide)), n4, chk_nI (show 4 + i < 74 by omega) (by decide), nI_1, nI_clamp (show 4 + i < 2 ^ 31 by omega), ← aM_lo μ (show 4 + i < 24 by omega)]
    rfl
  · unfold f_X6_openings_B4
    rw [if_pos (show (8 : Int32) ≤ nI 8 from nle (Nat.le_refl 8) (by decide))]
theorem sumF_congr {f g : Nat → Int32} : ∀ n, (∀ i, i < n → f i = g i) → sumF f n = sumF g n
  | 0, _ => rfl
  | n + 1, h => by
    show sumF f n + f n = sumF g n + g n
    rw [sumF_congr n (fun i hi => h i (by omega)), h n (by omega)]
theorem levels_eq (b : Nat) (σ : Mem) : f_X4_levelsTogether (b + 1) σ = some (sumF (fun c => aC b σ (12 + c)) 12) := by
  unfold f_X4_levelsTogether
  rw [together_eq _ 12 (by decide), Option.bind_some]
  exact congrArg some (sumF_congr 12 (fun i hi => (aC_l b σ hi).symm))
theorem openings_eq (b : Nat) (σ : Mem) : f_X4_openingsTogether (b + 1) σ = some (sumF (fun h => aC b σ (4 + h)) 8) := by
  unfold f_X4_openingsTogether
  rw [together_eq _ 8 (by decide), Option.bind_some]
  exact congrArg some (sumF_congr 8 (fun i hi => (aC_p b σ hi).symm))

/-! ===== pure: what holds between calls ===== -/
def addR (r : St) (m : Nat) (kd c : Int32) : St := sU (sU (sU (sU (sU (sU r (24 + 5 * m + 0) kd) (24 + 5 * m + 1) c) (24 + 5 * m + 2) 5) (24 + 5 * m + 3) 50) (24 + 5 * m + 4) 0) 1 (nI (m + 1))
theorem addR_1 (r : St) (m : Nat) (kd c : Int32) : addR r m kd c 1 = nI (m + 1) := sU_at _ _ _
theorem addR_o {r : St} {m i : Nat} {kd c : Int32} (h1 : i ≠ 1) (h : i < 24 + 5 * m ∨ 24 + 5 * m + 5 ≤ i) : addR r m kd c i = r i := by
  unfold addR
  rw [sU_ne h1, sU_ne (by omega), sU_ne (by omega), sU_ne (by omega), sU_ne (by omega), sU_ne (by omega)]
theorem addR_f (r : St) {m f : Nat} (kd c : Int32) (hf : f < 5) : addR r m kd c (24 + 5 * m + f) = if f = 0 then kd else if f = 1 then c else if f = 2 then 5 else if f = 3 then 50 else 0 := by
  unfold addR
  rw [sU_ne (by omega)]
  rcases (show f = 0 ∨ f = 1 ∨ f = 2 ∨ f = 3 ∨ f = 4 by omega) with rfl | rfl | rfl | rfl | rfl
  · rw [sU_ne (by omega), sU_ne (by omega), sU_ne (by omega), sU_ne (by omega), sU_at]; rfl
  · rw [sU_ne (by omega), sU_ne (by omega), sU_ne (by omega), sU_at]; rfl
  · rw [sU_ne (by omega), sU_ne (by omega), sU_at]; rfl
  · rw [sU_ne (by omega), sU_at]; rfl
  · rw [sU_at]; rfl
theorem NV_add {r : St} {m : Nat} {kd c : Int32} (hm : r 1 = nI m) (h8 : m < 8) : NV (addR r m kd c) = addR (NV r) m kd c := by
  funext i
  have e1 : tn (r 1) = m := by rw [hm]; exact tn_nI (by omega)
  have e2 : tn (addR r m kd c 1) = m + 1 := by rw [addR_1]; exact tn_nI (by omega)
  by_cases i1 : i = 1
  · subst i1
    rw [NV_lo (by decide), addR_1, addR_1]
  · by_cases ib : 24 + 5 * m ≤ i ∧ i < 24 + 5 * m + 5
    · obtain ⟨f, hf, rfl⟩ : ∃ f, f < 5 ∧ i = 24 + 5 * m + f := ⟨i - (24 + 5 * m), by omega, by omega⟩
      rw [addR_f _ _ _ hf]
      unfold NV
      rw [e2, if_neg (by omega), if_pos (by omega), if_neg (by omega), addR_f _ _ _ hf]
    · rw [addR_o i1 (by omega)]
      unfold NV
      rw [e2, e1, addR_o i1 (by omega)]
      by_cases c1 : i < 24
      · rw [if_pos c1, if_pos c1]
      · rw [if_neg c1, if_neg c1]
        by_cases c2 : i < 64
        · rw [if_pos c2, if_pos c2]
          by_cases c3 : 24 + 5 * m ≤ i
          · rw [if_pos (by omega), if_pos c3]
          · rw [if_neg (by omega), if_neg c3]
        · rw [if_neg c2, if_neg c2]
theorem BD.add {H : Nat} {s : St} {m : Nat} {kd c : Int32} (h : BD H s) (hm : s 1 = nI m) (h8 : m < 8) (hc : Bn c 11) : BD H (addR s m kd c) := by
  obtain ⟨n0, n1, n2, n3, n4, n5, n6⟩ := h
  have e1 : tn (s 1) = m := by rw [hm]; exact tn_nI (by omega)
  have e2 : tn (addR s m kd c 1) = m + 1 := by rw [addR_1]; exact tn_nI (by omega)
  refine ⟨?_, ?_, ?_, ?_, ?_, ?_, ?_⟩
  · unfold NRM at n0 ⊢
    rw [NV_add hm h8, n0]
  · rw [addR_1]; exact Bn_nI (by omega) (by omega)
  · rw [addR_o (by omega) (by omega)]; exact n2
  · intro h hh
    rw [addR_o (by omega) (by omega)]; exact n3 h hh
  · intro c hc
    rw [addR_o (by omega) (by omega)]; exact n4 c hc
  · intro w hw
    rw [e2] at hw
    by_cases hwm : w < m
    · rw [addR_o (by omega) (by omega), addR_o (by omega) (by omega), addR_o (by omega) (by omega)]
      exact n5 w (by rw [e1]; exact hwm)
    · obtain rfl : w = m := by omega
      have f1 := addR_f s (m := w) kd c (f := 1) (by decide)
      have f3 := addR_f s (m := w) kd c (f := 3) (by decide)
      have f4 := addR_f s (m := w) kd c (f := 4) (by decide)
      rw [show 25 + 5 * w = 24 + 5 * w + 1 by omega, show 27 + 5 * w = 24 + 5 * w + 3 by omega, show 28 + 5 * w = 24 + 5 * w + 4 by omega, f1, f3, f4]
      exact ⟨hc, Bn_nI (j := 50) (by decide) (by decide), Bn_nI (j := 0) (by decide) (by decide)⟩
  · intro k hk
    rw [addR_o (by omega) (by omega), e2]
    rcases n6 k hk with h | ⟨j, hj, h⟩
    · exact Or.inl h
    · exact Or.inr ⟨j, by omega, h⟩
theorem adds_spec {H m : Nat} {μ : Mem} (kd c : Int32) (hm : μ 1 1 = nI m) (h8 : m < 8) : ∃ μ', f_X6_adds kd c μ = some (nI m, μ') ∧ aM μ' = addR (aM μ) m kd c ∧ ∀ x, x ≠ 1 → μ' x = μ x := by
  have p : ∀ f, f < 5 → f_X6_place (nI m) (nI f) = nI (24 + 5 * m + f) := fun f _ => place_nI m f
  unfold f_X6_adds
  rw [hm, show (0 : Int32) = nI 0 from rfl, show (1 : Int32) = nI 1 from rfl, show (2 : Int32) = nI 2 from rfl, show (3 : Int32) = nI 3 from rfl, show (4 : Int32) = nI 4 from rfl, p 0 (by decide), p 1 (by decide), p 2 (by decide), p 3 (by decide), p 4 (by decide)]
  rw [chk_nI (by omega) (by decide), chk_nI (by omega) (by decide), chk_nI (by omega) (by decide), chk_nI (by omega) (by decide), chk_nI (by omega) (by decide)]
  rw [nI_clamp (by omega), nI_clamp (by omega), nI_clamp (by omega), nI_clamp (by omega), nI_clamp (by omega)]
  refine ⟨_, rfl, ?_, ?_⟩
  · unfold aM
    rw [mst_row, mst_row, mst_row, mst_row, mst_row, mst_row]
    rw [sU_ne (show 1 ≠ 24 + 5 * m + 4 by omega), sU_ne (show 1 ≠ 24 + 5 * m + 3 by omega), sU_ne (show 1 ≠ 24 + 5 * m + 2 by omega), sU_ne (show 1 ≠ 24 + 5 * m + 1 by omega), sU_ne (show 1 ≠ 24 + 5 * m + 0 by omega), hm, nI_add]
    exact NV_add hm h8
  · intro x hx
    rw [mst_c hx, mst_c hx, mst_c hx, mst_c hx, mst_c hx, mst_c hx]
theorem settle_spec {b m : Nat} {σ : Mem} (kd c : Int32) (hm : σ b 3 = nI m) (h8 : m < 8) : ∃ σ', f_X2_settle b kd c σ = some (nI m, σ') ∧ aC b σ' = addR (aC b σ) m kd c ∧ ∀ x, (x < b ∨ b + 15 ≤ x) → σ' x = σ x := by
  unfold f_X2_settle f_X3_begin
  rw [hm, chk_nI h8 (by decide), nI_clamp (show m < 2 ^ 31 by omega)]
  refine ⟨_, rfl, ?_, ?_⟩
  · have e : (mst (mst (mst (mst (mst σ (b + 7 + m) 0 kd) (b + 7 + m) 1 c) (b + 7 + m) 2 5) (b + 7 + m) 3 50) (b + 7 + m) 4 0) b 3 = nI m := by
      rw [mst_c (by omega), mst_c (by omega), mst_c (by omega), mst_c (by omega), mst_c (by omega), hm]
    rw [e, nI_1]
    unfold aC
    rw [← NV_add (show vv b σ 1 = nI m from hm) h8]
    congr 1
    unfold addR
    have w0 := va_w (b := b) (w := m) (f := 0) h8 (by decide)
    have w1 := va_w (b := b) (w := m) (f := 1) h8 (by decide)
    have w2 := va_w (b := b) (w := m) (f := 2) h8 (by decide)
    have w3 := va_w (b := b) (w := m) (f := 3) h8 (by decide)
    have w4 := va_w (b := b) (w := m) (f := 4) h8 (by decide)
    rw [← vv_set, ← vv_set, ← vv_set, ← vv_set, ← vv_set, ← vv_set, w0.1, w0.2, w1.1, w1.2, w2.1, w2.2, w3.1, w3.2, w4.1, w4.2]
    rfl
  · intro x hx
    rw [mst_c (by omega), mst_c (by omega), mst_c (by omega), mst_c (by omega), mst_c (by omega), mst_c (by omega)]
abbrev Inv (k : Nat) (σ μ : Mem) : Prop := (aC 1 σ = aM μ) ∧ (BD (80 * k) (aM μ)) ∧ (σ 0 8 = μ 0 5) ∧ (μ 0 5 ≠ 0 → aC 16 σ = NV (μ 2) ∧ BD (80 * k) (NV (μ 2))) ∧ (∀ i, i < 7 → σ 73 i = μ 5 i) ∧ (σ 71 1 = μ 0 13) ∧ (Bn (μ 0 13) 120) ∧ (∀ i, i < tn (μ 0 13) → σ 72 i = μ 8 i ∧ Bn (μ 8 i) 255) ∧ (∀ s, s < 4 → σ (63 + 2 * s) 1 = μ 9 s) ∧ (∀ s, s < 4 → σ (63 + 2 * s) 2 = μ 10 s ∧ Bn (μ 10 s) 40) ∧ (∀ s, s < 4 → ∀ i, i < 40 → σ (64 + 2 * s) i = μ 11 (40 * s + i)) ∧ (μ 0 6 = 0)
theorem Inv.row {k : Nat} {σ μ : Mem} (h : Inv k σ μ) : aC 1 σ = aM μ := h.1
theorem Inv.bd {k : Nat} {σ μ : Mem} (h : Inv k σ μ) : BD (80 * k) (aM μ) := h.2.1
theorem Inv.kp {k : Nat} {σ μ : Mem} (h : Inv k σ μ) : σ 0 8 = μ 0 5 := h.2.2.1
theorem Inv.kept {k : Nat} {σ μ : Mem} (h : Inv k σ μ) : μ 0 5 ≠ 0 → aC 16 σ = NV (μ 2) ∧ BD (80 * k) (NV (μ 2)) := h.2.2.2.1
theorem Inv.fn {k : Nat} {σ μ : Mem} (h : Inv k σ μ) : ∀ i, i < 7 → σ 73 i = μ 5 i := h.2.2.2.2.1
theorem Inv.len {k : Nat} {σ μ : Mem} (h : Inv k σ μ) : σ 71 1 = μ 0 13 := h.2.2.2.2.2.1
theorem Inv.lenB {k : Nat} {σ μ : Mem} (h : Inv k σ μ) : Bn (μ 0 13) 120 := h.2.2.2.2.2.2.1
theorem Inv.tape {k : Nat} {σ μ : Mem} (h : Inv k σ μ) : ∀ i, i < tn (μ 0 13) → σ 72 i = μ 8 i ∧ Bn (μ 8 i) 255 := h.2.2.2.2.2.2.2.1
theorem Inv.sb {k : Nat} {σ μ : Mem} (h : Inv k σ μ) : ∀ s, s < 4 → σ (63 + 2 * s) 1 = μ 9 s := h.2.2.2.2.2.2.2.2.1
theorem Inv.sz {k : Nat} {σ μ : Mem} (h : Inv k σ μ) : ∀ s, s < 4 → σ (63 + 2 * s) 2 = μ 10 s ∧ Bn (μ 10 s) 40 := h.2.2.2.2.2.2.2.2.2.1
theorem Inv.sn {k : Nat} {σ μ : Mem} (h : Inv k σ μ) : ∀ s, s < 4 → ∀ i, i < 40 → σ (64 + 2 * s) i = μ 11 (40 * s + i) := h.2.2.2.2.2.2.2.2.2.2.1
theorem Inv.shut {k : Nat} {σ μ : Mem} (h : Inv k σ μ) : μ 0 6 = 0 := h.2.2.2.2.2.2.2.2.2.2.2
def FR (μ μ' : Mem) : Prop := (∀ c, (c = 2 ∨ c = 5 ∨ (8 ≤ c ∧ c ≤ 11)) → μ' c = μ c) ∧ (∀ x, (x = 5 ∨ x = 6 ∨ x = 13) → μ' 0 x = μ 0 x)
def FC (σ σ' : Mem) : Prop := ∀ c, (c = 0 ∨ (16 ≤ c ∧ c < 31) ∨ 62 ≤ c) → σ' c = σ c
def FT (σ σ' : Mem) : Prop := ∀ c, (c < 31 ∨ 62 ≤ c) → σ' c = σ c
theorem FR.rfl' (μ : Mem) : FR μ μ := ⟨fun _ _ => rfl, fun _ _ => rfl⟩
theorem FR.trans {a b c : Mem} (h : FR a b) (h2 : FR b c) : FR a c := ⟨fun x hx => by rw [h2.1 x hx, h.1 x hx], fun x hx => by rw [h2.2 x hx, h.2 x hx]⟩
theorem FR.of1 {μ μ' : Mem} (h : ∀ c, c ≠ 1 → c ≠ 6 → μ' c = μ c) : FR μ μ' := ⟨fun c hc => h c (by omega) (by omega), fun x _ => by rw [h 0 (by decide) (by decide)]⟩
theorem FR.of4 {μ μ' : Mem} (h : ∀ c, c ≠ 4 → μ' c = μ c) : FR μ μ' := ⟨fun c hc => h c (by omega), fun x _ => by rw [h 0 (by decide)]⟩
theorem FR.of3 {μ μ' : Mem} (h : ∀ c, c ≠ 3 → μ' c = μ c) : FR μ μ' := ⟨fun c hc => h c (by omega), fun x _ => by rw [h 0 (by decide)]⟩
theorem FR.ofr {μ μ' : Mem} (h : ∀ c, c ≠ 1 → μ' c = μ c) : FR μ μ' := FR.of1 (fun c h1 _ => h c h1)
theorem FT.rfl' (σ : Mem) : FT σ σ := fun _ _ => rfl
theorem FT.trans {a b c : Mem} (h : FT a b) (h2 : FT b c) : FT a c := fun x hx => by rw [h2 x hx, h x hx]
theorem FT.FC {σ σ' : Mem} (h : FT σ σ') : FC σ σ' := fun c hc => h c (by omega)
theorem FT.row {σ σ' : Mem} (h : FT σ σ') : aC 1 σ' = aC 1 σ := aC_frame (fun x _ h2 => h x (by omega))
theorem FC.ofV {σ σ' : Mem} (h : ∀ c, (c < 1 ∨ 1 + 15 ≤ c) → σ' c = σ c) : FC σ σ' := fun c hc => h c (by omega)
theorem Inv.go {k : Nat} {σ μ σ' μ' : Mem} (h : Inv k σ μ) (hc : FC σ σ') (hf : FR μ μ') (hr : aC 1 σ' = aM μ') (hb : BD (80 * (k + 1)) (aM μ')) : Inv (k + 1) σ' μ' := by
  have e5 : μ' 0 5 = μ 0 5 := hf.2 5 (by omega)
  have e13 : μ' 0 13 = μ 0 13 := hf.2 13 (by omega)
  refine ⟨hr, hb, ?_, ?_, ?_, ?_, ?_, ?_, ?_, ?_, ?_, ?_⟩
  · rw [hc 0 (by omega), e5]; exact h.kp
  · rw [e5, hf.1 2 (by omega), aC_frame (σ' := σ') (σ := σ) (b := 16) (fun x h1 h2 => hc x (by omega))]
    intro hk
    exact ⟨(h.kept hk).1, (h.kept hk).2.up (by omega)⟩
  · intro i hi
    rw [hc 73 (by omega), hf.1 5 (by omega)]; exact h.fn i hi
  · rw [hc 71 (by omega), e13]; exact h.len
  · rw [e13]; exact h.lenB
  · rw [e13, hc 72 (by omega), hf.1 8 (by omega)]; exact h.tape
  · intro s hs
    rw [hc _ (by omega), hf.1 9 (by omega)]; exact h.sb s hs
  · intro s hs
    rw [hc _ (by omega), hf.1 10 (by omega)]; exact h.sz s hs
  · intro s hs i hi
    rw [hc _ (by omega), hf.1 11 (by omega)]; exact h.sn s hs i hi
  · rw [hf.2 6 (by omega)]; exact h.shut
theorem Inv.tr {k : Nat} {σ μ σ' μ' : Mem} (h : Inv k σ μ) (hc : FT σ σ') (hf : FR μ μ') (hr : aM μ' = aM μ) : Inv (k + 1) σ' μ' :=
  h.go hc.FC hf (by rw [hc.row, h.row, hr]) (by rw [hr]; exact h.bd.up (by omega))
theorem Inv.tr0 {k : Nat} {σ μ σ' μ' : Mem} (h : Inv k σ μ) (hc : FT σ σ') (hf : FR μ μ') (hr : aM μ' = aM μ) : Inv k σ' μ' := by
  have e5 : μ' 0 5 = μ 0 5 := hf.2 5 (by omega)
  have e13 : μ' 0 13 = μ 0 13 := hf.2 13 (by omega)
  refine ⟨by rw [hc.row, h.row, hr], by rw [hr]; exact h.bd, ?_, ?_, ?_, ?_, ?_, ?_, ?_, ?_, ?_, ?_⟩
  · rw [hc 0 (by omega), e5]; exact h.kp
  · rw [e5, hf.1 2 (by omega), aC_frame (σ' := σ') (σ := σ) (b := 16) (fun x h1 h2 => hc x (by omega))]
    exact h.kept
  · intro i hi
    rw [hc 73 (by omega), hf.1 5 (by omega)]; exact h.fn i hi
  · rw [hc 71 (by omega), e13]; exact h.len
  · rw [e13]; exact h.lenB
  · rw [e13, hc 72 (by omega), hf.1 8 (by omega)]; exact h.tape
  · intro s hs
    rw [hc _ (by omega), hf.1 9 (by omega)]; exact h.sb s hs
  · intro s hs
    rw [hc _ (by omega), hf.1 10 (by omega)]; exact h.sz s hs
  · intro s hs i hi
    rw [hc _ (by omega), hf.1 11 (by omega)]; exact h.sn s hs i hi
  · rw [hf.2 6 (by omega)]; exact h.shut
theorem Inv.same {k : Nat} {σ μ : Mem} (h : Inv k σ μ) : Inv (k + 1) σ μ := h.tr (FT.rfl' σ) (FR.rfl' μ) rfl
theorem Inv.find {k : Nat} {σ μ : Mem} (h : Inv k σ μ) {j : Nat} (hj : j < 7) : Inv (k + 1) (mst σ 73 j (σ 73 j + 1)) (mst μ 5 j (μ 5 j + 1)) := by
  have h1 := h.same
  refine ⟨?_, ?_, ?_, ?_, ?_, ?_, ?_, ?_, ?_, ?_, ?_, ?_⟩
  · rw [aC_frame (σ := σ) (fun x _ h2 => mst_c (by omega)), aM_frame (μ := μ) (mst_c (by decide))]; exact h1.row
  · rw [aM_frame (μ := μ) (mst_c (by decide))]; exact h1.bd
  · rw [mst_c (by decide), mst_c (by decide)]; exact h1.kp
  · rw [mst_c (by decide), mst_c (by decide), aC_frame (σ := σ) (fun x _ h2 => mst_c (by omega))]; exact h1.kept
  · intro i hi
    rw [mst_ap, mst_ap]
    by_cases e : i = j
    · rw [if_pos ⟨rfl, e⟩, if_pos ⟨rfl, e⟩, h.fn j hj]
    · rw [if_neg (by omega), if_neg (by omega)]; exact h.fn i hi
  · rw [mst_c (by decide), mst_c (by decide)]; exact h1.len
  · rw [mst_c (by decide)]; exact h1.lenB
  · rw [mst_c (by decide), mst_c (by decide), mst_c (by decide)]; exact h1.tape
  · intro s hs
    rw [mst_c (by omega), mst_c (by decide)]; exact h1.sb s hs
  · intro s hs
    rw [mst_c (by omega), mst_c (by decide)]; exact h1.sz s hs
  · intro s hs i hi
    rw [mst_c (by omega), mst_c (by decide)]; exact h1.sn s hs i hi
  · rw [mst_c (by decide)]; exact h1.shut
/-- the answers of one call -/
def RS (k : Nat) (a b : Option (Int32 × Mem)) : Prop := ∃ q1 q2, a = some q1 ∧ b = some q2 ∧ q1.1 = q2.1 ∧ Inv (k + 1) q1.2 q2.2
theorem bsome {A B : Type} (o : Option (A × B)) : (o.bind fun q => some (q.1, q.2)) = o := by cases o <;> rfl
theorem finding_eq {j : Nat} (hj : j < 7) {c : Int32} (hc : c = -1000001 - nI j) (σ : Mem) : f_X5_finding c σ = some (c, mst σ 73 j (σ 73 j + 1)) := by
  have e : (-1000001 : Int32) - c = nI j := by
    rw [hc]
    rcases (show j = 0 ∨ j = 1 ∨ j = 2 ∨ j = 3 ∨ j = 4 ∨ j = 5 ∨ j = 6 by omega) with rfl | rfl | rfl | rfl | rfl | rfl | rfl <;> rfl
  unfold f_X5_finding
  rw [e, if_neg (nI_pos (by omega)), if_neg (show ¬ (7 : Int32) ≤ nI j from nnle hj (by decide)), chk_nI hj (by decide), chk_nI hj (by decide), nI_clamp (by omega)]
theorem finds_eq {j : Nat} (hj : j < 7) {c : Int32} (hc : c = -1000001 - nI j) (μ : Mem) : f_X6_finds c μ = some (c, mst μ 5 j (μ 5 j + 1)) := by
  have e : (-1000001 : Int32) - c = nI j := by
    rw [hc]
    rcases (show j = 0 ∨ j = 1 ∨ j = 2 ∨ j = 3 ∨ j = 4 ∨ j = 5 ∨ j = 6 by omega) with rfl | rfl | rfl | rfl | rfl | rfl | rfl <;> rfl
  unfold f_X6_finds
  rw [e, chk_nI hj (by decide), chk_nI hj (by decide), nI_clamp (by omega)]
theorem fnd {k : Nat} {σ μ : Mem} (h : Inv k σ μ) (j : Nat) (hj : j < 7) {c : Int32} (hc : c = -1000001 - nI j) : RS k ((f_X5_finding c σ).bind fun q => some (q.1, q.2)) ((f_X6_finds c μ).bind fun q => some (q.1, q.2)) := by
  rw [bsome, bsome, finding_eq hj hc, finds_eq hj hc]
  exact ⟨_, _, rfl, rfl, rfl, h.find hj⟩
theorem fndB {k : Nat} {σ μ : Mem} (h : Inv k σ μ) : RS k ((f_X5_finding (-1000001) σ).bind fun q => some (q.1, q.2)) ((f_X6_finds (-1000001) μ).bind fun q => some (q.1, q.2)) := fnd h 0 (by decide) (by decide)
theorem fndN {k : Nat} {σ μ : Mem} (h : Inv k σ μ) : RS k ((f_X5_finding (-1000004) σ).bind fun q => some (q.1, q.2)) ((f_X6_finds (-1000004) μ).bind fun q => some (q.1, q.2)) := fnd h 3 (by decide) (by decide)
-- guards
theorem out_iff (x M : Int32) : f_X5_outside x M = 0 ↔ 0 ≤ x.toInt ∧ x.toInt ≤ M.toInt := by
  unfold f_X5_outside
  have e0 : x < 0 ↔ x.toInt < 0 := Int32.lt_iff_toInt_lt
  have e1 : x ≤ M ↔ x.toInt ≤ M.toInt := Int32.le_iff_toInt_le
  by_cases h0 : x < 0
  · rw [if_pos h0]
    have := e0.mp h0
    exact ⟨fun q => absurd q (by decide), fun q => by omega⟩
  · rw [if_neg h0]
    have h0' : ¬ x.toInt < 0 := fun q => h0 (e0.mpr q)
    by_cases h1 : x ≤ M
    · rw [if_pos h1]
      have := e1.mp h1
      exact ⟨fun _ => ⟨by omega, this⟩, fun _ => rfl⟩
    · rw [if_neg h1]
      have : ¬ x.toInt ≤ M.toInt := fun q => h1 (e1.mpr q)
      exact ⟨fun q => absurd q (by decide), fun q => absurd q.2 this⟩
theorem in_iff (x : Int32) (L U : Int64) : f_X6_in x.toInt64 L U = 0 ↔ ¬ (L.toInt ≤ x.toInt ∧ x.toInt ≤ U.toInt) := by
  rw [in_spec, Int32.toInt_toInt64]
  by_cases h : L.toInt ≤ x.toInt ∧ x.toInt ≤ U.toInt
  · rw [if_pos h]
    exact ⟨fun q => absurd q (by decide), fun q => absurd h q⟩
  · rw [if_neg h]
    exact ⟨fun _ => h, fun _ => rfl⟩
/-- a number of 0 to m, or both guards say no -/
theorem gd (x : Int32) (m : Nat) {M : Int32} {U : Int64} (hM : M.toInt = m) (hU : U.toInt = m) (hm : m < 2 ^ 31) : (∃ j, j ≤ m ∧ x = nI j ∧ f_X5_outside x M = 0 ∧ ¬ f_X6_in x.toInt64 0 U = 0) ∨ (¬ f_X5_outside x M = 0 ∧ f_X6_in x.toInt64 0 U = 0) := by
  have h0 : (0 : Int64).toInt = 0 := rfl
  rw [out_iff, in_iff, hM, hU, h0]
  by_cases h : 0 ≤ x.toInt ∧ x.toInt ≤ (m : Int)
  · refine Or.inl ⟨tn x, (Bn_of h.1 h.2 hm).1, (Bn_of h.1 h.2 hm).2, h, fun q => q h⟩
  · exact Or.inr ⟨h, h⟩
theorem gd1 (x : Int32) (l m : Nat) {A B : Int32} {L U : Int64} (hA : A.toInt = l) (hB : B.toInt = m) (hL : L.toInt = l) (hU : U.toInt = m) (hm : m < 2 ^ 31) : (∃ j, l ≤ j ∧ j ≤ m ∧ x = nI j ∧ ¬ x < A ∧ x ≤ B ∧ ¬ f_X6_in x.toInt64 L U = 0) ∨ ((x < A ∨ ¬ x ≤ B) ∧ f_X6_in x.toInt64 L U = 0) := by
  rw [in_iff, hL, hU, Int32.lt_iff_toInt_lt, Int32.le_iff_toInt_le, hA, hB]
  by_cases h : (l : Int) ≤ x.toInt ∧ x.toInt ≤ (m : Int)
  · have hb := Bn_of (x := x) (n := m) (by omega) h.2 hm
    have ht := hb.toInt hm
    refine Or.inl ⟨tn x, by omega, hb.1, hb.2, by omega, h.2, fun q => q h⟩
  · exact Or.inr ⟨by omega, h⟩
theorem toInt_pred {m : Nat} (hm : m < 2 ^ 31) : (nI m - 1).toInt = (m : Int) - 1 := by
  by_cases h : m = 0
  · subst h; rfl
  · have : nI m - 1 = nI (m - 1) := pk_sub (a := m) (b := 1) (by omega)
    rw [this, nI_toInt (by omega)]
    omega
/-- which watcher, or both guards say no -/
theorem gw {k : Nat} {σ μ : Mem} (h : Inv k σ μ) (x : Int32) : (∃ j, j < tn (μ 1 1) ∧ x = nI j ∧ f_X5_noWatcher x σ = 0 ∧ ¬ f_X6_isWatcher x μ = 0) ∨ (¬ f_X5_noWatcher x σ = 0 ∧ f_X6_isWatcher x μ = 0) := by
  have e1 : σ 1 3 = μ 1 1 := by
    have := congrFun h.row 1
    rw [aC_1, aM_lo μ (by decide)] at this
    exact this
  have b1 := h.bd.2.1
  rw [aM_lo μ (by decide)] at b1
  have hm := b1.1
  unfold f_X5_noWatcher f_X6_isWatcher
  rw [e1, out_iff, in_iff, Int32.toInt_toInt64, b1.2, toInt_pred (by omega), show (0 : Int64).toInt = 0 from rfl, tn_nI (by omega)]
  by_cases h : 0 ≤ x.toInt ∧ x.toInt ≤ (tn (μ 1 1) : Int) - 1
  · have hb := Bn_of (x := x) (n := 8) h.1 (by omega) (by decide)
    have ht := hb.toInt (by decide)
    refine Or.inl ⟨tn x, by omega, hb.2, h, fun q => q h⟩
  · exact Or.inr ⟨h, h⟩
theorem Inv.m1 {k : Nat} {σ μ : Mem} (h : Inv k σ μ) : σ 1 3 = μ 1 1 ∧ Bn (μ 1 1) 8 := by
  have := congrFun h.row 1
  rw [aC_1, aM_lo μ (by decide)] at this
  have b1 := h.bd.2.1
  rw [aM_lo μ (by decide)] at b1
  exact ⟨this, b1⟩
theorem Inv.bd1 {k : Nat} {σ μ : Mem} (h : Inv k σ μ) : BD (80 * k) (aC 1 σ) := by rw [h.row]; exact h.bd

def f_X1_allows (b : Nat) (x1 : Int32) (x2 : Int32) (σ : Mem) : Option (Int32) := (chk x1 40 (if (σ (b + 1) x1.toNatClampNeg) = (-1) then some 1 else (chk x1 40 (if (σ (b + 1) x1.toNatClampNeg) = x2 then some 1 else some 0))))
set_option maxHeartbeats 4000000 in
set_option maxRecDepth 100000 in
theorem k_X1_allows (l : Launch) (G : GG) (a : Nat → Nat) (σ : Mem) (hj : INJ nR a) (b : Nat) (hb0 : isS b) (x1 : Int32) (x2 : Int32) (q : Int32) (h : f_X1_allows b x1 x2 σ = some q) : Met l yX1_allows (Cond.code yX1_allows cX1_allows 3 (some .boolean) :: TB) ({ frames := 0, cells := 0, slots := 0, locals := 0 } : Room) (PA G kR nR a σ [.ref (a b), .int x1, .int x2]) (SI q) 0 0 NF := by
  refine M_ofW (by decide) hj kR_lt (Nat.le_of_ble_eq_true rfl) (fun p e s m below meth c ls C0 hb hml hr hlk hP hS hl => ?_)
  have C0 : CT p s _ m RX1 G kR nR a := C0
  have hx := C0.1
  have hts := C0.2.1
  have hown := C0.2.2.1
  have hl : lv_has ls 3 [(0, .ref (a b)), (1, .int x1), (2, .int x2)] := hl
  unfold f_X1_allows at h
  refine lv_aload_n hx hb dX1_allows_0 rfl (lv_at hl 0 rfl) ?_
  refine gf_X1_9 (o := b) (o2 := (b + 1)) C0 hb hP (isS_k hb0) rfl dX1_allows_1 ?_
  refine lv_iload_n hx hb dX1_allows_4 rfl (lv_at hl 1 rfl) ?_
  obtain ⟨hi_1, h⟩ := chk_s h
  refine m_iald (o := (b + 1)) (N := 40) (i := x1) (j := x1.toNatClampNeg) C0 hb hP (isS_1 hb0) (by decide) hi_1 rfl dX1_allows_5 ?_
  refine lv_iconst (v := (-1)) hx hb dX1_allows_6 (by decide) ?_
  refine lv_icmp_eq (tgt := 20) hx hb dX1_allows_7 (by decide) (fun (c_2 : (σ (b + 1) x1.toNatClampNeg) = (-1)) => ?_) (fun (c_2 : ¬ (σ (b + 1) x1.toNatClampNeg) = (-1)) => ?_)
  · rw [if_pos c_2] at h
    refine lv_iconst (v := 1) hx hb dX1_allows_20 (by decide) ?_
    refine lv_goto (tgt := 25) hx hb dX1_allows_21 (by decide) ?_
    exact m_sz hx hb hr hlk (Or.inr rfl) (Option.some.inj h) dX1_allows_25
  · rw [if_neg c_2] at h
    refine lv_aload_n hx hb dX1_allows_10 rfl (lv_at hl 0 rfl) ?_
    refine gf_X1_9 (o := b) (o2 := (b + 1)) C0 hb hP (isS_k hb0) rfl dX1_allows_11 ?_
    refine lv_iload_n hx hb dX1_allows_14 rfl (lv_at hl 1 rfl) ?_
    obtain ⟨hi_3, h⟩ := chk_s h
    refine m_iald (o := (b + 1)) (N := 40) (i := x1) (j := x1.toNatClampNeg) C0 hb hP (isS_1 hb0) (by decide) hi_3 rfl dX1_allows_15 ?_
    refine lv_iload_n hx hb dX1_allows_16 rfl (lv_at hl 2 rfl) ?_
    refine lv_icmp_ne (tgt := 24) hx hb dX1_allows_17 (by decide) (fun (c_4 : ¬ (σ (b + 1) x1.toNatClampNeg) = x2) => ?_) (fun (c_4 : (σ (b + 1) x1.toNatClampNeg) = x2) => ?_)
    · rw [if_neg c_4] at h
      refine lv_iconst (v := 0) hx hb dX1_allows_24 (by decide) ?_
      exact m_sz hx hb hr hlk (Or.inl rfl) (Option.some.inj h) dX1_allows_25
    · rw [if_pos c_4] at h
      refine lv_iconst (v := 1) hx hb dX1_allows_20 (by decide) ?_
      refine lv_goto (tgt := 25) hx hb dX1_allows_21 (by decide) ?_
      exact m_sz hx hb hr hlk (Or.inr rfl) (Option.some.inj h) dX1_allows_25
def f_X5_couldBeOpened_B17 (c2 : Nat) (x4 : Int32) (rec17 : Int32 → Mem → Option (Int32 × Mem)) (x6_2 : Int32) (σ_3 : Mem) : Option (Int32 × Mem) := (if (σ_3 c2 2) ≤ x6_2 then some (1, σ_3) else (chk x4 12 ((f_X1_allows c2 x6_2 (σ_3 33 x4.toNatClampNeg) σ_3).bind fun q_6 => (if q_6 = 0 then some (0, σ_3) else ((f_X4_run 32 1 σ_3).bind fun q_9 => (rec17 (x6_2 + 1) q_9))))))
def f_X5_couldBeOpened (x1 : Int32) (c2 : Nat) (x3 : Int32) (x4 : Int32) (σ : Mem) : Option (Int32 × Mem) := (chk x3 8 (it2 (f_X5_couldBeOpened_B17 c2 x4) FU 0 (mst (f_X5_waterTried σ) 35 x3.toNatClampNeg x1)))
set_option maxHeartbeats 4000000 in
set_option maxRecDepth 100000 in
theorem k_X5_couldBeOpened (l : Launch) (G : GG) (a : Nat → Nat) (σ : Mem) (hj : INJ nR a) (x1 : Int32) (c2 : Nat) (hk2 : isS c2) (x3 : Int32) (x4 : Int32) (q : Int32 × Mem) (h : f_X5_couldBeOpened x1 c2 x3 x4 σ = some q) : Met l yX5_couldBeOpened (Cond.code yX5_couldBeOpened cX5_couldBeOpened 7 (some .boolean) :: TB) ({ frames := 3, cells := 0, slots := 0, locals := 71 } : Room) (PA G kR nR a σ [.ref (a 0), .int x1, .ref (a c2), .int x3, .int x4]) (QI G kR nR a q) 0 0 (AW nR a) := by
  refine M_ofW (by decide) hj kR_lt (Nat.le_of_ble_eq_true rfl) (fun p e s m below meth c ls C0 hb hml hr hlk hP hS hl => ?_)
  have C0 : CT p s _ m RX5 G kR nR a := C0
  have hx := C0.1
  have hts := C0.2.1
  have hown := C0.2.2.1
  have hl : lv_has ls 7 [(0, .ref (a 0)), (1, .int x1), (2, .ref (a c2)), (3, .int x3), (4, .int x4)] := hl
  unfold f_X5_couldBeOpened at h
  refine lv_aload_n hx hb dX5_couldBeOpened_0 rfl (lv_at hl 0 rfl) ?_
  refine m_cVr (As := []) (rest := []) (o := 0) (ci := 5) C0 hb hml hl.1 wm_X5_152 md_X5_waterTried (k_X5_waterTried l G a σ hj) rfl rfl ⟨(Nat.le_of_ble_eq_true rfl), (Nat.le_of_ble_eq_true rfl)⟩ hP hS (rfl : kR 0 = 5) (by decide) rfl rfl rfl (Nat.le_of_ble_eq_true rfl) dX5_couldBeOpened_1 (fun H locs hP hS => ?_)
  refine lv_astore (lv' := [(5, .ref (a 32)), (0, .ref (a 0)), (1, .int x1), (2, .ref (a c2)), (3, .int x3), (4, .int x4)]) hx hb dX5_couldBeOpened_4 hl (by decide) rfl (fun ls hl => ?_)
  refine lv_aload hx hb dX5_couldBeOpened_6 (lv_at hl 0 rfl) ?_
  refine gf_X5_68 (o := 32) (o2 := 35) C0 hb hP (isW_k (isV_w v31)) rfl dX5_couldBeOpened_8 ?_
  refine lv_iload_n hx hb dX5_couldBeOpened_11 rfl (lv_at hl 4 rfl) ?_
  refine lv_iload_n hx hb dX5_couldBeOpened_12 rfl (lv_at hl 2 rfl) ?_
  obtain ⟨hi_1, h⟩ := chk_s h
  refine m_iast (o := 35) (N := 8) (i := x3) (j := x3.toNatClampNeg) C0 hb hP hS (isW_3 (isV_w v31)) (by decide) hi_1 rfl dX5_couldBeOpened_13 (fun H locs hP hS => ?_)
  refine lv_iconst (v := 0) hx hb dX5_couldBeOpened_14 (by decide) ?_
  refine lv_istore (lv' := [(6, .int 0), (5, .ref (a 32)), (0, .ref (a 0)), (1, .int x1), (2, .ref (a c2)), (3, .int x3), (4, .int x4)]) hx hb dX5_couldBeOpened_15 hl (by decide) rfl (fun ls hl => ?_)
  have L_11 : ∀ (fu17 : Nat) (x6_2 : Int32) (σ_3 : Mem) (H : Heap) (locs : List Loc) (ls : Array Slot), it2 (f_X5_couldBeOpened_B17 c2 x4) fu17 x6_2 σ_3 = some q → HP G kR nR a σ_3 H → va_S (AW nR a) s.heap H locs → lv_has ls 7 [(6, .int x6_2), (5, .ref (a 32)), (2, .ref (a c2)), (4, .int x4)] → W p l e ({ frames := 3, cells := 0, slots := 0, locals := 71 } : Room) s m ([.ref (a 0), .int x1, .ref (a c2), .int x3, .int x4] : List Value).toArray below meth c H locs 0 0 (MQ below (QI G kR nR a q) ([.ref (a 0), .int x1, .ref (a c2), .int x3, .int x4] : List Value).toArray s 0 0 (AW nR a)) (F0 m 17 ls []) := by
    intro fu17
    induction fu17 with
    | zero =>
      intro x6_2 σ_3 H locs ls h
      cases h
    | succ fu17 ih17 =>
      intro x6_2 σ_3 H locs ls h hP hS hl
      replace h : (f_X5_couldBeOpened_B17 c2 x4) (it2 (f_X5_couldBeOpened_B17 c2 x4) fu17) x6_2 σ_3 = some q := h
      generalize it2 (f_X5_couldBeOpened_B17 c2 x4) fu17 = rec17 at h ih17
      unfold f_X5_couldBeOpened_B17 at h
      refine lv_iload hx hb dX5_couldBeOpened_17 (lv_at hl 0 rfl) ?_
      refine lv_aload_n hx hb dX5_couldBeOpened_19 rfl (lv_at hl 2 rfl) ?_
      refine gf_X5_261 (o := c2) C0 hb hP (isS_k hk2) dX5_couldBeOpened_20 ?_
      refine lv_icmp_ge (tgt := 57) hx hb dX5_couldBeOpened_23 (by decide) (fun (c_4 : (σ_3 c2 2) ≤ x6_2) => ?_) (fun (c_4 : ¬ (σ_3 c2 2) ≤ x6_2) => ?_)
      · rw [if_pos c_4] at h
        refine lv_iconst (v := 1) hx hb dX5_couldBeOpened_57 (by decide) ?_
        exact m_rz hx hb hr hlk hP hS (Or.inr rfl) (Option.some.inj h) dX5_couldBeOpened_58
      · rw [if_neg c_4] at h
        refine lv_aload_n hx hb dX5_couldBeOpened_26 rfl (lv_at hl 2 rfl) ?_
        refine lv_iload hx hb dX5_couldBeOpened_27 (lv_at hl 0 rfl) ?_
        refine lv_aload hx hb dX5_couldBeOpened_29 (lv_at hl 1 rfl) ?_
        refine gf_X5_63 (o := 32) (o2 := 33) C0 hb hP (isW_k (isV_w v31)) rfl dX5_couldBeOpened_31 ?_
        refine lv_iload hx hb dX5_couldBeOpened_34 (lv_at hl 3 rfl) ?_
        obtain ⟨hi_5, h⟩ := chk_s h
        refine m_iald (o := 33) (N := 12) (i := x4) (j := x4.toNatClampNeg) C0 hb hP (isW_1 (isV_w v31)) (by decide) hi_5 rfl dX5_couldBeOpened_36 ?_
        obtain ⟨q_6, hq_7, h⟩ := bd_s h
        refine m_rVi (As := [.int x6_2, .int (σ_3 33 x4.toNatClampNeg)]) (rest := []) (o := c2) (ci := 1) C0 hb hml hl.1 wm_X5_303 md_X1_allows (k_X1_allows l G a σ_3 hj c2 hk2 x6_2 (σ_3 33 x4.toNatClampNeg) q_6 hq_7) rfl rfl ⟨(Nat.le_of_ble_eq_true rfl), (Nat.le_of_ble_eq_true rfl)⟩ hP hS (isS_k hk2) (by decide) rfl rfl rfl (Nat.le_of_ble_eq_true rfl) dX5_couldBeOpened_37 ?_
        refine lv_if_ne (tgt := 45) hx hb dX5_couldBeOpened_40 (by decide) (fun (c_8 : ¬ q_6 = 0) => ?_) (fun (c_8 : q_6 = 0) => ?_)
        · rw [if_neg c_8] at h
          refine lv_aload hx hb dX5_couldBeOpened_45 (lv_at hl 1 rfl) ?_
          refine lv_iconst (v := 1) hx hb dX5_couldBeOpened_47 (by decide) ?_
          obtain ⟨q_9, hq_10, h⟩ := bd_s h
          refine m_cVv (As := [.int 1]) (rest := []) (o := 32) (ci := 4) C0 hb hml hl.1 wm_X5_156 md_X4_run (k_X4_run l G a σ_3 hj 32 (isV_w v31) 1 q_9 hq_10) rfl rfl ⟨(Nat.le_of_ble_eq_true rfl), (Nat.le_of_ble_eq_true rfl)⟩ hP hS (isW_k (isV_w v31)) (by decide) rfl rfl rfl (Nat.le_of_ble_eq_true rfl) dX5_couldBeOpened_48 (fun H locs hP hS => ?_)
          refine lv_iinc (v := x6_2 + 1) (lv' := [(6, .int (x6_2 + 1)), (5, .ref (a 32)), (2, .ref (a c2)), (4, .int x4)]) hx hb dX5_couldBeOpened_51 hl (k := 0) rfl rfl (by decide) rfl (fun ls hl => ?_)
          refine lv_goto (tgt := 17) hx hb dX5_couldBeOpened_54 (by decide) ?_
          exact ih17 (x6_2 + 1) q_9 _ _ _ h hP hS (lv_sub hl [0, 1, 2, 3] rfl)
        · rw [if_pos c_8] at h
          refine lv_iconst (v := 0) hx hb dX5_couldBeOpened_43 (by decide) ?_
          exact m_rz hx hb hr hlk hP hS (Or.inl rfl) (Option.some.inj h) dX5_couldBeOpened_44
  exact L_11 FU 0 (mst (f_X5_waterTried σ) 35 x3.toNatClampNeg x1) _ _ _ h hP hS (lv_sub hl [0, 1, 4, 6] rfl)
def f_X1_isMissing (b : Nat) (σ : Mem) : Int32 := (if (σ b 1) = 0 then 1 else 0)
theorem bz_X1_isMissing (b : Nat) (σ : Mem) : f_X1_isMissing b σ = 0 ∨ f_X1_isMissing b σ = 1 := by
  unfold f_X1_isMissing
  repeat' split
  all_goals first | exact Or.inl rfl | exact Or.inr rfl
set_option maxHeartbeats 4000000 in
set_option maxRecDepth 100000 in
theorem k_X1_isMissing (l : Launch) (G : GG) (a : Nat → Nat) (σ : Mem) (hj : INJ nR a) (b : Nat) (hb0 : isS b) : Met l yX1_isMissing (Cond.code yX1_isMissing cX1_isMissing 1 (some .boolean) :: TB) ({ frames := 0, cells := 0, slots := 0, locals := 0 } : Room) (PA G kR nR a σ [.ref (a b)]) (SI (f_X1_isMissing b σ)) 0 0 NF := by
  generalize h : f_X1_isMissing b σ = q
  refine M_ofW (by decide) hj kR_lt (Nat.le_of_ble_eq_true rfl) (fun p e s m below meth c ls C0 hb hml hr hlk hP hS hl => ?_)
  have C0 : CT p s _ m RX1 G kR nR a := C0
  have hx := C0.1
  have hts := C0.2.1
  have hown := C0.2.2.1
  have hl : lv_has ls 1 [(0, .ref (a b))] := hl
  unfold f_X1_isMissing at h
  refine lv_aload_n hx hb dX1_isMissing_0 rfl (lv_at hl 0 rfl) ?_
  refine gf_X1_15 (o := b) C0 hb hP (isS_k hb0) dX1_isMissing_1 ?_
  refine lv_if_ne (tgt := 11) hx hb dX1_isMissing_4 (by decide) (fun (c_1 : ¬ (σ b 1) = 0) => ?_) (fun (c_1 : (σ b 1) = 0) => ?_)
  · rw [if_neg c_1] at h
    refine lv_iconst (v := 0) hx hb dX1_isMissing_11 (by decide) ?_
    exact m_sz hx hb hr hlk (Or.inl rfl) h dX1_isMissing_12
  · rw [if_pos c_1] at h
    refine lv_iconst (v := 1) hx hb dX1_isMissing_7 (by decide) ?_
    refine lv_goto (tgt := 12) hx hb dX1_isMissing_8 (by decide) ?_
    exact m_sz hx hb hr hlk (Or.inr rfl) h dX1_isMissing_12
def f_X5_sheetTrouble (x1 : Int32) (σ : Mem) : Option (Int32) := (if (f_X5_outside x1 3) = 0 then (chk x1 4 (if (f_X1_isMissing (63 + 2 * x1.toNatClampNeg) σ) = 0 then some 0 else some (-1000006))) else some (-1000001))
set_option maxHeartbeats 4000000 in
set_option maxRecDepth 100000 in
theorem k_X5_sheetTrouble (l : Launch) (G : GG) (a : Nat → Nat) (σ : Mem) (hj : INJ nR a) (x1 : Int32) (q : Int32) (h : f_X5_sheetTrouble x1 σ = some q) : Met l yX5_sheetTrouble (Cond.code yX5_sheetTrouble cX5_sheetTrouble 2 (some .int) :: TB) ({ frames := 1, cells := 0, slots := 0, locals := 21 } : Room) (PA G kR nR a σ [.ref (a 0), .int x1]) (SI q) 0 0 NF := by
  refine M_ofW (by decide) hj kR_lt (Nat.le_of_ble_eq_true rfl) (fun p e s m below meth c ls C0 hb hml hr hlk hP hS hl => ?_)
  have C0 : CT p s _ m RX5 G kR nR a := C0
  have hx := C0.1
  have hts := C0.2.1
  have hown := C0.2.2.1
  have hl : lv_has ls 2 [(0, .ref (a 0)), (1, .int x1)] := hl
  unfold f_X5_sheetTrouble at h
  refine lv_iload_n hx hb dX5_sheetTrouble_0 rfl (lv_at hl 1 rfl) ?_
  refine lv_iconst (v := 3) hx hb dX5_sheetTrouble_1 (by decide) ?_
  refine m_pSi (As := [.int x1, .int 3]) (rest := []) C0.z hb hml hl.1 wm_X5_50 md_X5_outside (k_X5_outside l x1 3) rfl rfl ⟨(Nat.le_of_ble_eq_true rfl), (Nat.le_of_ble_eq_true rfl)⟩ rfl rfl (Nat.le_of_ble_eq_true rfl) dX5_sheetTrouble_2 ?_
  refine lv_if_eq (tgt := 11) hx hb dX5_sheetTrouble_5 (by decide) (fun (c_1 : (f_X5_outside x1 3) = 0) => ?_) (fun (c_1 : ¬ (f_X5_outside x1 3) = 0) => ?_)
  · rw [if_pos c_1] at h
    refine lv_aload_n hx hb dX5_sheetTrouble_11 rfl (lv_at hl 0 rfl) ?_
    refine gf_X5_32 (o := 0) (o2 := 62) C0 hb hP (rfl : kR 0 = 5) rfl dX5_sheetTrouble_12 ?_
    refine lv_iload_n hx hb dX5_sheetTrouble_15 rfl (lv_at hl 1 rfl) ?_
    obtain ⟨hi_2, h⟩ := chk_s h
    refine m_aldS (o := 62) (i := x1) (o2 := (63 + 2 * x1.toNatClampNeg)) C0 hb hP (rfl : kR 62 = 51) hi_2 rfl dX5_sheetTrouble_16 ?_
    refine m_rVi (As := []) (rest := []) (o := (63 + 2 * x1.toNatClampNeg)) (ci := 1) C0 hb hml hl.1 wm_X5_266 md_X1_isMissing (k_X1_isMissing l G a σ hj (63 + 2 * x1.toNatClampNeg) (isS_at (vp_lt hi_2))) rfl rfl ⟨(Nat.le_of_ble_eq_true rfl), (Nat.le_of_ble_eq_true rfl)⟩ hP hS (isS_k (isS_at (vp_lt hi_2))) (by decide) rfl rfl rfl (Nat.le_of_ble_eq_true rfl) dX5_sheetTrouble_17 ?_
    refine lv_if_eq (tgt := 28) hx hb dX5_sheetTrouble_20 (by decide) (fun (c_3 : (f_X1_isMissing (63 + 2 * x1.toNatClampNeg) σ) = 0) => ?_) (fun (c_3 : ¬ (f_X1_isMissing (63 + 2 * x1.toNatClampNeg) σ) = 0) => ?_)
    · rw [if_pos c_3] at h
      refine lv_iconst (v := 0) hx hb dX5_sheetTrouble_28 (by decide) ?_
      exact m_si hx hb hr hlk (Option.some.inj h) dX5_sheetTrouble_29
    · rw [if_neg c_3] at h
      refine lv_ldc hx hb hown (hts _ wk_X5_251) dX5_sheetTrouble_23 ?_
      refine lv_goto (tgt := 29) hx hb dX5_sheetTrouble_25 (by decide) ?_
      exact m_si hx hb hr hlk (Option.some.inj h) dX5_sheetTrouble_29
  · rw [if_neg c_1] at h
    refine lv_ldc hx hb hown (hts _ wk_X5_54) dX5_sheetTrouble_8 ?_
    exact m_si hx hb hr hlk (Option.some.inj h) dX5_sheetTrouble_10
def f_X5_fittingTrouble (x1 : Int32) (x2 : Int32) (x3 : Int32) (σ : Mem) : Option (Int32) := ((f_X5_sheetTrouble x1 σ).bind fun q_1 => (if q_1 = 0 then (if (f_X5_outside x2 7) = 0 then (if (f_X5_outside x3 11) = 0 then some 0 else some (-1000001)) else some (-1000001)) else some q_1))
set_option maxHeartbeats 4000000 in
set_option maxRecDepth 100000 in
theorem k_X5_fittingTrouble (l : Launch) (G : GG) (a : Nat → Nat) (σ : Mem) (hj : INJ nR a) (x1 : Int32) (x2 : Int32) (x3 : Int32) (q : Int32) (h : f_X5_fittingTrouble x1 x2 x3 σ = some q) : Met l yX5_fittingTrouble (Cond.code yX5_fittingTrouble cX5_fittingTrouble 5 (some .int) :: TB) ({ frames := 2, cells := 0, slots := 0, locals := 42 } : Room) (PA G kR nR a σ [.ref (a 0), .int x1, .int x2, .int x3]) (SI q) 0 0 NF := by
  refine M_ofW (by decide) hj kR_lt (Nat.le_of_ble_eq_true rfl) (fun p e s m below meth c ls C0 hb hml hr hlk hP hS hl => ?_)
  have C0 : CT p s _ m RX5 G kR nR a := C0
  have hx := C0.1
  have hts := C0.2.1
  have hown := C0.2.2.1
  have hl : lv_has ls 5 [(0, .ref (a 0)), (1, .int x1), (2, .int x2), (3, .int x3)] := hl
  unfold f_X5_fittingTrouble at h
  refine lv_aload_n hx hb dX5_fittingTrouble_0 rfl (lv_at hl 0 rfl) ?_
  refine lv_iload_n hx hb dX5_fittingTrouble_1 rfl (lv_at hl 1 rfl) ?_
  obtain ⟨q_1, hq_2, h⟩ := bd_s h
  refine m_rVi (As := [.int x1]) (rest := []) (o := 0) (ci := 5) C0 hb hml hl.1 wm_X5_209 md_X5_sheetTrouble (k_X5_sheetTrouble l G a σ hj x1 q_1 hq_2) rfl rfl ⟨(Nat.le_of_ble_eq_true rfl), (Nat.le_of_ble_eq_true rfl)⟩ hP hS (rfl : kR 0 = 5) (by decide) rfl rfl rfl (Nat.le_of_ble_eq_true rfl) dX5_fittingTrouble_2 ?_
  refine lv_istore (lv' := [(4, .int q_1), (0, .ref (a 0)), (1, .int x1), (2, .int x2), (3, .int x3)]) hx hb dX5_fittingTrouble_5 hl (by decide) rfl (fun ls hl => ?_)
  refine lv_iload hx hb dX5_fittingTrouble_7 (lv_at hl 0 rfl) ?_
  refine lv_if_eq (tgt := 15) hx hb dX5_fittingTrouble_9 (by decide) (fun (c_3 : q_1 = 0) => ?_) (fun (c_3 : ¬ q_1 = 0) => ?_)
  · rw [if_pos c_3] at h
    refine lv_iload_n hx hb dX5_fittingTrouble_15 rfl (lv_at hl 3 rfl) ?_
    refine lv_bipush (v := 7) hx hb dX5_fittingTrouble_16 (by decide) ?_
    refine m_pSi (As := [.int x2, .int 7]) (rest := []) C0.z hb hml hl.1 wm_X5_50 md_X5_outside (k_X5_outside l x2 7) rfl rfl ⟨(Nat.le_of_ble_eq_true rfl), (Nat.le_of_ble_eq_true rfl)⟩ rfl rfl (Nat.le_of_ble_eq_true rfl) dX5_fittingTrouble_18 ?_
    refine lv_if_ne (tgt := 33) hx hb dX5_fittingTrouble_21 (by decide) (fun (c_4 : ¬ (f_X5_outside x2 7) = 0) => ?_) (fun (c_4 : (f_X5_outside x2 7) = 0) => ?_)
    · rw [if_neg c_4] at h
      refine lv_ldc hx hb hown (hts _ wk_X5_54) dX5_fittingTrouble_33 ?_
      refine lv_goto (tgt := 39) hx hb dX5_fittingTrouble_35 (by decide) ?_
      exact m_si hx hb hr hlk (Option.some.inj h) dX5_fittingTrouble_39
    · rw [if_pos c_4] at h
      refine lv_iload_n hx hb dX5_fittingTrouble_24 rfl (lv_at hl 4 rfl) ?_
      refine lv_bipush (v := 11) hx hb dX5_fittingTrouble_25 (by decide) ?_
      refine m_pSi (As := [.int x3, .int 11]) (rest := []) C0.z hb hml hl.1 wm_X5_50 md_X5_outside (k_X5_outside l x3 11) rfl rfl ⟨(Nat.le_of_ble_eq_true rfl), (Nat.le_of_ble_eq_true rfl)⟩ rfl rfl (Nat.le_of_ble_eq_true rfl) dX5_fittingTrouble_27 ?_
      refine lv_if_eq (tgt := 38) hx hb dX5_fittingTrouble_30 (by decide) (fun (c_5 : (f_X5_outside x3 11) = 0) => ?_) (fun (c_5 : ¬ (f_X5_outside x3 11) = 0) => ?_)
      · rw [if_pos c_5] at h
        refine lv_iconst (v := 0) hx hb dX5_fittingTrouble_38 (by decide) ?_
        exact m_si hx hb hr hlk (Option.some.inj h) dX5_fittingTrouble_39
      · rw [if_neg c_5] at h
        refine lv_ldc hx hb hown (hts _ wk_X5_54) dX5_fittingTrouble_33 ?_
        refine lv_goto (tgt := 39) hx hb dX5_fittingTrouble_35 (by decide) ?_
        exact m_si hx hb hr hlk (Option.some.inj h) dX5_fittingTrouble_39
  · rw [if_neg c_3] at h
    refine lv_iload hx hb dX5_fittingTrouble_12 (lv_at hl 0 rfl) ?_
    exact m_si hx hb hr hlk (Option.some.inj h) dX5_fittingTrouble_14
def f_X5_fits_J54 (x6_5 : Int32) (rec27 : Int32 → Int32 → Mem → Option (Int32 × Mem)) (q_9 : Int32 × Mem) (x5_11 : Int32) : Option (Int32 × Mem) := (rec27 x5_11 (x6_5 + 1) q_9.2)
def f_X5_fits_B27 (x1 : Int32) (x2 : Int32) (x3 : Int32) (rec27 : Int32 → Int32 → Mem → Option (Int32 × Mem)) (x5_4 : Int32) (x6_5 : Int32) (σ_6 : Mem) : Option (Int32 × Mem) := (if 99 < x6_5 then some (x5_4, σ_6) else (chk x1 4 ((f_X5_couldBeOpened x6_5 (63 + 2 * x1.toNatClampNeg) x2 x3 σ_6).bind fun q_9 => (f_X5_fits_J54 x6_5 rec27 q_9 (if q_9.1 = 0 then x5_4 else x5_4 + 1)))))
def f_X5_fits (x1 : Int32) (x2 : Int32) (x3 : Int32) (σ : Mem) : Option (Int32 × Mem) := ((f_X5_fittingTrouble x1 x2 x3 σ).bind fun q_1 => (if q_1 = 0 then (it3 (f_X5_fits_B27 x1 x2 x3) FU 0 0 σ) else ((f_X5_finding q_1 σ).bind fun q_15 => some (q_15.1, q_15.2))))
set_option maxHeartbeats 4000000 in
set_option maxRecDepth 100000 in
theorem k_X5_fits (l : Launch) (G : GG) (a : Nat → Nat) (σ : Mem) (hj : INJ nR a) (x1 : Int32) (x2 : Int32) (x3 : Int32) (q : Int32 × Mem) (h : f_X5_fits x1 x2 x3 σ = some q) : Met l yX5_fits (Cond.code yX5_fits cX5_fits 7 (some .int) :: TB) ({ frames := 4, cells := 0, slots := 0, locals := 97 } : Room) (PA G kR nR a σ [.ref (a 0), .int x1, .int x2, .int x3]) (QI G kR nR a q) 0 0 (AW nR a) := by
  refine M_ofW (by decide) hj kR_lt (Nat.le_of_ble_eq_true rfl) (fun p e s m below meth c ls C0 hb hml hr hlk hP hS hl => ?_)
  have C0 : CT p s _ m RX5 G kR nR a := C0
  have hx := C0.1
  have hts := C0.2.1
  have hown := C0.2.2.1
  have hl : lv_has ls 7 [(0, .ref (a 0)), (1, .int x1), (2, .int x2), (3, .int x3)] := hl
  unfold f_X5_fits at h
  refine lv_aload_n hx hb dX5_fits_0 rfl (lv_at hl 0 rfl) ?_
  refine lv_iload_n hx hb dX5_fits_1 rfl (lv_at hl 1 rfl) ?_
  refine lv_iload_n hx hb dX5_fits_2 rfl (lv_at hl 2 rfl) ?_
  refine lv_iload_n hx hb dX5_fits_3 rfl (lv_at hl 3 rfl) ?_
  obtain ⟨q_1, hq_2, h⟩ := bd_s h
  refine m_rVi (As := [.int x1, .int x2, .int x3]) (rest := []) (o := 0) (ci := 5) C0 hb hml hl.1 wm_X5_202 md_X5_fittingTrouble (k_X5_fittingTrouble l G a σ hj x1 x2 x3 q_1 hq_2) rfl rfl ⟨(Nat.le_of_ble_eq_true rfl), (Nat.le_of_ble_eq_true rfl)⟩ hP hS (rfl : kR 0 = 5) (by decide) rfl rfl rfl (Nat.le_of_ble_eq_true rfl) dX5_fits_4 ?_
  refine lv_istore (lv' := [(4, .int q_1), (0, .ref (a 0)), (1, .int x1), (2, .int x2), (3, .int x3)]) hx hb dX5_fits_7 hl (by decide) rfl (fun ls hl => ?_)
  refine lv_iload hx hb dX5_fits_9 (lv_at hl 0 rfl) ?_
  refine lv_if_eq (tgt := 21) hx hb dX5_fits_11 (by decide) (fun (c_3 : q_1 = 0) => ?_) (fun (c_3 : ¬ q_1 = 0) => ?_)
  · rw [if_pos c_3] at h
    refine lv_iconst (v := 0) hx hb dX5_fits_21 (by decide) ?_
    refine lv_istore (lv' := [(5, .int 0), (4, .int q_1), (0, .ref (a 0)), (1, .int x1), (2, .int x2), (3, .int x3)]) hx hb dX5_fits_22 hl (by decide) rfl (fun ls hl => ?_)
    refine lv_iconst (v := 0) hx hb dX5_fits_24 (by decide) ?_
    refine lv_istore (lv' := [(6, .int 0), (5, .int 0), (4, .int q_1), (0, .ref (a 0)), (1, .int x1), (2, .int x2), (3, .int x3)]) hx hb dX5_fits_25 hl (by decide) rfl (fun ls hl => ?_)
    have L_14 : ∀ (fu27 : Nat) (x5_4 : Int32) (x6_5 : Int32) (σ_6 : Mem) (H : Heap) (locs : List Loc) (ls : Array Slot), it3 (f_X5_fits_B27 x1 x2 x3) fu27 x5_4 x6_5 σ_6 = some q → HP G kR nR a σ_6 H → va_S (AW nR a) s.heap H locs → lv_has ls 7 [(6, .int x6_5), (5, .int x5_4), (0, .ref (a 0)), (1, .int x1), (2, .int x2), (3, .int x3)] → W p l e ({ frames := 4, cells := 0, slots := 0, locals := 97 } : Room) s m ([.ref (a 0), .int x1, .int x2, .int x3] : List Value).toArray below meth c H locs 0 0 (MQ below (QI G kR nR a q) ([.ref (a 0), .int x1, .int x2, .int x3] : List Value).toArray s 0 0 (AW nR a)) (F0 m 27 ls []) := by
      intro fu27
      induction fu27 with
      | zero =>
        intro x5_4 x6_5 σ_6 H locs ls h
        cases h
      | succ fu27 ih27 =>
        intro x5_4 x6_5 σ_6 H locs ls h hP hS hl
        replace h : (f_X5_fits_B27 x1 x2 x3) (it3 (f_X5_fits_B27 x1 x2 x3) fu27) x5_4 x6_5 σ_6 = some q := h
        generalize it3 (f_X5_fits_B27 x1 x2 x3) fu27 = rec27 at h ih27
        unfold f_X5_fits_B27 at h
        refine lv_iload hx hb dX5_fits_27 (lv_at hl 0 rfl) ?_
        refine lv_bipush (v := 99) hx hb dX5_fits_29 (by decide) ?_
        refine lv_icmp_gt (tgt := 60) hx hb dX5_fits_31 (by decide) (fun (c_7 : 99 < x6_5) => ?_) (fun (c_7 : ¬ 99 < x6_5) => ?_)
        · rw [if_pos c_7] at h
          refine lv_iload hx hb dX5_fits_60 (lv_at hl 1 rfl) ?_
          exact m_ri hx hb hr hlk hP hS (Option.some.inj h) dX5_fits_62
        · rw [if_neg c_7] at h
          refine lv_aload_n hx hb dX5_fits_34 rfl (lv_at hl 2 rfl) ?_
          refine lv_iload hx hb dX5_fits_35 (lv_at hl 0 rfl) ?_
          refine lv_aload_n hx hb dX5_fits_37 rfl (lv_at hl 2 rfl) ?_
          refine gf_X5_32 (o := 0) (o2 := 62) C0 hb hP (rfl : kR 0 = 5) rfl dX5_fits_38 ?_
          refine lv_iload_n hx hb dX5_fits_41 rfl (lv_at hl 3 rfl) ?_
          obtain ⟨hi_8, h⟩ := chk_s h
          refine m_aldS (o := 62) (i := x1) (o2 := (63 + 2 * x1.toNatClampNeg)) C0 hb hP (rfl : kR 62 = 51) hi_8 rfl dX5_fits_42 ?_
          refine lv_iload_n hx hb dX5_fits_43 rfl (lv_at hl 4 rfl) ?_
          refine lv_iload_n hx hb dX5_fits_44 rfl (lv_at hl 5 rfl) ?_
          obtain ⟨q_9, hq_10, h⟩ := bd_s h
          refine m_cVi (As := [.int x6_5, .ref (a (63 + 2 * x1.toNatClampNeg)), .int x2, .int x3]) (rest := []) (o := 0) (ci := 5) C0 hb hml hl.1 wm_X5_205 md_X5_couldBeOpened (k_X5_couldBeOpened l G a σ_6 hj x6_5 (63 + 2 * x1.toNatClampNeg) (isS_at (vp_lt hi_8)) x2 x3 q_9 hq_10) rfl rfl ⟨(Nat.le_of_ble_eq_true rfl), (Nat.le_of_ble_eq_true rfl)⟩ hP hS (rfl : kR 0 = 5) (by decide) rfl rfl rfl (Nat.le_of_ble_eq_true rfl) dX5_fits_45 (fun H locs hP hS => ?_)
          have J_12 : ∀ (x5_11 : Int32) (H : Heap) (locs : List Loc) (ls : Array Slot), f_X5_fits_J54 x6_5 rec27 q_9 x5_11 = some q → HP G kR nR a q_9.2 H → va_S (AW nR a) s.heap H locs → lv_has ls 7 [(6, .int x6_5), (5, .int x5_11), (0, .ref (a 0)), (1, .int x1), (2, .int x2), (3, .int x3)] → W p l e ({ frames := 4, cells := 0, slots := 0, locals := 97 } : Room) s m ([.ref (a 0), .int x1, .int x2, .int x3] : List Value).toArray below meth c H locs 0 0 (MQ below (QI G kR nR a q) ([.ref (a 0), .int x1, .int x2, .int x3] : List Value).toArray s 0 0 (AW nR a)) (F0 m 54 ls []) := by
            intro x5_11 H locs ls h hP hS hl
            unfold f_X5_fits_J54 at h
            refine lv_iinc (v := x6_5 + 1) (lv' := [(6, .int (x6_5 + 1)), (5, .int x5_11), (0, .ref (a 0)), (1, .int x1), (2, .int x2), (3, .int x3)]) hx hb dX5_fits_54 hl (k := 0) rfl rfl (by decide) rfl (fun ls hl => ?_)
            refine lv_goto (tgt := 27) hx hb dX5_fits_57 (by decide) ?_
            exact ih27 x5_11 (x6_5 + 1) q_9.2 _ _ _ h hP hS (lv_sub hl [0, 1, 2, 3, 4, 5] rfl)
          refine lv_if_eq (tgt := 54) hx hb dX5_fits_48 (by decide) (fun (c_13 : q_9.1 = 0) => ?_) (fun (c_13 : ¬ q_9.1 = 0) => ?_)
          · rw [if_pos c_13] at h
            exact J_12 x5_4 _ _ _ h hP hS (lv_sub hl [0, 1, 2, 3, 4, 5] rfl)
          · rw [if_neg c_13] at h
            refine lv_iinc (v := x5_4 + 1) (lv' := [(5, .int (x5_4 + 1)), (6, .int x6_5), (0, .ref (a 0)), (1, .int x1), (2, .int x2), (3, .int x3)]) hx hb dX5_fits_51 hl (k := 1) rfl rfl (by decide) rfl (fun ls hl => ?_)
            exact J_12 (x5_4 + 1) _ _ _ h hP hS (lv_sub hl [1, 0, 2, 3, 4, 5] rfl)
    exact L_14 FU 0 0 σ _ _ _ h hP hS (lv_sub hl [0, 1, 3, 4, 5, 6] rfl)
  · rw [if_neg c_3] at h
    refine lv_aload_n hx hb dX5_fits_14 rfl (lv_at hl 1 rfl) ?_
    refine lv_iload hx hb dX5_fits_15 (lv_at hl 0 rfl) ?_
    obtain ⟨q_15, hq_16, h⟩ := bd_s h
    refine m_cVi (As := [.int q_1]) (rest := []) (o := 0) (ci := 5) C0 hb hml hl.1 wm_X5_55 md_X5_finding (k_X5_finding l G a σ hj q_1 q_15 hq_16) rfl rfl ⟨(Nat.le_of_ble_eq_true rfl), (Nat.le_of_ble_eq_true rfl)⟩ hP hS (rfl : kR 0 = 5) (by decide) rfl rfl rfl (Nat.le_of_ble_eq_true rfl) dX5_fits_17 (fun H locs hP hS => ?_)
    exact m_ri hx hb hr hlk hP hS (Option.some.inj h) dX5_fits_20
def f_X5_opened_B24 (x1 : Int32) (x2 : Int32) (x3 : Int32) (rec24 : Int32 → Mem → Option (Int32 × Mem)) (x5_4 : Int32) (σ_5 : Mem) : Option (Int32 × Mem) := (if 99 < x5_4 then ((f_X5_finding (-1000004) σ_5).bind fun q_7 => some (q_7.1, q_7.2)) else (chk x1 4 ((f_X5_couldBeOpened x5_4 (63 + 2 * x1.toNatClampNeg) x2 x3 σ_5).bind fun q_10 => (if q_10.1 = 0 then (rec24 (x5_4 + 1) q_10.2) else some (x5_4, q_10.2)))))
def f_X5_opened (x1 : Int32) (x2 : Int32) (x3 : Int32) (σ : Mem) : Option (Int32 × Mem) := ((f_X5_fittingTrouble x1 x2 x3 σ).bind fun q_1 => (if q_1 = 0 then (it2 (f_X5_opened_B24 x1 x2 x3) FU 0 σ) else ((f_X5_finding q_1 σ).bind fun q_14 => some (q_14.1, q_14.2))))
set_option maxHeartbeats 4000000 in
set_option maxRecDepth 100000 in
theorem k_X5_opened (l : Launch) (G : GG) (a : Nat → Nat) (σ : Mem) (hj : INJ nR a) (x1 : Int32) (x2 : Int32) (x3 : Int32) (q : Int32 × Mem) (h : f_X5_opened x1 x2 x3 σ = some q) : Met l yX5_opened (Cond.code yX5_opened cX5_opened 6 (some .int) :: TB) ({ frames := 4, cells := 0, slots := 0, locals := 97 } : Room) (PA G kR nR a σ [.ref (a 0), .int x1, .int x2, .int x3]) (QI G kR nR a q) 0 0 (AW nR a) := by
  refine M_ofW (by decide) hj kR_lt (Nat.le_of_ble_eq_true rfl) (fun p e s m below meth c ls C0 hb hml hr hlk hP hS hl => ?_)
  have C0 : CT p s _ m RX5 G kR nR a := C0
  have hx := C0.1
  have hts := C0.2.1
  have hown := C0.2.2.1
  have hl : lv_has ls 6 [(0, .ref (a 0)), (1, .int x1), (2, .int x2), (3, .int x3)] := hl
  unfold f_X5_opened at h
  refine lv_aload_n hx hb dX5_opened_0 rfl (lv_at hl 0 rfl) ?_
  refine lv_iload_n hx hb dX5_opened_1 rfl (lv_at hl 1 rfl) ?_
  refine lv_iload_n hx hb dX5_opened_2 rfl (lv_at hl 2 rfl) ?_
  refine lv_iload_n hx hb dX5_opened_3 rfl (lv_at hl 3 rfl) ?_
  obtain ⟨q_1, hq_2, h⟩ := bd_s h
  refine m_rVi (As := [.int x1, .int x2, .int x3]) (rest := []) (o := 0) (ci := 5) C0 hb hml hl.1 wm_X5_202 md_X5_fittingTrouble (k_X5_fittingTrouble l G a σ hj x1 x2 x3 q_1 hq_2) rfl rfl ⟨(Nat.le_of_ble_eq_true rfl), (Nat.le_of_ble_eq_true rfl)⟩ hP hS (rfl : kR 0 = 5) (by decide) rfl rfl rfl (Nat.le_of_ble_eq_true rfl) dX5_opened_4 ?_
  refine lv_istore (lv' := [(4, .int q_1), (0, .ref (a 0)), (1, .int x1), (2, .int x2), (3, .int x3)]) hx hb dX5_opened_7 hl (by decide) rfl (fun ls hl => ?_)
  refine lv_iload hx hb dX5_opened_9 (lv_at hl 0 rfl) ?_
  refine lv_if_eq (tgt := 21) hx hb dX5_opened_11 (by decide) (fun (c_3 : q_1 = 0) => ?_) (fun (c_3 : ¬ q_1 = 0) => ?_)
  · rw [if_pos c_3] at h
    refine lv_iconst (v := 0) hx hb dX5_opened_21 (by decide) ?_
    refine lv_istore (lv' := [(5, .int 0), (4, .int q_1), (0, .ref (a 0)), (1, .int x1), (2, .int x2), (3, .int x3)]) hx hb dX5_opened_22 hl (by decide) rfl (fun ls hl => ?_)
    have L_13 : ∀ (fu24 : Nat) (x5_4 : Int32) (σ_5 : Mem) (H : Heap) (locs : List Loc) (ls : Array Slot), it2 (f_X5_opened_B24 x1 x2 x3) fu24 x5_4 σ_5 = some q → HP G kR nR a σ_5 H → va_S (AW nR a) s.heap H locs → lv_has ls 6 [(5, .int x5_4), (0, .ref (a 0)), (1, .int x1), (2, .int x2), (3, .int x3)] → W p l e ({ frames := 4, cells := 0, slots := 0, locals := 97 } : Room) s m ([.ref (a 0), .int x1, .int x2, .int x3] : List Value).toArray below meth c H locs 0 0 (MQ below (QI G kR nR a q) ([.ref (a 0), .int x1, .int x2, .int x3] : List Value).toArray s 0 0 (AW nR a)) (F0 m 24 ls []) := by
      intro fu24
      induction fu24 with
      | zero =>
        intro x5_4 σ_5 H locs ls h
        cases h
      | succ fu24 ih24 =>
        intro x5_4 σ_5 H locs ls h hP hS hl
        replace h : (f_X5_opened_B24 x1 x2 x3) (it2 (f_X5_opened_B24 x1 x2 x3) fu24) x5_4 σ_5 = some q := h
        generalize it2 (f_X5_opened_B24 x1 x2 x3) fu24 = rec24 at h ih24
        unfold f_X5_opened_B24 at h
        refine lv_iload hx hb dX5_opened_24 (lv_at hl 0 rfl) ?_
        refine lv_bipush (v := 99) hx hb dX5_opened_26 (by decide) ?_
        refine lv_icmp_gt (tgt := 57) hx hb dX5_opened_28 (by decide) (fun (c_6 : 99 < x5_4) => ?_) (fun (c_6 : ¬ 99 < x5_4) => ?_)
        · rw [if_pos c_6] at h
          refine lv_aload_n hx hb dX5_opened_57 rfl (lv_at hl 1 rfl) ?_
          refine lv_ldc hx hb hown (hts _ wk_X5_166) dX5_opened_58 ?_
          obtain ⟨q_7, hq_8, h⟩ := bd_s h
          refine m_cVi (As := [.int (-1000004)]) (rest := []) (o := 0) (ci := 5) C0 hb hml hl.1 wm_X5_55 md_X5_finding (k_X5_finding l G a σ_5 hj (-1000004) q_7 hq_8) rfl rfl ⟨(Nat.le_of_ble_eq_true rfl), (Nat.le_of_ble_eq_true rfl)⟩ hP hS (rfl : kR 0 = 5) (by decide) rfl rfl rfl (Nat.le_of_ble_eq_true rfl) dX5_opened_60 (fun H locs hP hS => ?_)
          exact m_ri hx hb hr hlk hP hS (Option.some.inj h) dX5_opened_63
        · rw [if_neg c_6] at h
          refine lv_aload_n hx hb dX5_opened_31 rfl (lv_at hl 1 rfl) ?_
          refine lv_iload hx hb dX5_opened_32 (lv_at hl 0 rfl) ?_
          refine lv_aload_n hx hb dX5_opened_34 rfl (lv_at hl 1 rfl) ?_
          refine gf_X5_32 (o := 0) (o2 := 62) C0 hb hP (rfl : kR 0 = 5) rfl dX5_opened_35 ?_
          refine lv_iload_n hx hb dX5_opened_38 rfl (lv_at hl 2 rfl) ?_
          obtain ⟨hi_9, h⟩ := chk_s h
          refine m_aldS (o := 62) (i := x1) (o2 := (63 + 2 * x1.toNatClampNeg)) C0 hb hP (rfl : kR 62 = 51) hi_9 rfl dX5_opened_39 ?_
          refine lv_iload_n hx hb dX5_opened_40 rfl (lv_at hl 3 rfl) ?_
          refine lv_iload_n hx hb dX5_opened_41 rfl (lv_at hl 4 rfl) ?_
          obtain ⟨q_10, hq_11, h⟩ := bd_s h
          refine m_cVi (As := [.int x5_4, .ref (a (63 + 2 * x1.toNatClampNeg)), .int x2, .int x3]) (rest := []) (o := 0) (ci := 5) C0 hb hml hl.1 wm_X5_205 md_X5_couldBeOpened (k_X5_couldBeOpened l G a σ_5 hj x5_4 (63 + 2 * x1.toNatClampNeg) (isS_at (vp_lt hi_9)) x2 x3 q_10 hq_11) rfl rfl ⟨(Nat.le_of_ble_eq_true rfl), (Nat.le_of_ble_eq_true rfl)⟩ hP hS (rfl : kR 0 = 5) (by decide) rfl rfl rfl (Nat.le_of_ble_eq_true rfl) dX5_opened_42 (fun H locs hP hS => ?_)
          refine lv_if_eq (tgt := 51) hx hb dX5_opened_45 (by decide) (fun (c_12 : q_10.1 = 0) => ?_) (fun (c_12 : ¬ q_10.1 = 0) => ?_)
          · rw [if_pos c_12] at h
            refine lv_iinc (v := x5_4 + 1) (lv' := [(5, .int (x5_4 + 1)), (0, .ref (a 0)), (1, .int x1), (2, .int x2), (3, .int x3)]) hx hb dX5_opened_51 hl (k := 0) rfl rfl (by decide) rfl (fun ls hl => ?_)
            refine lv_goto (tgt := 24) hx hb dX5_opened_54 (by decide) ?_
            exact ih24 (x5_4 + 1) q_10.2 _ _ _ h hP hS (lv_sub hl [0, 1, 2, 3, 4] rfl)
          · rw [if_neg c_12] at h
            refine lv_iload hx hb dX5_opened_48 (lv_at hl 0 rfl) ?_
            exact m_ri hx hb hr hlk hP hS (Option.some.inj h) dX5_opened_50
    exact L_13 FU 0 σ _ _ _ h hP hS (lv_sub hl [0, 2, 3, 4, 5] rfl)
  · rw [if_neg c_3] at h
    refine lv_aload_n hx hb dX5_opened_14 rfl (lv_at hl 1 rfl) ?_
    refine lv_iload hx hb dX5_opened_15 (lv_at hl 0 rfl) ?_
    obtain ⟨q_14, hq_15, h⟩ := bd_s h
    refine m_cVi (As := [.int q_1]) (rest := []) (o := 0) (ci := 5) C0 hb hml hl.1 wm_X5_55 md_X5_finding (k_X5_finding l G a σ hj q_1 q_14 hq_15) rfl rfl ⟨(Nat.le_of_ble_eq_true rfl), (Nat.le_of_ble_eq_true rfl)⟩ hP hS (rfl : kR 0 = 5) (by decide) rfl rfl rfl (Nat.le_of_ble_eq_true rfl) dX5_opened_17 (fun H locs hP hS => ?_)
    exact m_ri hx hb hr hlk hP hS (Option.some.inj h) dX5_opened_20
def f_X5_couldBeOfKind_B27 (c2 : Nat) (x3 : Int32) (rec27 : Int32 → Mem → Option (Int32 × Mem)) (x4_4 : Int32) (σ_5 : Mem) : Option (Int32 × Mem) := (if (σ_5 c2 2) ≤ x4_4 then some (1, σ_5) else (chk x3 8 ((f_X1_allows c2 x4_4 (σ_5 (38 + x3.toNatClampNeg) 3) σ_5).bind fun q_8 => (if q_8 = 0 then some (0, σ_5) else ((f_X2_pass 31 1 σ_5).bind fun q_11 => (rec27 (x4_4 + 1) q_11))))))
def f_X5_couldBeOfKind (x1 : Int32) (c2 : Nat) (x3 : Int32) (σ : Mem) : Option (Int32 × Mem) := ((f_X2_become 31 1 σ).bind fun q_1 => (chk x3 8 (it2 (f_X5_couldBeOfKind_B27 c2 x3) FU 0 (mst q_1 (38 + x3.toNatClampNeg) 0 x1))))
set_option maxHeartbeats 4000000 in
set_option maxRecDepth 100000 in
theorem k_X5_couldBeOfKind (l : Launch) (G : GG) (a : Nat → Nat) (σ : Mem) (hj : INJ nR a) (x1 : Int32) (c2 : Nat) (hk2 : isS c2) (x3 : Int32) (q : Int32 × Mem) (h : f_X5_couldBeOfKind x1 c2 x3 σ = some q) : Met l yX5_couldBeOfKind (Cond.code yX5_couldBeOfKind cX5_couldBeOfKind 5 (some .boolean) :: TB) ({ frames := 5, cells := 0, slots := 0, locals := 106 } : Room) (PA G kR nR a σ [.ref (a 0), .int x1, .ref (a c2), .int x3]) (QI G kR nR a q) 0 0 (AW nR a) := by
  refine M_ofW (by decide) hj kR_lt (Nat.le_of_ble_eq_true rfl) (fun p e s m below meth c ls C0 hb hml hr hlk hP hS hl => ?_)
  have C0 : CT p s _ m RX5 G kR nR a := C0
  have hx := C0.1
  have hts := C0.2.1
  have hown := C0.2.2.1
  have hl : lv_has ls 5 [(0, .ref (a 0)), (1, .int x1), (2, .ref (a c2)), (3, .int x3)] := hl
  unfold f_X5_couldBeOfKind at h
  refine lv_aload_n hx hb dX5_couldBeOfKind_0 rfl (lv_at hl 0 rfl) ?_
  refine gf_X5_19 (o := 0) (o2 := 31) C0 hb hP (rfl : kR 0 = 5) rfl dX5_couldBeOfKind_1 ?_
  refine lv_aload_n hx hb dX5_couldBeOfKind_4 rfl (lv_at hl 0 rfl) ?_
  refine gf_X5_12 (o := 0) (o2 := 1) C0 hb hP (rfl : kR 0 = 5) rfl dX5_couldBeOfKind_5 ?_
  obtain ⟨q_1, hq_2, h⟩ := bd_s h
  refine m_cVv (As := [.ref (a 1)]) (rest := []) (o := 31) (ci := 2) C0 hb hml hl.1 wm_X5_159 md_X2_become (k_X2_become l G a σ hj 31 v31 1 v1 q_1 hq_2) rfl rfl ⟨(Nat.le_of_ble_eq_true rfl), (Nat.le_of_ble_eq_true rfl)⟩ hP hS (isV_k v31) (by decide) rfl rfl rfl (Nat.le_of_ble_eq_true rfl) dX5_couldBeOfKind_8 (fun H locs hP hS => ?_)
  refine lv_aload_n hx hb dX5_couldBeOfKind_11 rfl (lv_at hl 0 rfl) ?_
  refine gf_X5_19 (o := 0) (o2 := 31) C0 hb hP (rfl : kR 0 = 5) rfl dX5_couldBeOfKind_12 ?_
  refine gf_X5_92 (o := 31) (o2 := 36) C0 hb hP (isV_k v31) rfl dX5_couldBeOfKind_15 ?_
  refine lv_iload_n hx hb dX5_couldBeOfKind_18 rfl (lv_at hl 3 rfl) ?_
  obtain ⟨hi_3, h⟩ := chk_s h
  refine m_aldW (o := 36) (i := x3) (o2 := (38 + x3.toNatClampNeg)) C0 hb hP (isV_a v31) hi_3 rfl dX5_couldBeOfKind_19 ?_
  refine lv_iload_n hx hb dX5_couldBeOfKind_20 rfl (lv_at hl 1 rfl) ?_
  refine pf_X5_96 (o := (38 + x3.toNatClampNeg)) C0 hb hP hS (isV_t v31 (vp_lt hi_3)) dX5_couldBeOfKind_21 (fun H locs hP hS => ?_)
  refine lv_iconst (v := 0) hx hb dX5_couldBeOfKind_24 (by decide) ?_
  refine lv_istore (lv' := [(4, .int 0), (0, .ref (a 0)), (1, .int x1), (2, .ref (a c2)), (3, .int x3)]) hx hb dX5_couldBeOfKind_25 hl (by decide) rfl (fun ls hl => ?_)
  have L_13 : ∀ (fu27 : Nat) (x4_4 : Int32) (σ_5 : Mem) (H : Heap) (locs : List Loc) (ls : Array Slot), it2 (f_X5_couldBeOfKind_B27 c2 x3) fu27 x4_4 σ_5 = some q → HP G kR nR a σ_5 H → va_S (AW nR a) s.heap H locs → lv_has ls 5 [(4, .int x4_4), (0, .ref (a 0)), (2, .ref (a c2)), (3, .int x3)] → W p l e ({ frames := 5, cells := 0, slots := 0, locals := 106 } : Room) s m ([.ref (a 0), .int x1, .ref (a c2), .int x3] : List Value).toArray below meth c H locs 0 0 (MQ below (QI G kR nR a q) ([.ref (a 0), .int x1, .ref (a c2), .int x3] : List Value).toArray s 0 0 (AW nR a)) (F0 m 27 ls []) := by
    intro fu27
    induction fu27 with
    | zero =>
      intro x4_4 σ_5 H locs ls h
      cases h
    | succ fu27 ih27 =>
      intro x4_4 σ_5 H locs ls h hP hS hl
      replace h : (f_X5_couldBeOfKind_B27 c2 x3) (it2 (f_X5_couldBeOfKind_B27 c2 x3) fu27) x4_4 σ_5 = some q := h
      generalize it2 (f_X5_couldBeOfKind_B27 c2 x3) fu27 = rec27 at h ih27
      unfold f_X5_couldBeOfKind_B27 at h
      refine lv_iload hx hb dX5_couldBeOfKind_27 (lv_at hl 0 rfl) ?_
      refine lv_aload_n hx hb dX5_couldBeOfKind_29 rfl (lv_at hl 2 rfl) ?_
      refine gf_X5_261 (o := c2) C0 hb hP (isS_k hk2) dX5_couldBeOfKind_30 ?_
      refine lv_icmp_ge (tgt := 73) hx hb dX5_couldBeOfKind_33 (by decide) (fun (c_6 : (σ_5 c2 2) ≤ x4_4) => ?_) (fun (c_6 : ¬ (σ_5 c2 2) ≤ x4_4) => ?_)
      · rw [if_pos c_6] at h
        refine lv_iconst (v := 1) hx hb dX5_couldBeOfKind_73 (by decide) ?_
        exact m_rz hx hb hr hlk hP hS (Or.inr rfl) (Option.some.inj h) dX5_couldBeOfKind_74
      · rw [if_neg c_6] at h
        refine lv_aload_n hx hb dX5_couldBeOfKind_36 rfl (lv_at hl 2 rfl) ?_
        refine lv_iload hx hb dX5_couldBeOfKind_37 (lv_at hl 0 rfl) ?_
        refine lv_aload_n hx hb dX5_couldBeOfKind_39 rfl (lv_at hl 1 rfl) ?_
        refine gf_X5_19 (o := 0) (o2 := 31) C0 hb hP (rfl : kR 0 = 5) rfl dX5_couldBeOfKind_40 ?_
        refine gf_X5_92 (o := 31) (o2 := 36) C0 hb hP (isV_k v31) rfl dX5_couldBeOfKind_43 ?_
        refine lv_iload_n hx hb dX5_couldBeOfKind_46 rfl (lv_at hl 3 rfl) ?_
        obtain ⟨hi_7, h⟩ := chk_s h
        refine m_aldW (o := 36) (i := x3) (o2 := (38 + x3.toNatClampNeg)) C0 hb hP (isV_a v31) hi_7 rfl dX5_couldBeOfKind_47 ?_
        refine gf_X5_108 (o := (38 + x3.toNatClampNeg)) C0 hb hP (isV_t v31 (vp_lt hi_7)) dX5_couldBeOfKind_48 ?_
        obtain ⟨q_8, hq_9, h⟩ := bd_s h
        refine m_rVi (As := [.int x4_4, .int (σ_5 (38 + x3.toNatClampNeg) 3)]) (rest := []) (o := c2) (ci := 1) C0 hb hml hl.1 wm_X5_303 md_X1_allows (k_X1_allows l G a σ_5 hj c2 hk2 x4_4 (σ_5 (38 + x3.toNatClampNeg) 3) q_8 hq_9) rfl rfl ⟨(Nat.le_of_ble_eq_true rfl), (Nat.le_of_ble_eq_true rfl)⟩ hP hS (isS_k hk2) (by decide) rfl rfl rfl (Nat.le_of_ble_eq_true rfl) dX5_couldBeOfKind_51 ?_
        refine lv_if_ne (tgt := 59) hx hb dX5_couldBeOfKind_54 (by decide) (fun (c_10 : ¬ q_8 = 0) => ?_) (fun (c_10 : q_8 = 0) => ?_)
        · rw [if_neg c_10] at h
          refine lv_aload_n hx hb dX5_couldBeOfKind_59 rfl (lv_at hl 1 rfl) ?_
          refine gf_X5_19 (o := 0) (o2 := 31) C0 hb hP (rfl : kR 0 = 5) rfl dX5_couldBeOfKind_60 ?_
          refine lv_iconst (v := 1) hx hb dX5_couldBeOfKind_63 (by decide) ?_
          obtain ⟨q_11, hq_12, h⟩ := bd_s h
          refine m_cVv (As := [.int 1]) (rest := []) (o := 31) (ci := 2) C0 hb hml hl.1 wm_X5_134 md_X2_pass (k_X2_pass l G a σ_5 hj 31 v31 1 q_11 hq_12) rfl rfl ⟨(Nat.le_of_ble_eq_true rfl), (Nat.le_of_ble_eq_true rfl)⟩ hP hS (isV_k v31) (by decide) rfl rfl rfl (Nat.le_of_ble_eq_true rfl) dX5_couldBeOfKind_64 (fun H locs hP hS => ?_)
          refine lv_iinc (v := x4_4 + 1) (lv' := [(4, .int (x4_4 + 1)), (0, .ref (a 0)), (2, .ref (a c2)), (3, .int x3)]) hx hb dX5_couldBeOfKind_67 hl (k := 0) rfl rfl (by decide) rfl (fun ls hl => ?_)
          refine lv_goto (tgt := 27) hx hb dX5_couldBeOfKind_70 (by decide) ?_
          exact ih27 (x4_4 + 1) q_11 _ _ _ h hP hS (lv_sub hl [0, 1, 2, 3] rfl)
        · rw [if_pos c_10] at h
          refine lv_iconst (v := 0) hx hb dX5_couldBeOfKind_57 (by decide) ?_
          exact m_rz hx hb hr hlk hP hS (Or.inl rfl) (Option.some.inj h) dX5_couldBeOfKind_58
  exact L_13 FU 0 (mst q_1 (38 + x3.toNatClampNeg) 0 x1) _ _ _ h hP hS (lv_sub hl [0, 1, 3, 4] rfl)
def f_X5_kinds_J69 (x5_6 : Int32) (rec37 : Int32 → Int32 → Mem → Option (Int32 × Mem)) (q_10 : Int32 × Mem) (x4_12 : Int32) : Option (Int32 × Mem) := (rec37 x4_12 (x5_6 + 1) q_10.2)
def f_X5_kinds_B37 (x1 : Int32) (x2 : Int32) (rec37 : Int32 → Int32 → Mem → Option (Int32 × Mem)) (x4_5 : Int32) (x5_6 : Int32) (σ_7 : Mem) : Option (Int32 × Mem) := (if 7 ≤ x5_6 then some (x4_5, σ_7) else (chk x1 4 ((f_X5_couldBeOfKind x5_6 (63 + 2 * x1.toNatClampNeg) x2 σ_7).bind fun q_10 => (f_X5_kinds_J69 x5_6 rec37 q_10 (if q_10.1 = 0 then x4_5 else x4_5 ||| (1 <<< (x5_6 &&& 31)))))))
def f_X5_kinds (x1 : Int32) (x2 : Int32) (σ : Mem) : Option (Int32 × Mem) := ((f_X5_sheetTrouble x1 σ).bind fun q_1 => (if q_1 = 0 then (if (f_X5_noWatcher x2 σ) = 0 then (it3 (f_X5_kinds_B37 x1 x2) FU 0 0 σ) else ((f_X5_finding (-1000001) σ).bind fun q_16 => some (q_16.1, q_16.2))) else ((f_X5_finding q_1 σ).bind fun q_18 => some (q_18.1, q_18.2))))
set_option maxHeartbeats 4000000 in
set_option maxRecDepth 100000 in
theorem k_X5_kinds (l : Launch) (G : GG) (a : Nat → Nat) (σ : Mem) (hj : INJ nR a) (x1 : Int32) (x2 : Int32) (q : Int32 × Mem) (h : f_X5_kinds x1 x2 σ = some q) : Met l yX5_kinds (Cond.code yX5_kinds cX5_kinds 6 (some .int) :: TB) ({ frames := 6, cells := 0, slots := 0, locals := 130 } : Room) (PA G kR nR a σ [.ref (a 0), .int x1, .int x2]) (QI G kR nR a q) 0 0 (AW nR a) := by
  refine M_ofW (by decide) hj kR_lt (Nat.le_of_ble_eq_true rfl) (fun p e s m below meth c ls C0 hb hml hr hlk hP hS hl => ?_)
  have C0 : CT p s _ m RX5 G kR nR a := C0
  have hx := C0.1
  have hts := C0.2.1
  have hown := C0.2.2.1
  have hl : lv_has ls 6 [(0, .ref (a 0)), (1, .int x1), (2, .int x2)] := hl
  unfold f_X5_kinds at h
  refine lv_aload_n hx hb dX5_kinds_0 rfl (lv_at hl 0 rfl) ?_
  refine lv_iload_n hx hb dX5_kinds_1 rfl (lv_at hl 1 rfl) ?_
  obtain ⟨q_1, hq_2, h⟩ := bd_s h
  refine m_rVi (As := [.int x1]) (rest := []) (o := 0) (ci := 5) C0 hb hml hl.1 wm_X5_209 md_X5_sheetTrouble (k_X5_sheetTrouble l G a σ hj x1 q_1 hq_2) rfl rfl ⟨(Nat.le_of_ble_eq_true rfl), (Nat.le_of_ble_eq_true rfl)⟩ hP hS (rfl : kR 0 = 5) (by decide) rfl rfl rfl (Nat.le_of_ble_eq_true rfl) dX5_kinds_2 ?_
  refine lv_istore_n (lv' := [(3, .int q_1), (0, .ref (a 0)), (1, .int x1), (2, .int x2)]) hx hb dX5_kinds_5 rfl hl (by decide) rfl (fun ls hl => ?_)
  refine lv_iload_n hx hb dX5_kinds_6 rfl (lv_at hl 0 rfl) ?_
  refine lv_if_eq (tgt := 16) hx hb dX5_kinds_7 (by decide) (fun (c_3 : q_1 = 0) => ?_) (fun (c_3 : ¬ q_1 = 0) => ?_)
  · rw [if_pos c_3] at h
    refine lv_aload_n hx hb dX5_kinds_16 rfl (lv_at hl 1 rfl) ?_
    refine lv_iload_n hx hb dX5_kinds_17 rfl (lv_at hl 3 rfl) ?_
    refine m_rVi (As := [.int x2]) (rest := []) (o := 0) (ci := 5) C0 hb hml hl.1 wm_X5_88 md_X5_noWatcher (k_X5_noWatcher l G a σ hj x2) rfl rfl ⟨(Nat.le_of_ble_eq_true rfl), (Nat.le_of_ble_eq_true rfl)⟩ hP hS (rfl : kR 0 = 5) (by decide) rfl rfl rfl (Nat.le_of_ble_eq_true rfl) dX5_kinds_18 ?_
    refine lv_if_eq (tgt := 31) hx hb dX5_kinds_21 (by decide) (fun (c_4 : (f_X5_noWatcher x2 σ) = 0) => ?_) (fun (c_4 : ¬ (f_X5_noWatcher x2 σ) = 0) => ?_)
    · rw [if_pos c_4] at h
      refine lv_iconst (v := 0) hx hb dX5_kinds_31 (by decide) ?_
      refine lv_istore (lv' := [(4, .int 0), (3, .int q_1), (0, .ref (a 0)), (1, .int x1), (2, .int x2)]) hx hb dX5_kinds_32 hl (by decide) rfl (fun ls hl => ?_)
      refine lv_iconst (v := 0) hx hb dX5_kinds_34 (by decide) ?_
      refine lv_istore (lv' := [(5, .int 0), (4, .int 0), (3, .int q_1), (0, .ref (a 0)), (1, .int x1), (2, .int x2)]) hx hb dX5_kinds_35 hl (by decide) rfl (fun ls hl => ?_)
      have L_15 : ∀ (fu37 : Nat) (x4_5 : Int32) (x5_6 : Int32) (σ_7 : Mem) (H : Heap) (locs : List Loc) (ls : Array Slot), it3 (f_X5_kinds_B37 x1 x2) fu37 x4_5 x5_6 σ_7 = some q → HP G kR nR a σ_7 H → va_S (AW nR a) s.heap H locs → lv_has ls 6 [(5, .int x5_6), (4, .int x4_5), (0, .ref (a 0)), (1, .int x1), (2, .int x2)] → W p l e ({ frames := 6, cells := 0, slots := 0, locals := 130 } : Room) s m ([.ref (a 0), .int x1, .int x2] : List Value).toArray below meth c H locs 0 0 (MQ below (QI G kR nR a q) ([.ref (a 0), .int x1, .int x2] : List Value).toArray s 0 0 (AW nR a)) (F0 m 37 ls []) := by
        intro fu37
        induction fu37 with
        | zero =>
          intro x4_5 x5_6 σ_7 H locs ls h
          cases h
        | succ fu37 ih37 =>
          intro x4_5 x5_6 σ_7 H locs ls h hP hS hl
          replace h : (f_X5_kinds_B37 x1 x2) (it3 (f_X5_kinds_B37 x1 x2) fu37) x4_5 x5_6 σ_7 = some q := h
          generalize it3 (f_X5_kinds_B37 x1 x2) fu37 = rec37 at h ih37
          unfold f_X5_kinds_B37 at h
          refine lv_iload hx hb dX5_kinds_37 (lv_at hl 0 rfl) ?_
          refine lv_bipush (v := 7) hx hb dX5_kinds_39 (by decide) ?_
          refine lv_icmp_ge (tgt := 75) hx hb dX5_kinds_41 (by decide) (fun (c_8 : 7 ≤ x5_6) => ?_) (fun (c_8 : ¬ 7 ≤ x5_6) => ?_)
          · rw [if_pos c_8] at h
            refine lv_iload hx hb dX5_kinds_75 (lv_at hl 1 rfl) ?_
            exact m_ri hx hb hr hlk hP hS (Option.some.inj h) dX5_kinds_77
          · rw [if_neg c_8] at h
            refine lv_aload_n hx hb dX5_kinds_44 rfl (lv_at hl 2 rfl) ?_
            refine lv_iload hx hb dX5_kinds_45 (lv_at hl 0 rfl) ?_
            refine lv_aload_n hx hb dX5_kinds_47 rfl (lv_at hl 2 rfl) ?_
            refine gf_X5_32 (o := 0) (o2 := 62) C0 hb hP (rfl : kR 0 = 5) rfl dX5_kinds_48 ?_
            refine lv_iload_n hx hb dX5_kinds_51 rfl (lv_at hl 3 rfl) ?_
            obtain ⟨hi_9, h⟩ := chk_s h
            refine m_aldS (o := 62) (i := x1) (o2 := (63 + 2 * x1.toNatClampNeg)) C0 hb hP (rfl : kR 62 = 51) hi_9 rfl dX5_kinds_52 ?_
            refine lv_iload_n hx hb dX5_kinds_53 rfl (lv_at hl 4 rfl) ?_
            obtain ⟨q_10, hq_11, h⟩ := bd_s h
            refine m_cVi (As := [.int x5_6, .ref (a (63 + 2 * x1.toNatClampNeg)), .int x2]) (rest := []) (o := 0) (ci := 5) C0 hb hml hl.1 wm_X5_212 md_X5_couldBeOfKind (k_X5_couldBeOfKind l G a σ_7 hj x5_6 (63 + 2 * x1.toNatClampNeg) (isS_at (vp_lt hi_9)) x2 q_10 hq_11) rfl rfl ⟨(Nat.le_of_ble_eq_true rfl), (Nat.le_of_ble_eq_true rfl)⟩ hP hS (rfl : kR 0 = 5) (by decide) rfl rfl rfl (Nat.le_of_ble_eq_true rfl) dX5_kinds_54 (fun H locs hP hS => ?_)
            have J_13 : ∀ (x4_12 : Int32) (H : Heap) (locs : List Loc) (ls : Array Slot), f_X5_kinds_J69 x5_6 rec37 q_10 x4_12 = some q → HP G kR nR a q_10.2 H → va_S (AW nR a) s.heap H locs → lv_has ls 6 [(5, .int x5_6), (4, .int x4_12), (0, .ref (a 0)), (1, .int x1), (2, .int x2)] → W p l e ({ frames := 6, cells := 0, slots := 0, locals := 130 } : Room) s m ([.ref (a 0), .int x1, .int x2] : List Value).toArray below meth c H locs 0 0 (MQ below (QI G kR nR a q) ([.ref (a 0), .int x1, .int x2] : List Value).toArray s 0 0 (AW nR a)) (F0 m 69 ls []) := by
              intro x4_12 H locs ls h hP hS hl
              unfold f_X5_kinds_J69 at h
              refine lv_iinc (v := x5_6 + 1) (lv' := [(5, .int (x5_6 + 1)), (4, .int x4_12), (0, .ref (a 0)), (1, .int x1), (2, .int x2)]) hx hb dX5_kinds_69 hl (k := 0) rfl rfl (by decide) rfl (fun ls hl => ?_)
              refine lv_goto (tgt := 37) hx hb dX5_kinds_72 (by decide) ?_
              exact ih37 x4_12 (x5_6 + 1) q_10.2 _ _ _ h hP hS (lv_sub hl [0, 1, 2, 3, 4] rfl)
            refine lv_if_eq (tgt := 69) hx hb dX5_kinds_57 (by decide) (fun (c_14 : q_10.1 = 0) => ?_) (fun (c_14 : ¬ q_10.1 = 0) => ?_)
            · rw [if_pos c_14] at h
              exact J_13 x4_5 _ _ _ h hP hS (lv_sub hl [0, 1, 2, 3, 4] rfl)
            · rw [if_neg c_14] at h
              refine lv_iload hx hb dX5_kinds_60 (lv_at hl 1 rfl) ?_
              refine lv_iconst (v := 1) hx hb dX5_kinds_62 (by decide) ?_
              refine lv_iload hx hb dX5_kinds_63 (lv_at hl 0 rfl) ?_
              refine lv_ishl hx hb dX5_kinds_65 ?_
              refine lv_ior hx hb dX5_kinds_66 ?_
              refine lv_istore (lv' := [(4, .int (x4_5 ||| (1 <<< (x5_6 &&& 31)))), (5, .int x5_6), (0, .ref (a 0)), (1, .int x1), (2, .int x2)]) hx hb dX5_kinds_67 hl (by decide) rfl (fun ls hl => ?_)
              exact J_13 (x4_5 ||| (1 <<< (x5_6 &&& 31))) _ _ _ h hP hS (lv_sub hl [1, 0, 2, 3, 4] rfl)
      exact L_15 FU 0 0 σ _ _ _ h hP hS (lv_sub hl [0, 1, 3, 4, 5] rfl)
    · rw [if_neg c_4] at h
      refine lv_aload_n hx hb dX5_kinds_24 rfl (lv_at hl 1 rfl) ?_
      refine lv_ldc hx hb hown (hts _ wk_X5_54) dX5_kinds_25 ?_
      obtain ⟨q_16, hq_17, h⟩ := bd_s h
      refine m_cVi (As := [.int (-1000001)]) (rest := []) (o := 0) (ci := 5) C0 hb hml hl.1 wm_X5_55 md_X5_finding (k_X5_finding l G a σ hj (-1000001) q_16 hq_17) rfl rfl ⟨(Nat.le_of_ble_eq_true rfl), (Nat.le_of_ble_eq_true rfl)⟩ hP hS (rfl : kR 0 = 5) (by decide) rfl rfl rfl (Nat.le_of_ble_eq_true rfl) dX5_kinds_27 (fun H locs hP hS => ?_)
      exact m_ri hx hb hr hlk hP hS (Option.some.inj h) dX5_kinds_30
  · rw [if_neg c_3] at h
    refine lv_aload_n hx hb dX5_kinds_10 rfl (lv_at hl 1 rfl) ?_
    refine lv_iload_n hx hb dX5_kinds_11 rfl (lv_at hl 0 rfl) ?_
    obtain ⟨q_18, hq_19, h⟩ := bd_s h
    refine m_cVi (As := [.int q_1]) (rest := []) (o := 0) (ci := 5) C0 hb hml hl.1 wm_X5_55 md_X5_finding (k_X5_finding l G a σ hj q_1 q_18 hq_19) rfl rfl ⟨(Nat.le_of_ble_eq_true rfl), (Nat.le_of_ble_eq_true rfl)⟩ hP hS (rfl : kR 0 = 5) (by decide) rfl rfl rfl (Nat.le_of_ble_eq_true rfl) dX5_kinds_12 (fun H locs hP hS => ?_)
    exact m_ri hx hb hr hlk hP hS (Option.some.inj h) dX5_kinds_15
def f_X2_draw (b : Nat) (σ : Mem) : Int32 × Mem := (jus ((mst σ b 4 (((σ b 4) * 1103515245) + 12345)) b 4) 8, mst σ b 4 (((σ b 4) * 1103515245) + 12345))
set_option maxHeartbeats 4000000 in
set_option maxRecDepth 100000 in
theorem k_X2_draw (l : Launch) (G : GG) (a : Nat → Nat) (σ : Mem) (hj : INJ nR a) (b : Nat) (hb0 : isV b) : Met l yX2_draw (Cond.code yX2_draw cX2_draw 1 (some .int) :: TB) ({ frames := 0, cells := 0, slots := 0, locals := 0 } : Room) (PA G kR nR a σ [.ref (a b)]) (QI G kR nR a (f_X2_draw b σ)) 0 0 (AW nR a) := by
  generalize h : f_X2_draw b σ = q
  refine M_ofW (by decide) hj kR_lt (Nat.le_of_ble_eq_true rfl) (fun p e s m below meth c ls C0 hb hml hr hlk hP hS hl => ?_)
  have C0 : CT p s _ m RX2 G kR nR a := C0
  have hx := C0.1
  have hts := C0.2.1
  have hown := C0.2.2.1
  have hl : lv_has ls 1 [(0, .ref (a b))] := hl
  unfold f_X2_draw at h
  refine lv_aload_n hx hb dX2_draw_0 rfl (lv_at hl 0 rfl) ?_
  refine lv_aload_n hx hb dX2_draw_1 rfl (lv_at hl 0 rfl) ?_
  refine gf_X2_32 (o := b) C0 hb hP (isV_k hb0) dX2_draw_2 ?_
  refine lv_ldc hx hb hown (hts _ wk_X2_93) dX2_draw_5 ?_
  refine lv_imul hx hb dX2_draw_7 ?_
  refine lv_sipush (v := 12345) hx hb dX2_draw_8 (by decide) ?_
  refine lv_iadd hx hb dX2_draw_11 ?_
  refine pf_X2_32 (o := b) C0 hb hP hS (isV_k hb0) dX2_draw_12 (fun H locs hP hS => ?_)
  refine lv_aload_n hx hb dX2_draw_15 rfl (lv_at hl 0 rfl) ?_
  refine gf_X2_32 (o := b) C0 hb hP (isV_k hb0) dX2_draw_16 ?_
  refine lv_bipush (v := 8) hx hb dX2_draw_19 (by decide) ?_
  refine lv_iushr (v := jus ((mst σ b 4 (((σ b 4) * 1103515245) + 12345)) b 4) 8) hx hb dX2_draw_21 rfl ?_
  exact m_ri hx hb hr hlk hP hS h dX2_draw_22
def f_X5_nights_B44 (x1 : Int32) (rec44 : Int32 → Mem → Option (Int32 × Mem)) (x2_6 : Int32) (σ_7 : Mem) : Option (Int32 × Mem) := (if x1 ≤ x2_6 then ((f_X2_knowing 1 σ_7).bind fun q_9 => some (f_J6_bitCount_0f7a4 q_9, σ_7)) else (chk (jrem ((f_X2_draw 1 σ_7).1) 8) 8 ((f_X2_pass 1 1 (mst ((f_X2_draw 1 ((f_X2_draw 1 σ_7).2)).2) 5 ((jrem ((f_X2_draw 1 σ_7).1) 8).toNatClampNeg) (jrem ((f_X2_draw 1 ((f_X2_draw 1 σ_7).2)).1) 40))).bind fun q_12 => (rec44 (x2_6 + 1) q_12))))
def f_X5_nights (x1 : Int32) (σ : Mem) : Option (Int32 × Mem) := (if x1 < 1 then ((f_X5_finding (-1000001) σ).bind fun q_2 => some (q_2.1, q_2.2)) else (if x1 ≤ 20 then (if ((σ 2 4) + x1) ≤ 99999 then (it2 (f_X5_nights_B44 x1) FU 0 σ) else ((f_X5_finding (-1000005) σ).bind fun q_15 => some (q_15.1, q_15.2))) else ((f_X5_finding (-1000001) σ).bind fun q_17 => some (q_17.1, q_17.2))))
set_option maxHeartbeats 4000000 in
set_option maxRecDepth 100000 in
theorem k_X5_nights (l : Launch) (G : GG) (a : Nat → Nat) (σ : Mem) (hj : INJ nR a) (x1 : Int32) (q : Int32 × Mem) (h : f_X5_nights x1 σ = some q) : Met l yX5_nights (Cond.code yX5_nights cX5_nights 4 (some .int) :: TB) ({ frames := 5, cells := 0, slots := 0, locals := 106 } : Room) (PA G kR nR a σ [.ref (a 0), .int x1]) (QI G kR nR a q) 0 0 (AW nR a) := by
  refine M_ofW (by decide) hj kR_lt (Nat.le_of_ble_eq_true rfl) (fun p e s m below meth c ls C0 hb hml hr hlk hP hS hl => ?_)
  have C0 : CT p s _ m RX5 G kR nR a := C0
  have hx := C0.1
  have hts := C0.2.1
  have hown := C0.2.2.1
  have hl : lv_has ls 4 [(0, .ref (a 0)), (1, .int x1)] := hl
  unfold f_X5_nights at h
  refine lv_iload_n hx hb dX5_nights_0 rfl (lv_at hl 1 rfl) ?_
  refine lv_iconst (v := 1) hx hb dX5_nights_1 (by decide) ?_
  refine lv_icmp_lt (tgt := 11) hx hb dX5_nights_2 (by decide) (fun (c_1 : x1 < 1) => ?_) (fun (c_1 : ¬ x1 < 1) => ?_)
  · rw [if_pos c_1] at h
    refine lv_aload_n hx hb dX5_nights_11 rfl (lv_at hl 0 rfl) ?_
    refine lv_ldc hx hb hown (hts _ wk_X5_54) dX5_nights_12 ?_
    obtain ⟨q_2, hq_3, h⟩ := bd_s h
    refine m_cVi (As := [.int (-1000001)]) (rest := []) (o := 0) (ci := 5) C0 hb hml hl.1 wm_X5_55 md_X5_finding (k_X5_finding l G a σ hj (-1000001) q_2 hq_3) rfl rfl ⟨(Nat.le_of_ble_eq_true rfl), (Nat.le_of_ble_eq_true rfl)⟩ hP hS (rfl : kR 0 = 5) (by decide) rfl rfl rfl (Nat.le_of_ble_eq_true rfl) dX5_nights_14 (fun H locs hP hS => ?_)
    exact m_ri hx hb hr hlk hP hS (Option.some.inj h) dX5_nights_17
  · rw [if_neg c_1] at h
    refine lv_iload_n hx hb dX5_nights_5 rfl (lv_at hl 1 rfl) ?_
    refine lv_bipush (v := 20) hx hb dX5_nights_6 (by decide) ?_
    refine lv_icmp_le (tgt := 18) hx hb dX5_nights_8 (by decide) (fun (c_4 : x1 ≤ 20) => ?_) (fun (c_4 : ¬ x1 ≤ 20) => ?_)
    · rw [if_pos c_4] at h
      refine lv_aload_n hx hb dX5_nights_18 rfl (lv_at hl 0 rfl) ?_
      refine gf_X5_12 (o := 0) (o2 := 1) C0 hb hP (rfl : kR 0 = 5) rfl dX5_nights_19 ?_
      refine gf_X5_59 (o := 1) (o2 := 2) C0 hb hP (isV_k v1) rfl dX5_nights_22 ?_
      refine gf_X5_129 (o := 2) C0 hb hP (isW_k (isV_w v1)) dX5_nights_25 ?_
      refine lv_iload_n hx hb dX5_nights_28 rfl (lv_at hl 1 rfl) ?_
      refine lv_iadd hx hb dX5_nights_29 ?_
      refine lv_ldc hx hb hown (hts _ wk_X5_132) dX5_nights_30 ?_
      refine lv_icmp_le (tgt := 42) hx hb dX5_nights_32 (by decide) (fun (c_5 : ((σ 2 4) + x1) ≤ 99999) => ?_) (fun (c_5 : ¬ ((σ 2 4) + x1) ≤ 99999) => ?_)
      · rw [if_pos c_5] at h
        refine lv_iconst (v := 0) hx hb dX5_nights_42 (by decide) ?_
        refine lv_istore_n (lv' := [(2, .int 0), (0, .ref (a 0)), (1, .int x1)]) hx hb dX5_nights_43 rfl hl (by decide) rfl (fun ls hl => ?_)
        have L_14 : ∀ (fu44 : Nat) (x2_6 : Int32) (σ_7 : Mem) (H : Heap) (locs : List Loc) (ls : Array Slot), it2 (f_X5_nights_B44 x1) fu44 x2_6 σ_7 = some q → HP G kR nR a σ_7 H → va_S (AW nR a) s.heap H locs → lv_has ls 4 [(2, .int x2_6), (0, .ref (a 0)), (1, .int x1)] → W p l e ({ frames := 5, cells := 0, slots := 0, locals := 106 } : Room) s m ([.ref (a 0), .int x1] : List Value).toArray below meth c H locs 0 0 (MQ below (QI G kR nR a q) ([.ref (a 0), .int x1] : List Value).toArray s 0 0 (AW nR a)) (F0 m 44 ls []) := by
          intro fu44
          induction fu44 with
          | zero =>
            intro x2_6 σ_7 H locs ls h
            cases h
          | succ fu44 ih44 =>
            intro x2_6 σ_7 H locs ls h hP hS hl
            replace h : (f_X5_nights_B44 x1) (it2 (f_X5_nights_B44 x1) fu44) x2_6 σ_7 = some q := h
            generalize it2 (f_X5_nights_B44 x1) fu44 = rec44 at h ih44
            unfold f_X5_nights_B44 at h
            refine lv_iload_n hx hb dX5_nights_44 rfl (lv_at hl 0 rfl) ?_
            refine lv_iload_n hx hb dX5_nights_45 rfl (lv_at hl 2 rfl) ?_
            refine lv_icmp_ge (tgt := 96) hx hb dX5_nights_46 (by decide) (fun (c_8 : x1 ≤ x2_6) => ?_) (fun (c_8 : ¬ x1 ≤ x2_6) => ?_)
            · rw [if_pos c_8] at h
              refine lv_aload_n hx hb dX5_nights_96 rfl (lv_at hl 1 rfl) ?_
              refine gf_X5_12 (o := 0) (o2 := 1) C0 hb hP (rfl : kR 0 = 5) rfl dX5_nights_97 ?_
              obtain ⟨q_9, hq_10, h⟩ := bd_s h
              refine m_rVi (As := []) (rest := []) (o := 1) (ci := 2) C0 hb hml hl.1 wm_X5_137 md_X2_knowing (k_X2_knowing l G a σ_7 hj 1 v1 q_9 hq_10) rfl rfl ⟨(Nat.le_of_ble_eq_true rfl), (Nat.le_of_ble_eq_true rfl)⟩ hP hS (isV_k v1) (by decide) rfl rfl rfl (Nat.le_of_ble_eq_true rfl) dX5_nights_100 ?_
              refine m_pSi (As := [.int q_9]) (rest := []) C0.z hb hml hl.1 wm_X5_183 md_J6_bitCount_0f7a4 (k_J6_bitCount_0f7a4 l q_9) rfl rfl ⟨(Nat.le_of_ble_eq_true rfl), (Nat.le_of_ble_eq_true rfl)⟩ rfl rfl (Nat.le_of_ble_eq_true rfl) dX5_nights_103 ?_
              exact m_ri hx hb hr hlk hP hS (Option.some.inj h) dX5_nights_106
            · rw [if_neg c_8] at h
              refine lv_aload_n hx hb dX5_nights_49 rfl (lv_at hl 1 rfl) ?_
              refine gf_X5_12 (o := 0) (o2 := 1) C0 hb hP (rfl : kR 0 = 5) rfl dX5_nights_50 ?_
              refine m_cVi (As := []) (rest := []) (o := 1) (ci := 2) C0 hb hml hl.1 wm_X5_216 md_X2_draw (k_X2_draw l G a σ_7 hj 1 v1) rfl rfl ⟨(Nat.le_of_ble_eq_true rfl), (Nat.le_of_ble_eq_true rfl)⟩ hP hS (isV_k v1) (by decide) rfl rfl rfl (Nat.le_of_ble_eq_true rfl) dX5_nights_53 (fun H locs hP hS => ?_)
              refine lv_bipush (v := 8) hx hb dX5_nights_56 (by decide) ?_
              refine lv_irem hx hb dX5_nights_58 (by decide) ?_
              refine lv_istore_n (lv' := [(3, .int (jrem ((f_X2_draw 1 σ_7).1) 8)), (2, .int x2_6), (0, .ref (a 0)), (1, .int x1)]) hx hb dX5_nights_59 rfl hl (by decide) rfl (fun ls hl => ?_)
              refine lv_aload_n hx hb dX5_nights_60 rfl (lv_at hl 2 rfl) ?_
              refine gf_X5_12 (o := 0) (o2 := 1) C0 hb hP (rfl : kR 0 = 5) rfl dX5_nights_61 ?_
              refine gf_X5_59 (o := 1) (o2 := 2) C0 hb hP (isV_k v1) rfl dX5_nights_64 ?_
              refine gf_X5_68 (o := 2) (o2 := 5) C0 hb hP (isW_k (isV_w v1)) rfl dX5_nights_67 ?_
              refine lv_iload_n hx hb dX5_nights_70 rfl (lv_at hl 0 rfl) ?_
              refine lv_aload_n hx hb dX5_nights_71 rfl (lv_at hl 2 rfl) ?_
              refine gf_X5_12 (o := 0) (o2 := 1) C0 hb hP (rfl : kR 0 = 5) rfl dX5_nights_72 ?_
              refine m_cVi (As := []) (rest := [.int (jrem ((f_X2_draw 1 σ_7).1) 8), .ref (a 5)]) (o := 1) (ci := 2) C0 hb hml hl.1 wm_X5_216 md_X2_draw (k_X2_draw l G a ((f_X2_draw 1 σ_7).2) hj 1 v1) rfl rfl ⟨(Nat.le_of_ble_eq_true rfl), (Nat.le_of_ble_eq_true rfl)⟩ hP hS (isV_k v1) (by decide) rfl rfl rfl (Nat.le_of_ble_eq_true rfl) dX5_nights_75 (fun H locs hP hS => ?_)
              refine lv_bipush (v := 40) hx hb dX5_nights_78 (by decide) ?_
              refine lv_irem hx hb dX5_nights_80 (by decide) ?_
              obtain ⟨hi_11, h⟩ := chk_s h
              refine m_iast (o := 5) (N := 8) (i := jrem ((f_X2_draw 1 σ_7).1) 8) (j := (jrem ((f_X2_draw 1 σ_7).1) 8).toNatClampNeg) C0 hb hP hS (isW_3 (isV_w v1)) (by decide) hi_11 rfl dX5_nights_81 (fun H locs hP hS => ?_)
              refine lv_aload_n hx hb dX5_nights_82 rfl (lv_at hl 2 rfl) ?_
              refine gf_X5_12 (o := 0) (o2 := 1) C0 hb hP (rfl : kR 0 = 5) rfl dX5_nights_83 ?_
              refine lv_iconst (v := 1) hx hb dX5_nights_86 (by decide) ?_
              obtain ⟨q_12, hq_13, h⟩ := bd_s h
              refine m_cVv (As := [.int 1]) (rest := []) (o := 1) (ci := 2) C0 hb hml hl.1 wm_X5_134 md_X2_pass (k_X2_pass l G a (mst ((f_X2_draw 1 ((f_X2_draw 1 σ_7).2)).2) 5 ((jrem ((f_X2_draw 1 σ_7).1) 8).toNatClampNeg) (jrem ((f_X2_draw 1 ((f_X2_draw 1 σ_7).2)).1) 40)) hj 1 v1 1 q_12 hq_13) rfl rfl ⟨(Nat.le_of_ble_eq_true rfl), (Nat.le_of_ble_eq_true rfl)⟩ hP hS (isV_k v1) (by decide) rfl rfl rfl (Nat.le_of_ble_eq_true rfl) dX5_nights_87 (fun H locs hP hS => ?_)
              refine lv_iinc (v := x2_6 + 1) (lv' := [(2, .int (x2_6 + 1)), (3, .int (jrem ((f_X2_draw 1 σ_7).1) 8)), (0, .ref (a 0)), (1, .int x1)]) hx hb dX5_nights_90 hl (k := 1) rfl rfl (by decide) rfl (fun ls hl => ?_)
              refine lv_goto (tgt := 44) hx hb dX5_nights_93 (by decide) ?_
              exact ih44 (x2_6 + 1) q_12 _ _ _ h hP hS (lv_sub hl [0, 2, 3] rfl)
        exact L_14 FU 0 σ _ _ _ h hP hS (lv_sub hl [0, 1, 2] rfl)
      · rw [if_neg c_5] at h
        refine lv_aload_n hx hb dX5_nights_35 rfl (lv_at hl 0 rfl) ?_
        refine lv_ldc hx hb hown (hts _ wk_X5_133) dX5_nights_36 ?_
        obtain ⟨q_15, hq_16, h⟩ := bd_s h
        refine m_cVi (As := [.int (-1000005)]) (rest := []) (o := 0) (ci := 5) C0 hb hml hl.1 wm_X5_55 md_X5_finding (k_X5_finding l G a σ hj (-1000005) q_15 hq_16) rfl rfl ⟨(Nat.le_of_ble_eq_true rfl), (Nat.le_of_ble_eq_true rfl)⟩ hP hS (rfl : kR 0 = 5) (by decide) rfl rfl rfl (Nat.le_of_ble_eq_true rfl) dX5_nights_38 (fun H locs hP hS => ?_)
        exact m_ri hx hb hr hlk hP hS (Option.some.inj h) dX5_nights_41
    · rw [if_neg c_4] at h
      refine lv_aload_n hx hb dX5_nights_11 rfl (lv_at hl 0 rfl) ?_
      refine lv_ldc hx hb hown (hts _ wk_X5_54) dX5_nights_12 ?_
      obtain ⟨q_17, hq_18, h⟩ := bd_s h
      refine m_cVi (As := [.int (-1000001)]) (rest := []) (o := 0) (ci := 5) C0 hb hml hl.1 wm_X5_55 md_X5_finding (k_X5_finding l G a σ hj (-1000001) q_17 hq_18) rfl rfl ⟨(Nat.le_of_ble_eq_true rfl), (Nat.le_of_ble_eq_true rfl)⟩ hP hS (rfl : kR 0 = 5) (by decide) rfl rfl rfl (Nat.le_of_ble_eq_true rfl) dX5_nights_14 (fun H locs hP hS => ?_)
      exact m_ri hx hb hr hlk hP hS (Option.some.inj h) dX5_nights_17
def f_X4_hoursOpen_J22 (x2_2 : Int32) (rec4 : Int32 → Int32 → Option (Int32)) (x1_5 : Int32) : Option (Int32) := (rec4 x1_5 (x2_2 + 1))
def f_X4_hoursOpen_B4 (b : Nat) (σ : Mem) (rec4 : Int32 → Int32 → Option (Int32)) (x1_1 : Int32) (x2_2 : Int32) : Option (Int32) := (if 8 ≤ x2_2 then some x1_1 else (chk x2_2 8 (f_X4_hoursOpen_J22 x2_2 rec4 (if (σ (b + 3) x2_2.toNatClampNeg) = 0 then x1_1 else x1_1 + 1))))
def f_X4_hoursOpen (b : Nat) (σ : Mem) : Option (Int32) := (it2 (f_X4_hoursOpen_B4 b σ) FU 0 0)
set_option maxHeartbeats 4000000 in
set_option maxRecDepth 100000 in
theorem k_X4_hoursOpen (l : Launch) (G : GG) (a : Nat → Nat) (σ : Mem) (hj : INJ nR a) (b : Nat) (hb0 : isW b) (q : Int32) (h : f_X4_hoursOpen b σ = some q) : Met l yX4_hoursOpen (Cond.code yX4_hoursOpen cX4_hoursOpen 3 (some .int) :: TB) ({ frames := 0, cells := 0, slots := 0, locals := 0 } : Room) (PA G kR nR a σ [.ref (a b)]) (SI q) 0 0 NF := by
  refine M_ofW (by decide) hj kR_lt (Nat.le_of_ble_eq_true rfl) (fun p e s m below meth c ls C0 hb hml hr hlk hP hS hl => ?_)
  have C0 : CT p s _ m RX4 G kR nR a := C0
  have hx := C0.1
  have hts := C0.2.1
  have hown := C0.2.2.1
  have hl : lv_has ls 3 [(0, .ref (a b))] := hl
  unfold f_X4_hoursOpen at h
  refine lv_iconst (v := 0) hx hb dX4_hoursOpen_0 (by decide) ?_
  refine lv_istore_n (lv' := [(1, .int 0), (0, .ref (a b))]) hx hb dX4_hoursOpen_1 rfl hl (by decide) rfl (fun ls hl => ?_)
  refine lv_iconst (v := 0) hx hb dX4_hoursOpen_2 (by decide) ?_
  refine lv_istore_n (lv' := [(2, .int 0), (1, .int 0), (0, .ref (a b))]) hx hb dX4_hoursOpen_3 rfl hl (by decide) rfl (fun ls hl => ?_)
  have L_8 : ∀ (fu4 : Nat) (x1_1 : Int32) (x2_2 : Int32) (ls : Array Slot), it2 (f_X4_hoursOpen_B4 b σ) fu4 x1_1 x2_2 = some q → lv_has ls 3 [(2, .int x2_2), (1, .int x1_1), (0, .ref (a b))] → W p l e ({ frames := 0, cells := 0, slots := 0, locals := 0 } : Room) s m ([.ref (a b)] : List Value).toArray below meth c s.heap [] 0 0 (MQ below (SI q) ([.ref (a b)] : List Value).toArray s 0 0 NF) (F0 m 4 ls []) := by
    intro fu4
    induction fu4 with
    | zero =>
      intro x1_1 x2_2 ls h
      cases h
    | succ fu4 ih4 =>
      intro x1_1 x2_2 ls h hl
      replace h : (f_X4_hoursOpen_B4 b σ) (it2 (f_X4_hoursOpen_B4 b σ) fu4) x1_1 x2_2 = some q := h
      generalize it2 (f_X4_hoursOpen_B4 b σ) fu4 = rec4 at h ih4
      unfold f_X4_hoursOpen_B4 at h
      refine lv_iload_n hx hb dX4_hoursOpen_4 rfl (lv_at hl 0 rfl) ?_
      refine lv_bipush (v := 8) hx hb dX4_hoursOpen_5 (by decide) ?_
      refine lv_icmp_ge (tgt := 28) hx hb dX4_hoursOpen_7 (by decide) (fun (c_3 : 8 ≤ x2_2) => ?_) (fun (c_3 : ¬ 8 ≤ x2_2) => ?_)
      · rw [if_pos c_3] at h
        refine lv_iload_n hx hb dX4_hoursOpen_28 rfl (lv_at hl 1 rfl) ?_
        exact m_si hx hb hr hlk (Option.some.inj h) dX4_hoursOpen_29
      · rw [if_neg c_3] at h
        refine lv_aload_n hx hb dX4_hoursOpen_10 rfl (lv_at hl 2 rfl) ?_
        refine gf_X4_18 (o := b) (o2 := (b + 3)) C0 hb hP (isW_k hb0) rfl dX4_hoursOpen_11 ?_
        refine lv_iload_n hx hb dX4_hoursOpen_14 rfl (lv_at hl 0 rfl) ?_
        obtain ⟨hi_4, h⟩ := chk_s h
        refine m_iald (o := (b + 3)) (N := 8) (i := x2_2) (j := x2_2.toNatClampNeg) C0 hb hP (isW_3 hb0) (by decide) hi_4 rfl dX4_hoursOpen_15 ?_
        have J_6 : ∀ (x1_5 : Int32) (ls : Array Slot), f_X4_hoursOpen_J22 x2_2 rec4 x1_5 = some q → lv_has ls 3 [(2, .int x2_2), (1, .int x1_5), (0, .ref (a b))] → W p l e ({ frames := 0, cells := 0, slots := 0, locals := 0 } : Room) s m ([.ref (a b)] : List Value).toArray below meth c s.heap [] 0 0 (MQ below (SI q) ([.ref (a b)] : List Value).toArray s 0 0 NF) (F0 m 22 ls []) := by
          intro x1_5 ls h hl
          unfold f_X4_hoursOpen_J22 at h
          refine lv_iinc (v := x2_2 + 1) (lv' := [(2, .int (x2_2 + 1)), (1, .int x1_5), (0, .ref (a b))]) hx hb dX4_hoursOpen_22 hl (k := 0) rfl rfl (by decide) rfl (fun ls hl => ?_)
          refine lv_goto (tgt := 4) hx hb dX4_hoursOpen_25 (by decide) ?_
          exact ih4 x1_5 (x2_2 + 1) _ h (lv_sub hl [0, 1, 2] rfl)
        refine lv_if_eq (tgt := 22) hx hb dX4_hoursOpen_16 (by decide) (fun (c_7 : (σ (b + 3) x2_2.toNatClampNeg) = 0) => ?_) (fun (c_7 : ¬ (σ (b + 3) x2_2.toNatClampNeg) = 0) => ?_)
        · rw [if_pos c_7] at h
          exact J_6 x1_1 _ h (lv_sub hl [0, 1, 2] rfl)
        · rw [if_neg c_7] at h
          refine lv_iinc (v := x1_1 + 1) (lv' := [(1, .int (x1_1 + 1)), (2, .int x2_2), (0, .ref (a b))]) hx hb dX4_hoursOpen_19 hl (k := 1) rfl rfl (by decide) rfl (fun ls hl => ?_)
          exact J_6 (x1_1 + 1) _ h (lv_sub hl [1, 0, 2] rfl)
  exact L_8 FU 0 0 _ h (lv_sub hl [0, 1, 2] rfl)
def f_X5_odds (x1 : Int32) (x2 : Int32) (σ : Mem) : Option (Int64 × Mem) := (if (f_X5_outside x1 20) = 0 then (if (f_X5_outside x2 1) = 0 then ((f_X4_hoursOpen 2 σ).bind fun q_5 => ((f_X5_commonDivisor q_5).bind fun q_7 => (if x2 = 0 then (cnz q_7 ((f_X5_power (q_5 / q_7) x1).bind fun q_14 => some (q_14, σ))) else (cnz q_7 ((f_X5_power (8 / q_7) x1).bind fun q_11 => some (q_11, σ)))))) else ((f_X5_finding (-1000001) σ).bind fun q_16 => some (q_16.1.toInt64, q_16.2))) else ((f_X5_finding (-1000001) σ).bind fun q_2 => some (q_2.1.toInt64, q_2.2)))
set_option maxHeartbeats 4000000 in
set_option maxRecDepth 100000 in
theorem k_X5_odds (l : Launch) (G : GG) (a : Nat → Nat) (σ : Mem) (hj : INJ nR a) (x1 : Int32) (x2 : Int32) (q : Int64 × Mem) (h : f_X5_odds x1 x2 σ = some q) : Met l yX5_odds (Cond.code yX5_odds cX5_odds 5 (some .long) :: TB) ({ frames := 1, cells := 0, slots := 0, locals := 24 } : Room) (PA G kR nR a σ [.ref (a 0), .int x1, .int x2]) (QL G kR nR a q) 0 0 (AW nR a) := by
  refine M_ofW (by decide) hj kR_lt (Nat.le_of_ble_eq_true rfl) (fun p e s m below meth c ls C0 hb hml hr hlk hP hS hl => ?_)
  have C0 : CT p s _ m RX5 G kR nR a := C0
  have hx := C0.1
  have hts := C0.2.1
  have hown := C0.2.2.1
  have hl : lv_has ls 5 [(0, .ref (a 0)), (1, .int x1), (2, .int x2)] := hl
  unfold f_X5_odds at h
  refine lv_iload_n hx hb dX5_odds_0 rfl (lv_at hl 1 rfl) ?_
  refine lv_bipush (v := 20) hx hb dX5_odds_1 (by decide) ?_
  refine m_pSi (As := [.int x1, .int 20]) (rest := []) C0.z hb hml hl.1 wm_X5_50 md_X5_outside (k_X5_outside l x1 20) rfl rfl ⟨(Nat.le_of_ble_eq_true rfl), (Nat.le_of_ble_eq_true rfl)⟩ rfl rfl (Nat.le_of_ble_eq_true rfl) dX5_odds_3 ?_
  refine lv_if_ne (tgt := 17) hx hb dX5_odds_6 (by decide) (fun (c_1 : ¬ (f_X5_outside x1 20) = 0) => ?_) (fun (c_1 : (f_X5_outside x1 20) = 0) => ?_)
  · rw [if_neg c_1] at h
    refine lv_aload_n hx hb dX5_odds_17 rfl (lv_at hl 0 rfl) ?_
    refine lv_ldc hx hb hown (hts _ wk_X5_54) dX5_odds_18 ?_
    obtain ⟨q_2, hq_3, h⟩ := bd_s h
    refine m_cVi (As := [.int (-1000001)]) (rest := []) (o := 0) (ci := 5) C0 hb hml hl.1 wm_X5_55 md_X5_finding (k_X5_finding l G a σ hj (-1000001) q_2 hq_3) rfl rfl ⟨(Nat.le_of_ble_eq_true rfl), (Nat.le_of_ble_eq_true rfl)⟩ hP hS (rfl : kR 0 = 5) (by decide) rfl rfl rfl (Nat.le_of_ble_eq_true rfl) dX5_odds_20 (fun H locs hP hS => ?_)
    refine lv_i2l (v := q_2.1.toInt64) hx hb dX5_odds_23 rfl ?_
    exact m_rl hx hb hr hlk hP hS (Option.some.inj h) dX5_odds_24
  · rw [if_pos c_1] at h
    refine lv_iload_n hx hb dX5_odds_9 rfl (lv_at hl 2 rfl) ?_
    refine lv_iconst (v := 1) hx hb dX5_odds_10 (by decide) ?_
    refine m_pSi (As := [.int x2, .int 1]) (rest := []) C0.z hb hml hl.1 wm_X5_50 md_X5_outside (k_X5_outside l x2 1) rfl rfl ⟨(Nat.le_of_ble_eq_true rfl), (Nat.le_of_ble_eq_true rfl)⟩ rfl rfl (Nat.le_of_ble_eq_true rfl) dX5_odds_11 ?_
    refine lv_if_eq (tgt := 25) hx hb dX5_odds_14 (by decide) (fun (c_4 : (f_X5_outside x2 1) = 0) => ?_) (fun (c_4 : ¬ (f_X5_outside x2 1) = 0) => ?_)
    · rw [if_pos c_4] at h
      refine lv_aload_n hx hb dX5_odds_25 rfl (lv_at hl 0 rfl) ?_
      refine gf_X5_12 (o := 0) (o2 := 1) C0 hb hP (rfl : kR 0 = 5) rfl dX5_odds_26 ?_
      refine gf_X5_59 (o := 1) (o2 := 2) C0 hb hP (isV_k v1) rfl dX5_odds_29 ?_
      obtain ⟨q_5, hq_6, h⟩ := bd_s h
      refine m_rVi (As := []) (rest := []) (o := 2) (ci := 4) C0 hb hml hl.1 wm_X5_219 md_X4_hoursOpen (k_X4_hoursOpen l G a σ hj 2 (isV_w v1) q_5 hq_6) rfl rfl ⟨(Nat.le_of_ble_eq_true rfl), (Nat.le_of_ble_eq_true rfl)⟩ hP hS (isW_k (isV_w v1)) (by decide) rfl rfl rfl (Nat.le_of_ble_eq_true rfl) dX5_odds_32 ?_
      refine lv_istore_n (lv' := [(3, .int q_5), (0, .ref (a 0)), (1, .int x1), (2, .int x2)]) hx hb dX5_odds_35 rfl hl (by decide) rfl (fun ls hl => ?_)
      refine lv_iload_n hx hb dX5_odds_36 rfl (lv_at hl 0 rfl) ?_
      obtain ⟨q_7, hq_8, h⟩ := bd_s h
      refine m_pSi (As := [.int q_5]) (rest := []) C0.z hb hml hl.1 wm_X5_222 md_X5_commonDivisor (k_X5_commonDivisor l q_5 q_7 hq_8) rfl rfl ⟨(Nat.le_of_ble_eq_true rfl), (Nat.le_of_ble_eq_true rfl)⟩ rfl rfl (Nat.le_of_ble_eq_true rfl) dX5_odds_37 ?_
      refine lv_istore (lv' := [(4, .int q_7), (3, .int q_5), (0, .ref (a 0)), (1, .int x1), (2, .int x2)]) hx hb dX5_odds_40 hl (by decide) rfl (fun ls hl => ?_)
      refine lv_iload_n hx hb dX5_odds_42 rfl (lv_at hl 4 rfl) ?_
      refine lv_if_ne (tgt := 53) hx hb dX5_odds_43 (by decide) (fun (c_9 : ¬ x2 = 0) => ?_) (fun (c_9 : x2 = 0) => ?_)
      · rw [if_neg c_9] at h
        refine lv_bipush (v := 8) hx hb dX5_odds_53 (by decide) ?_
        refine lv_iload hx hb dX5_odds_55 (lv_at hl 0 rfl) ?_
        obtain ⟨hn_10, h⟩ := cnz_s h
        refine lv_idiv hx hb dX5_odds_57 hn_10 ?_
        refine lv_iload_n hx hb dX5_odds_58 rfl (lv_at hl 3 rfl) ?_
        obtain ⟨q_11, hq_12, h⟩ := bd_s h
        refine m_pSl (As := [.int (8 / q_7), .int x1]) (rest := []) C0.z hb hml hl.1 wm_X5_225 md_X5_power (k_X5_power l (8 / q_7) x1 q_11 hq_12) rfl rfl ⟨(Nat.le_of_ble_eq_true rfl), (Nat.le_of_ble_eq_true rfl)⟩ rfl rfl (Nat.le_of_ble_eq_true rfl) dX5_odds_59 ?_
        exact m_rl hx hb hr hlk hP hS (Option.some.inj h) dX5_odds_62
      · rw [if_pos c_9] at h
        refine lv_iload_n hx hb dX5_odds_46 rfl (lv_at hl 1 rfl) ?_
        refine lv_iload hx hb dX5_odds_47 (lv_at hl 0 rfl) ?_
        obtain ⟨hn_13, h⟩ := cnz_s h
        refine lv_idiv hx hb dX5_odds_49 hn_13 ?_
        refine lv_goto (tgt := 58) hx hb dX5_odds_50 (by decide) ?_
        refine lv_iload_n hx hb dX5_odds_58 rfl (lv_at hl 3 rfl) ?_
        obtain ⟨q_14, hq_15, h⟩ := bd_s h
        refine m_pSl (As := [.int (q_5 / q_7), .int x1]) (rest := []) C0.z hb hml hl.1 wm_X5_225 md_X5_power (k_X5_power l (q_5 / q_7) x1 q_14 hq_15) rfl rfl ⟨(Nat.le_of_ble_eq_true rfl), (Nat.le_of_ble_eq_true rfl)⟩ rfl rfl (Nat.le_of_ble_eq_true rfl) dX5_odds_59 ?_
        exact m_rl hx hb hr hlk hP hS (Option.some.inj h) dX5_odds_62
    · rw [if_neg c_4] at h
      refine lv_aload_n hx hb dX5_odds_17 rfl (lv_at hl 0 rfl) ?_
      refine lv_ldc hx hb hown (hts _ wk_X5_54) dX5_odds_18 ?_
      obtain ⟨q_16, hq_17, h⟩ := bd_s h
      refine m_cVi (As := [.int (-1000001)]) (rest := []) (o := 0) (ci := 5) C0 hb hml hl.1 wm_X5_55 md_X5_finding (k_X5_finding l G a σ hj (-1000001) q_16 hq_17) rfl rfl ⟨(Nat.le_of_ble_eq_true rfl), (Nat.le_of_ble_eq_true rfl)⟩ hP hS (rfl : kR 0 = 5) (by decide) rfl rfl rfl (Nat.le_of_ble_eq_true rfl) dX5_odds_20 (fun H locs hP hS => ?_)
      refine lv_i2l (v := q_16.1.toInt64) hx hb dX5_odds_23 rfl ?_
      exact m_rl hx hb hr hlk hP hS (Option.some.inj h) dX5_odds_24
def f_X5_seed (x1 : Int32) (σ : Mem) : Int32 × Mem := (σ 1 4, mst σ 1 4 x1)
set_option maxHeartbeats 4000000 in
set_option maxRecDepth 100000 in
theorem k_X5_seed (l : Launch) (G : GG) (a : Nat → Nat) (σ : Mem) (hj : INJ nR a) (x1 : Int32) : Met l yX5_seed (Cond.code yX5_seed cX5_seed 3 (some .int) :: TB) ({ frames := 0, cells := 0, slots := 0, locals := 0 } : Room) (PA G kR nR a σ [.ref (a 0), .int x1]) (QI G kR nR a (f_X5_seed x1 σ)) 0 0 (AW nR a) := by
  generalize h : f_X5_seed x1 σ = q
  refine M_ofW (by decide) hj kR_lt (Nat.le_of_ble_eq_true rfl) (fun p e s m below meth c ls C0 hb hml hr hlk hP hS hl => ?_)
  have C0 : CT p s _ m RX5 G kR nR a := C0
  have hx := C0.1
  have hts := C0.2.1
  have hown := C0.2.2.1
  have hl : lv_has ls 3 [(0, .ref (a 0)), (1, .int x1)] := hl
  unfold f_X5_seed at h
  refine lv_aload_n hx hb dX5_seed_0 rfl (lv_at hl 0 rfl) ?_
  refine gf_X5_12 (o := 0) (o2 := 1) C0 hb hP (rfl : kR 0 = 5) rfl dX5_seed_1 ?_
  refine gf_X5_229 (o := 1) C0 hb hP (isV_k v1) dX5_seed_4 ?_
  refine lv_istore_n (lv' := [(2, .int (σ 1 4)), (0, .ref (a 0)), (1, .int x1)]) hx hb dX5_seed_7 rfl hl (by decide) rfl (fun ls hl => ?_)
  refine lv_aload_n hx hb dX5_seed_8 rfl (lv_at hl 1 rfl) ?_
  refine gf_X5_12 (o := 0) (o2 := 1) C0 hb hP (rfl : kR 0 = 5) rfl dX5_seed_9 ?_
  refine lv_iload_n hx hb dX5_seed_12 rfl (lv_at hl 2 rfl) ?_
  refine pf_X5_229 (o := 1) C0 hb hP hS (isV_k v1) dX5_seed_13 (fun H locs hP hS => ?_)
  refine lv_iload_n hx hb dX5_seed_16 rfl (lv_at hl 0 rfl) ?_
  exact m_ri hx hb hr hlk hP hS h dX5_seed_17
def f_X0_put (x1 : Int32) (σ : Mem) : Option (Mem) := (chk (σ 71 1) 120 (some (mst (mst σ 72 ((σ 71 1).toNatClampNeg) x1) 71 1 (((mst σ 72 ((σ 71 1).toNatClampNeg) x1) 71 1) + 1))))
set_option maxHeartbeats 4000000 in
set_option maxRecDepth 100000 in
theorem k_X0_put (l : Launch) (G : GG) (a : Nat → Nat) (σ : Mem) (hj : INJ nR a) (x1 : Int32) (q : Mem) (h : f_X0_put x1 σ = some q) : Met l yX0_put (Cond.code yX0_put cX0_put 2 none :: TB) ({ frames := 0, cells := 0, slots := 0, locals := 0 } : Room) (PA G kR nR a σ [.ref (a 71), .int x1]) (QV G kR nR a q) 0 0 (AW nR a) := by
  refine M_ofW (by decide) hj kR_lt (Nat.le_of_ble_eq_true rfl) (fun p e s m below meth c ls C0 hb hml hr hlk hP hS hl => ?_)
  have C0 : CT p s _ m RX0 G kR nR a := C0
  have hx := C0.1
  have hts := C0.2.1
  have hown := C0.2.2.1
  have hstr := C0.2.2.2.1.2.2.2.1
  have hl : lv_has ls 2 [(0, .ref (a 71)), (1, .int x1)] := hl
  unfold f_X0_put at h
  refine lv_aload_n hx hb dX0_put_0 rfl (lv_at hl 0 rfl) ?_
  refine gf_X0_9 (o := 71) (o2 := 72) C0 hb hP (rfl : kR 71 = 0) rfl dX0_put_1 ?_
  refine lv_aload_n hx hb dX0_put_4 rfl (lv_at hl 0 rfl) ?_
  refine gf_X0_15 (o := 71) C0 hb hP (rfl : kR 71 = 0) dX0_put_5 ?_
  refine lv_iload_n hx hb dX0_put_8 rfl (lv_at hl 1 rfl) ?_
  obtain ⟨hi_1, h⟩ := chk_s h
  refine m_iast (o := 72) (N := 120) (i := σ 71 1) (j := (σ 71 1).toNatClampNeg) C0 hb hP hS (rfl : kR 72 = 100 + 120) (by decide) hi_1 rfl dX0_put_9 (fun H locs hP hS => ?_)
  refine lv_aload_n hx hb dX0_put_10 rfl (lv_at hl 0 rfl) ?_
  refine lv_dup hx hb dX0_put_11 rfl ?_
  refine gf_X0_15 (o := 71) C0 hb hP (rfl : kR 71 = 0) dX0_put_12 ?_
  refine lv_iconst (v := 1) hx hb dX0_put_15 (by decide) ?_
  refine lv_iadd hx hb dX0_put_16 ?_
  refine pf_X0_15 (o := 71) C0 hb hP hS (rfl : kR 71 = 0) dX0_put_17 (fun H locs hP hS => ?_)
  exact m_rv hx hb hr hlk hP hS (Option.some.inj h) dX0_put_20
def f_X5_feed_B42 (x1 : Int32) (rec42 : Int32 → Mem → Option (Int32 × Mem)) (x3_6 : Int32) (σ_7 : Mem) : Option (Int32 × Mem) := (if x3_6 < 0 then some (σ_7 71 1, σ_7) else ((f_X0_put ((jus x1 (8 * x3_6)) &&& 255) σ_7).bind fun q_9 => (rec42 (x3_6 + (-1)) q_9)))
def f_X5_feed (x1 : Int32) (x2 : Int32) (σ : Mem) : Option (Int32 × Mem) := (if x2 < 1 then ((f_X5_finding (-1000001) σ).bind fun q_2 => some (q_2.1, q_2.2)) else (if x2 ≤ 4 then (if ((σ 71 1) + x2) ≤ 120 then (it2 (f_X5_feed_B42 x1) FU (x2 - 1) σ) else ((f_X5_finding (-1000002) σ).bind fun q_12 => some (q_12.1, q_12.2))) else ((f_X5_finding (-1000001) σ).bind fun q_14 => some (q_14.1, q_14.2))))
set_option maxHeartbeats 4000000 in
set_option maxRecDepth 100000 in
theorem k_X5_feed (l : Launch) (G : GG) (a : Nat → Nat) (σ : Mem) (hj : INJ nR a) (x1 : Int32) (x2 : Int32) (q : Int32 × Mem) (h : f_X5_feed x1 x2 σ = some q) : Met l yX5_feed (Cond.code yX5_feed cX5_feed 4 (some .int) :: TB) ({ frames := 1, cells := 0, slots := 0, locals := 22 } : Room) (PA G kR nR a σ [.ref (a 0), .int x1, .int x2]) (QI G kR nR a q) 0 0 (AW nR a) := by
  refine M_ofW (by decide) hj kR_lt (Nat.le_of_ble_eq_true rfl) (fun p e s m below meth c ls C0 hb hml hr hlk hP hS hl => ?_)
  have C0 : CT p s _ m RX5 G kR nR a := C0
  have hx := C0.1
  have hts := C0.2.1
  have hown := C0.2.2.1
  have hl : lv_has ls 4 [(0, .ref (a 0)), (1, .int x1), (2, .int x2)] := hl
  unfold f_X5_feed at h
  refine lv_iload_n hx hb dX5_feed_0 rfl (lv_at hl 2 rfl) ?_
  refine lv_iconst (v := 1) hx hb dX5_feed_1 (by decide) ?_
  refine lv_icmp_lt (tgt := 10) hx hb dX5_feed_2 (by decide) (fun (c_1 : x2 < 1) => ?_) (fun (c_1 : ¬ x2 < 1) => ?_)
  · rw [if_pos c_1] at h
    refine lv_aload_n hx hb dX5_feed_10 rfl (lv_at hl 0 rfl) ?_
    refine lv_ldc hx hb hown (hts _ wk_X5_54) dX5_feed_11 ?_
    obtain ⟨q_2, hq_3, h⟩ := bd_s h
    refine m_cVi (As := [.int (-1000001)]) (rest := []) (o := 0) (ci := 5) C0 hb hml hl.1 wm_X5_55 md_X5_finding (k_X5_finding l G a σ hj (-1000001) q_2 hq_3) rfl rfl ⟨(Nat.le_of_ble_eq_true rfl), (Nat.le_of_ble_eq_true rfl)⟩ hP hS (rfl : kR 0 = 5) (by decide) rfl rfl rfl (Nat.le_of_ble_eq_true rfl) dX5_feed_13 (fun H locs hP hS => ?_)
    exact m_ri hx hb hr hlk hP hS (Option.some.inj h) dX5_feed_16
  · rw [if_neg c_1] at h
    refine lv_iload_n hx hb dX5_feed_5 rfl (lv_at hl 2 rfl) ?_
    refine lv_iconst (v := 4) hx hb dX5_feed_6 (by decide) ?_
    refine lv_icmp_le (tgt := 17) hx hb dX5_feed_7 (by decide) (fun (c_4 : x2 ≤ 4) => ?_) (fun (c_4 : ¬ x2 ≤ 4) => ?_)
    · rw [if_pos c_4] at h
      refine lv_aload_n hx hb dX5_feed_17 rfl (lv_at hl 0 rfl) ?_
      refine gf_X5_39 (o := 0) (o2 := 71) C0 hb hP (rfl : kR 0 = 5) rfl dX5_feed_18 ?_
      refine gf_X5_232 (o := 71) C0 hb hP (rfl : kR 71 = 0) dX5_feed_21 ?_
      refine lv_iload_n hx hb dX5_feed_24 rfl (lv_at hl 2 rfl) ?_
      refine lv_iadd hx hb dX5_feed_25 ?_
      refine lv_bipush (v := 120) hx hb dX5_feed_26 (by decide) ?_
      refine lv_icmp_le (tgt := 38) hx hb dX5_feed_28 (by decide) (fun (c_5 : ((σ 71 1) + x2) ≤ 120) => ?_) (fun (c_5 : ¬ ((σ 71 1) + x2) ≤ 120) => ?_)
      · rw [if_pos c_5] at h
        refine lv_iload_n hx hb dX5_feed_38 rfl (lv_at hl 2 rfl) ?_
        refine lv_iconst (v := 1) hx hb dX5_feed_39 (by decide) ?_
        refine lv_isub hx hb dX5_feed_40 ?_
        refine lv_istore_n (lv' := [(3, .int (x2 - 1)), (0, .ref (a 0)), (1, .int x1), (2, .int x2)]) hx hb dX5_feed_41 rfl hl (by decide) rfl (fun ls hl => ?_)
        have L_11 : ∀ (fu42 : Nat) (x3_6 : Int32) (σ_7 : Mem) (H : Heap) (locs : List Loc) (ls : Array Slot), it2 (f_X5_feed_B42 x1) fu42 x3_6 σ_7 = some q → HP G kR nR a σ_7 H → va_S (AW nR a) s.heap H locs → lv_has ls 4 [(3, .int x3_6), (0, .ref (a 0)), (1, .int x1)] → W p l e ({ frames := 1, cells := 0, slots := 0, locals := 22 } : Room) s m ([.ref (a 0), .int x1, .int x2] : List Value).toArray below meth c H locs 0 0 (MQ below (QI G kR nR a q) ([.ref (a 0), .int x1, .int x2] : List Value).toArray s 0 0 (AW nR a)) (F0 m 42 ls []) := by
          intro fu42
          induction fu42 with
          | zero =>
            intro x3_6 σ_7 H locs ls h
            cases h
          | succ fu42 ih42 =>
            intro x3_6 σ_7 H locs ls h hP hS hl
            replace h : (f_X5_feed_B42 x1) (it2 (f_X5_feed_B42 x1) fu42) x3_6 σ_7 = some q := h
            generalize it2 (f_X5_feed_B42 x1) fu42 = rec42 at h ih42
            unfold f_X5_feed_B42 at h
            refine lv_iload_n hx hb dX5_feed_42 rfl (lv_at hl 0 rfl) ?_
            refine lv_if_lt (tgt := 69) hx hb dX5_feed_43 (by decide) (fun (c_8 : x3_6 < 0) => ?_) (fun (c_8 : ¬ x3_6 < 0) => ?_)
            · rw [if_pos c_8] at h
              refine lv_aload_n hx hb dX5_feed_69 rfl (lv_at hl 1 rfl) ?_
              refine gf_X5_39 (o := 0) (o2 := 71) C0 hb hP (rfl : kR 0 = 5) rfl dX5_feed_70 ?_
              refine gf_X5_232 (o := 71) C0 hb hP (rfl : kR 71 = 0) dX5_feed_73 ?_
              exact m_ri hx hb hr hlk hP hS (Option.some.inj h) dX5_feed_76
            · rw [if_neg c_8] at h
              refine lv_aload_n hx hb dX5_feed_46 rfl (lv_at hl 1 rfl) ?_
              refine gf_X5_39 (o := 0) (o2 := 71) C0 hb hP (rfl : kR 0 = 5) rfl dX5_feed_47 ?_
              refine lv_iload_n hx hb dX5_feed_50 rfl (lv_at hl 2 rfl) ?_
              refine lv_bipush (v := 8) hx hb dX5_feed_51 (by decide) ?_
              refine lv_iload_n hx hb dX5_feed_53 rfl (lv_at hl 0 rfl) ?_
              refine lv_imul hx hb dX5_feed_54 ?_
              refine lv_iushr (v := jus x1 (8 * x3_6)) hx hb dX5_feed_55 rfl ?_
              refine lv_sipush (v := 255) hx hb dX5_feed_56 (by decide) ?_
              refine lv_iand hx hb dX5_feed_59 ?_
              obtain ⟨q_9, hq_10, h⟩ := bd_s h
              refine m_cVv (As := [.int ((jus x1 (8 * x3_6)) &&& 255)]) (rest := []) (o := 71) (ci := 0) C0 hb hml hl.1 wm_X5_235 md_X0_put (k_X0_put l G a σ_7 hj ((jus x1 (8 * x3_6)) &&& 255) q_9 hq_10) rfl rfl ⟨(Nat.le_of_ble_eq_true rfl), (Nat.le_of_ble_eq_true rfl)⟩ hP hS (rfl : kR 71 = 0) (by decide) rfl rfl rfl (Nat.le_of_ble_eq_true rfl) dX5_feed_60 (fun H locs hP hS => ?_)
              refine lv_iinc (v := x3_6 + (-1)) (lv' := [(3, .int (x3_6 + (-1))), (0, .ref (a 0)), (1, .int x1)]) hx hb dX5_feed_63 hl (k := 0) rfl rfl (by decide) rfl (fun ls hl => ?_)
              refine lv_goto (tgt := 42) hx hb dX5_feed_66 (by decide) ?_
              exact ih42 (x3_6 + (-1)) q_9 _ _ _ h hP hS (lv_sub hl [0, 1, 2] rfl)
        exact L_11 FU (x2 - 1) σ _ _ _ h hP hS (lv_sub hl [0, 1, 2] rfl)
      · rw [if_neg c_5] at h
        refine lv_aload_n hx hb dX5_feed_31 rfl (lv_at hl 0 rfl) ?_
        refine lv_ldc hx hb hown (hts _ wk_X5_83) dX5_feed_32 ?_
        obtain ⟨q_12, hq_13, h⟩ := bd_s h
        refine m_cVi (As := [.int (-1000002)]) (rest := []) (o := 0) (ci := 5) C0 hb hml hl.1 wm_X5_55 md_X5_finding (k_X5_finding l G a σ hj (-1000002) q_12 hq_13) rfl rfl ⟨(Nat.le_of_ble_eq_true rfl), (Nat.le_of_ble_eq_true rfl)⟩ hP hS (rfl : kR 0 = 5) (by decide) rfl rfl rfl (Nat.le_of_ble_eq_true rfl) dX5_feed_34 (fun H locs hP hS => ?_)
        exact m_ri hx hb hr hlk hP hS (Option.some.inj h) dX5_feed_37
    · rw [if_neg c_4] at h
      refine lv_aload_n hx hb dX5_feed_10 rfl (lv_at hl 0 rfl) ?_
      refine lv_ldc hx hb hown (hts _ wk_X5_54) dX5_feed_11 ?_
      obtain ⟨q_14, hq_15, h⟩ := bd_s h
      refine m_cVi (As := [.int (-1000001)]) (rest := []) (o := 0) (ci := 5) C0 hb hml hl.1 wm_X5_55 md_X5_finding (k_X5_finding l G a σ hj (-1000001) q_14 hq_15) rfl rfl ⟨(Nat.le_of_ble_eq_true rfl), (Nat.le_of_ble_eq_true rfl)⟩ hP hS (rfl : kR 0 = 5) (by decide) rfl rfl rfl (Nat.le_of_ble_eq_true rfl) dX5_feed_13 (fun H locs hP hS => ?_)
      exact m_ri hx hb hr hlk hP hS (Option.some.inj h) dX5_feed_16
def f_X5_wipe (σ : Mem) : Int32 × Mem := (σ 71 1, mst σ 71 1 0)
set_option maxHeartbeats 4000000 in
set_option maxRecDepth 100000 in
theorem k_X5_wipe (l : Launch) (G : GG) (a : Nat → Nat) (σ : Mem) (hj : INJ nR a)  : Met l yX5_wipe (Cond.code yX5_wipe cX5_wipe 2 (some .int) :: TB) ({ frames := 0, cells := 0, slots := 0, locals := 0 } : Room) (PA G kR nR a σ [.ref (a 0)]) (QI G kR nR a (f_X5_wipe σ)) 0 0 (AW nR a) := by
  generalize h : f_X5_wipe σ = q
  refine M_ofW (by decide) hj kR_lt (Nat.le_of_ble_eq_true rfl) (fun p e s m below meth c ls C0 hb hml hr hlk hP hS hl => ?_)
  have C0 : CT p s _ m RX5 G kR nR a := C0
  have hx := C0.1
  have hts := C0.2.1
  have hown := C0.2.2.1
  have hl : lv_has ls 2 [(0, .ref (a 0))] := hl
  unfold f_X5_wipe at h
  refine lv_aload_n hx hb dX5_wipe_0 rfl (lv_at hl 0 rfl) ?_
  refine gf_X5_39 (o := 0) (o2 := 71) C0 hb hP (rfl : kR 0 = 5) rfl dX5_wipe_1 ?_
  refine gf_X5_232 (o := 71) C0 hb hP (rfl : kR 71 = 0) dX5_wipe_4 ?_
  refine lv_istore_n (lv' := [(1, .int (σ 71 1)), (0, .ref (a 0))]) hx hb dX5_wipe_7 rfl hl (by decide) rfl (fun ls hl => ?_)
  refine lv_aload_n hx hb dX5_wipe_8 rfl (lv_at hl 1 rfl) ?_
  refine gf_X5_39 (o := 0) (o2 := 71) C0 hb hP (rfl : kR 0 = 5) rfl dX5_wipe_9 ?_
  refine lv_iconst (v := 0) hx hb dX5_wipe_12 (by decide) ?_
  refine pf_X5_232 (o := 71) C0 hb hP hS (rfl : kR 71 = 0) dX5_wipe_13 (fun H locs hP hS => ?_)
  refine lv_iload_n hx hb dX5_wipe_16 rfl (lv_at hl 0 rfl) ?_
  exact m_ri hx hb hr hlk hP hS h dX5_wipe_17
def f_X0_hasFault (σ : Mem) : Int32 := (if (σ 71 2) = (-1) then 0 else 1)
theorem bz_X0_hasFault (σ : Mem) : f_X0_hasFault σ = 0 ∨ f_X0_hasFault σ = 1 := by
  unfold f_X0_hasFault
  repeat' split
  all_goals first | exact Or.inl rfl | exact Or.inr rfl
set_option maxHeartbeats 4000000 in
set_option maxRecDepth 100000 in
theorem k_X0_hasFault (l : Launch) (G : GG) (a : Nat → Nat) (σ : Mem) (hj : INJ nR a)  : Met l yX0_hasFault (Cond.code yX0_hasFault cX0_hasFault 1 (some .boolean) :: TB) ({ frames := 0, cells := 0, slots := 0, locals := 0 } : Room) (PA G kR nR a σ [.ref (a 71)]) (SI (f_X0_hasFault σ)) 0 0 NF := by
  generalize h : f_X0_hasFault σ = q
  refine M_ofW (by decide) hj kR_lt (Nat.le_of_ble_eq_true rfl) (fun p e s m below meth c ls C0 hb hml hr hlk hP hS hl => ?_)
  have C0 : CT p s _ m RX0 G kR nR a := C0
  have hx := C0.1
  have hts := C0.2.1
  have hown := C0.2.2.1
  have hstr := C0.2.2.2.1.2.2.2.1
  have hl : lv_has ls 1 [(0, .ref (a 71))] := hl
  unfold f_X0_hasFault at h
  refine lv_aload_n hx hb dX0_hasFault_0 rfl (lv_at hl 0 rfl) ?_
  refine gf_X0_19 (o := 71) C0 hb hP (rfl : kR 71 = 0) dX0_hasFault_1 ?_
  refine lv_iconst (v := (-1)) hx hb dX0_hasFault_4 (by decide) ?_
  refine lv_icmp_eq (tgt := 12) hx hb dX0_hasFault_5 (by decide) (fun (c_1 : (σ 71 2) = (-1)) => ?_) (fun (c_1 : ¬ (σ 71 2) = (-1)) => ?_)
  · rw [if_pos c_1] at h
    refine lv_iconst (v := 0) hx hb dX0_hasFault_12 (by decide) ?_
    exact m_sz hx hb hr hlk (Or.inl rfl) h dX0_hasFault_13
  · rw [if_neg c_1] at h
    refine lv_iconst (v := 1) hx hb dX0_hasFault_8 (by decide) ?_
    refine lv_goto (tgt := 13) hx hb dX0_hasFault_9 (by decide) ?_
    exact m_sz hx hb hr hlk (Or.inr rfl) h dX0_hasFault_13
def f_X0_advance_J124 (σ_4 : Mem) (rec97 : Mem → Option (Mem)) : Option (Mem) := (chk (σ_4 71 5) 120 (if (f_X0_tokenOf (σ_4 72 ((σ_4 71 5).toNatClampNeg))) = (σ_4 71 3) then (rec97 (mst σ_4 71 5 ((σ_4 71 5) + 1))) else some σ_4))
def f_X0_advance_B97  (rec97 : Mem → Option (Mem)) (σ_4 : Mem) : Option (Mem) := (if (σ_4 71 1) ≤ (σ_4 71 5) then some σ_4 else (if (σ_4 71 3) = 1 then (f_X0_advance_J124 σ_4 rec97) else (if (σ_4 71 3) = 2 then (f_X0_advance_J124 σ_4 rec97) else some σ_4)))
def f_X0_advance_J46 (σ_1 : Mem) : Option (Mem) := (if ((mst σ_1 71 5 (σ_1 71 4)) 71 4) < ((mst σ_1 71 5 (σ_1 71 4)) 71 1) then (chk ((mst σ_1 71 5 (σ_1 71 4)) 71 4) 120 (it1 f_X0_advance_B97 FU (mst (mst (mst σ_1 71 5 (σ_1 71 4)) 71 3 (f_X0_tokenOf ((mst σ_1 71 5 (σ_1 71 4)) 72 (((mst σ_1 71 5 (σ_1 71 4)) 71 4).toNatClampNeg)))) 71 5 (((mst (mst σ_1 71 5 (σ_1 71 4)) 71 3 (f_X0_tokenOf ((mst σ_1 71 5 (σ_1 71 4)) 72 (((mst σ_1 71 5 (σ_1 71 4)) 71 4).toNatClampNeg)))) 71 5) + 1)))) else some (mst (mst σ_1 71 5 (σ_1 71 4)) 71 3 0))
def f_X0_advance_B8  (rec8 : Mem → Option (Mem)) (σ_1 : Mem) : Option (Mem) := (if (σ_1 71 1) ≤ (σ_1 71 4) then (f_X0_advance_J46 σ_1) else (chk (σ_1 71 4) 120 (if (σ_1 72 ((σ_1 71 4).toNatClampNeg)) = 32 then (rec8 (mst σ_1 71 4 ((σ_1 71 4) + 1))) else (f_X0_advance_J46 σ_1))))
def f_X0_advance (σ : Mem) : Option (Mem) := (it1 f_X0_advance_B8 FU (mst σ 71 4 (σ 71 5)))
set_option maxHeartbeats 4000000 in
set_option maxRecDepth 100000 in
theorem k_X0_advance (l : Launch) (G : GG) (a : Nat → Nat) (σ : Mem) (hj : INJ nR a)  (q : Mem) (h : f_X0_advance σ = some q) : Met l yX0_advance (Cond.code yX0_advance cX0_advance 1 none :: TB) ({ frames := 1, cells := 0, slots := 0, locals := 20 } : Room) (PA G kR nR a σ [.ref (a 71)]) (QV G kR nR a q) 0 0 (AW nR a) := by
  refine M_ofW (by decide) hj kR_lt (Nat.le_of_ble_eq_true rfl) (fun p e s m below meth c ls C0 hb hml hr hlk hP hS hl => ?_)
  have C0 : CT p s _ m RX0 G kR nR a := C0
  have hx := C0.1
  have hts := C0.2.1
  have hown := C0.2.2.1
  have hstr := C0.2.2.2.1.2.2.2.1
  have hl : lv_has ls 1 [(0, .ref (a 71))] := hl
  unfold f_X0_advance at h
  refine lv_aload_n hx hb dX0_advance_0 rfl (lv_at hl 0 rfl) ?_
  refine lv_aload_n hx hb dX0_advance_1 rfl (lv_at hl 0 rfl) ?_
  refine gf_X0_28 (o := 71) C0 hb hP (rfl : kR 71 = 0) dX0_advance_2 ?_
  refine pf_X0_25 (o := 71) C0 hb hP hS (rfl : kR 71 = 0) dX0_advance_5 (fun H locs hP hS => ?_)
  have L_16 : ∀ (fu8 : Nat) (σ_1 : Mem) (H : Heap) (locs : List Loc) (ls : Array Slot), it1 f_X0_advance_B8 fu8 σ_1 = some q → HP G kR nR a σ_1 H → va_S (AW nR a) s.heap H locs → lv_has ls 1 [(0, .ref (a 71))] → W p l e ({ frames := 1, cells := 0, slots := 0, locals := 20 } : Room) s m ([.ref (a 71)] : List Value).toArray below meth c H locs 0 0 (MQ below (QV G kR nR a q) ([.ref (a 71)] : List Value).toArray s 0 0 (AW nR a)) (F0 m 8 ls []) := by
    intro fu8
    induction fu8 with
    | zero =>
      intro σ_1 H locs ls h
      cases h
    | succ fu8 ih8 =>
      intro σ_1 H locs ls h hP hS hl
      replace h : f_X0_advance_B8 (it1 f_X0_advance_B8 fu8) σ_1 = some q := h
      generalize it1 f_X0_advance_B8 fu8 = rec8 at h ih8
      unfold f_X0_advance_B8 at h
      refine lv_aload_n hx hb dX0_advance_8 rfl (lv_at hl 0 rfl) ?_
      refine gf_X0_25 (o := 71) C0 hb hP (rfl : kR 71 = 0) dX0_advance_9 ?_
      refine lv_aload_n hx hb dX0_advance_12 rfl (lv_at hl 0 rfl) ?_
      refine gf_X0_15 (o := 71) C0 hb hP (rfl : kR 71 = 0) dX0_advance_13 ?_
      have J_12 : ∀  (H : Heap) (locs : List Loc) (ls : Array Slot), f_X0_advance_J46 σ_1 = some q → HP G kR nR a σ_1 H → va_S (AW nR a) s.heap H locs → lv_has ls 1 [(0, .ref (a 71))] → W p l e ({ frames := 1, cells := 0, slots := 0, locals := 20 } : Room) s m ([.ref (a 71)] : List Value).toArray below meth c H locs 0 0 (MQ below (QV G kR nR a q) ([.ref (a 71)] : List Value).toArray s 0 0 (AW nR a)) (F0 m 46 ls []) := by
        intro  H locs ls h hP hS hl
        unfold f_X0_advance_J46 at h
        refine lv_aload_n hx hb dX0_advance_46 rfl (lv_at hl 0 rfl) ?_
        refine lv_aload_n hx hb dX0_advance_47 rfl (lv_at hl 0 rfl) ?_
        refine gf_X0_25 (o := 71) C0 hb hP (rfl : kR 71 = 0) dX0_advance_48 ?_
        refine pf_X0_28 (o := 71) C0 hb hP hS (rfl : kR 71 = 0) dX0_advance_51 (fun H locs hP hS => ?_)
        refine lv_aload_n hx hb dX0_advance_54 rfl (lv_at hl 0 rfl) ?_
        refine gf_X0_25 (o := 71) C0 hb hP (rfl : kR 71 = 0) dX0_advance_55 ?_
        refine lv_aload_n hx hb dX0_advance_58 rfl (lv_at hl 0 rfl) ?_
        refine gf_X0_15 (o := 71) C0 hb hP (rfl : kR 71 = 0) dX0_advance_59 ?_
        refine lv_icmp_lt (tgt := 71) hx hb dX0_advance_62 (by decide) (fun (c_2 : ((mst σ_1 71 5 (σ_1 71 4)) 71 4) < ((mst σ_1 71 5 (σ_1 71 4)) 71 1)) => ?_) (fun (c_2 : ¬ ((mst σ_1 71 5 (σ_1 71 4)) 71 4) < ((mst σ_1 71 5 (σ_1 71 4)) 71 1)) => ?_)
        · rw [if_pos c_2] at h
          refine lv_aload_n hx hb dX0_advance_71 rfl (lv_at hl 0 rfl) ?_
          refine lv_aload_n hx hb dX0_advance_72 rfl (lv_at hl 0 rfl) ?_
          refine gf_X0_9 (o := 71) (o2 := 72) C0 hb hP (rfl : kR 71 = 0) rfl dX0_advance_73 ?_
          refine lv_aload_n hx hb dX0_advance_76 rfl (lv_at hl 0 rfl) ?_
          refine gf_X0_25 (o := 71) C0 hb hP (rfl : kR 71 = 0) dX0_advance_77 ?_
          obtain ⟨hi_3, h⟩ := chk_s h
          refine m_iald (o := 72) (N := 120) (i := (mst σ_1 71 5 (σ_1 71 4)) 71 4) (j := ((mst σ_1 71 5 (σ_1 71 4)) 71 4).toNatClampNeg) C0 hb hP (rfl : kR 72 = 100 + 120) (by decide) hi_3 rfl dX0_advance_80 ?_
          refine m_pSi (As := [.int ((mst σ_1 71 5 (σ_1 71 4)) 72 (((mst σ_1 71 5 (σ_1 71 4)) 71 4).toNatClampNeg))]) (rest := [.ref (a 71)]) C0.z hb hml hl.1 wm_X0_158 md_X0_tokenOf (k_X0_tokenOf l ((mst σ_1 71 5 (σ_1 71 4)) 72 (((mst σ_1 71 5 (σ_1 71 4)) 71 4).toNatClampNeg))) rfl rfl ⟨(Nat.le_of_ble_eq_true rfl), (Nat.le_of_ble_eq_true rfl)⟩ rfl rfl (Nat.le_of_ble_eq_true rfl) dX0_advance_81 ?_
          refine pf_X0_22 (o := 71) C0 hb hP hS (rfl : kR 71 = 0) dX0_advance_84 (fun H locs hP hS => ?_)
          refine lv_aload_n hx hb dX0_advance_87 rfl (lv_at hl 0 rfl) ?_
          refine lv_dup hx hb dX0_advance_88 rfl ?_
          refine gf_X0_28 (o := 71) C0 hb hP (rfl : kR 71 = 0) dX0_advance_89 ?_
          refine lv_iconst (v := 1) hx hb dX0_advance_92 (by decide) ?_
          refine lv_iadd hx hb dX0_advance_93 ?_
          refine pf_X0_28 (o := 71) C0 hb hP hS (rfl : kR 71 = 0) dX0_advance_94 (fun H locs hP hS => ?_)
          have L_11 : ∀ (fu97 : Nat) (σ_4 : Mem) (H : Heap) (locs : List Loc) (ls : Array Slot), it1 f_X0_advance_B97 fu97 σ_4 = some q → HP G kR nR a σ_4 H → va_S (AW nR a) s.heap H locs → lv_has ls 1 [(0, .ref (a 71))] → W p l e ({ frames := 1, cells := 0, slots := 0, locals := 20 } : Room) s m ([.ref (a 71)] : List Value).toArray below meth c H locs 0 0 (MQ below (QV G kR nR a q) ([.ref (a 71)] : List Value).toArray s 0 0 (AW nR a)) (F0 m 97 ls []) := by
            intro fu97
            induction fu97 with
            | zero =>
              intro σ_4 H locs ls h
              cases h
            | succ fu97 ih97 =>
              intro σ_4 H locs ls h hP hS hl
              replace h : f_X0_advance_B97 (it1 f_X0_advance_B97 fu97) σ_4 = some q := h
              generalize it1 f_X0_advance_B97 fu97 = rec97 at h ih97
              unfold f_X0_advance_B97 at h
              refine lv_aload_n hx hb dX0_advance_97 rfl (lv_at hl 0 rfl) ?_
              refine gf_X0_28 (o := 71) C0 hb hP (rfl : kR 71 = 0) dX0_advance_98 ?_
              refine lv_aload_n hx hb dX0_advance_101 rfl (lv_at hl 0 rfl) ?_
              refine gf_X0_15 (o := 71) C0 hb hP (rfl : kR 71 = 0) dX0_advance_102 ?_
              refine lv_icmp_ge (tgt := 156) hx hb dX0_advance_105 (by decide) (fun (c_5 : (σ_4 71 1) ≤ (σ_4 71 5)) => ?_) (fun (c_5 : ¬ (σ_4 71 1) ≤ (σ_4 71 5)) => ?_)
              · rw [if_pos c_5] at h
                exact m_rv hx hb hr hlk hP hS (Option.some.inj h) dX0_advance_156
              · rw [if_neg c_5] at h
                refine lv_aload_n hx hb dX0_advance_108 rfl (lv_at hl 0 rfl) ?_
                refine gf_X0_22 (o := 71) C0 hb hP (rfl : kR 71 = 0) dX0_advance_109 ?_
                refine lv_iconst (v := 1) hx hb dX0_advance_112 (by decide) ?_
                have J_8 : ∀  (H : Heap) (locs : List Loc) (ls : Array Slot), f_X0_advance_J124 σ_4 rec97 = some q → HP G kR nR a σ_4 H → va_S (AW nR a) s.heap H locs → lv_has ls 1 [(0, .ref (a 71))] → W p l e ({ frames := 1, cells := 0, slots := 0, locals := 20 } : Room) s m ([.ref (a 71)] : List Value).toArray below meth c H locs 0 0 (MQ below (QV G kR nR a q) ([.ref (a 71)] : List Value).toArray s 0 0 (AW nR a)) (F0 m 124 ls []) := by
                  intro  H locs ls h hP hS hl
                  unfold f_X0_advance_J124 at h
                  refine lv_aload_n hx hb dX0_advance_124 rfl (lv_at hl 0 rfl) ?_
                  refine gf_X0_9 (o := 71) (o2 := 72) C0 hb hP (rfl : kR 71 = 0) rfl dX0_advance_125 ?_
                  refine lv_aload_n hx hb dX0_advance_128 rfl (lv_at hl 0 rfl) ?_
                  refine gf_X0_28 (o := 71) C0 hb hP (rfl : kR 71 = 0) dX0_advance_129 ?_
                  obtain ⟨hi_6, h⟩ := chk_s h
                  refine m_iald (o := 72) (N := 120) (i := σ_4 71 5) (j := (σ_4 71 5).toNatClampNeg) C0 hb hP (rfl : kR 72 = 100 + 120) (by decide) hi_6 rfl dX0_advance_132 ?_
                  refine m_pSi (As := [.int (σ_4 72 ((σ_4 71 5).toNatClampNeg))]) (rest := []) C0.z hb hml hl.1 wm_X0_158 md_X0_tokenOf (k_X0_tokenOf l (σ_4 72 ((σ_4 71 5).toNatClampNeg))) rfl rfl ⟨(Nat.le_of_ble_eq_true rfl), (Nat.le_of_ble_eq_true rfl)⟩ rfl rfl (Nat.le_of_ble_eq_true rfl) dX0_advance_133 ?_
                  refine lv_aload_n hx hb dX0_advance_136 rfl (lv_at hl 0 rfl) ?_
                  refine gf_X0_22 (o := 71) C0 hb hP (rfl : kR 71 = 0) dX0_advance_137 ?_
                  refine lv_icmp_ne (tgt := 156) hx hb dX0_advance_140 (by decide) (fun (c_7 : ¬ (f_X0_tokenOf (σ_4 72 ((σ_4 71 5).toNatClampNeg))) = (σ_4 71 3)) => ?_) (fun (c_7 : (f_X0_tokenOf (σ_4 72 ((σ_4 71 5).toNatClampNeg))) = (σ_4 71 3)) => ?_)
                  · rw [if_neg c_7] at h
                    exact m_rv hx hb hr hlk hP hS (Option.some.inj h) dX0_advance_156
                  · rw [if_pos c_7] at h
                    refine lv_aload_n hx hb dX0_advance_143 rfl (lv_at hl 0 rfl) ?_
                    refine lv_dup hx hb dX0_advance_144 rfl ?_
                    refine gf_X0_28 (o := 71) C0 hb hP (rfl : kR 71 = 0) dX0_advance_145 ?_
                    refine lv_iconst (v := 1) hx hb dX0_advance_148 (by decide) ?_
                    refine lv_iadd hx hb dX0_advance_149 ?_
                    refine pf_X0_28 (o := 71) C0 hb hP hS (rfl : kR 71 = 0) dX0_advance_150 (fun H locs hP hS => ?_)
                    refine lv_goto (tgt := 97) hx hb dX0_advance_153 (by decide) ?_
                    exact ih97 (mst σ_4 71 5 ((σ_4 71 5) + 1)) _ _ _ h hP hS (lv_sub hl [0] rfl)
                refine lv_icmp_eq (tgt := 124) hx hb dX0_advance_113 (by decide) (fun (c_9 : (σ_4 71 3) = 1) => ?_) (fun (c_9 : ¬ (σ_4 71 3) = 1) => ?_)
                · rw [if_pos c_9] at h
                  exact J_8  _ _ _ h hP hS (lv_sub hl [0] rfl)
                · rw [if_neg c_9] at h
                  refine lv_aload_n hx hb dX0_advance_116 rfl (lv_at hl 0 rfl) ?_
                  refine gf_X0_22 (o := 71) C0 hb hP (rfl : kR 71 = 0) dX0_advance_117 ?_
                  refine lv_iconst (v := 2) hx hb dX0_advance_120 (by decide) ?_
                  refine lv_icmp_ne (tgt := 156) hx hb dX0_advance_121 (by decide) (fun (c_10 : ¬ (σ_4 71 3) = 2) => ?_) (fun (c_10 : (σ_4 71 3) = 2) => ?_)
                  · rw [if_neg c_10] at h
                    exact m_rv hx hb hr hlk hP hS (Option.some.inj h) dX0_advance_156
                  · rw [if_pos c_10] at h
                    exact J_8  _ _ _ h hP hS (lv_sub hl [0] rfl)
          exact L_11 FU (mst (mst (mst σ_1 71 5 (σ_1 71 4)) 71 3 (f_X0_tokenOf ((mst σ_1 71 5 (σ_1 71 4)) 72 (((mst σ_1 71 5 (σ_1 71 4)) 71 4).toNatClampNeg)))) 71 5 (((mst (mst σ_1 71 5 (σ_1 71 4)) 71 3 (f_X0_tokenOf ((mst σ_1 71 5 (σ_1 71 4)) 72 (((mst σ_1 71 5 (σ_1 71 4)) 71 4).toNatClampNeg)))) 71 5) + 1)) _ _ _ h hP hS (lv_sub hl [0] rfl)
        · rw [if_neg c_2] at h
          refine lv_aload_n hx hb dX0_advance_65 rfl (lv_at hl 0 rfl) ?_
          refine lv_iconst (v := 0) hx hb dX0_advance_66 (by decide) ?_
          refine pf_X0_22 (o := 71) C0 hb hP hS (rfl : kR 71 = 0) dX0_advance_67 (fun H locs hP hS => ?_)
          exact m_rv hx hb hr hlk hP hS (Option.some.inj h) dX0_advance_70
      refine lv_icmp_ge (tgt := 46) hx hb dX0_advance_16 (by decide) (fun (c_13 : (σ_1 71 1) ≤ (σ_1 71 4)) => ?_) (fun (c_13 : ¬ (σ_1 71 1) ≤ (σ_1 71 4)) => ?_)
      · rw [if_pos c_13] at h
        exact J_12  _ _ _ h hP hS (lv_sub hl [0] rfl)
      · rw [if_neg c_13] at h
        refine lv_aload_n hx hb dX0_advance_19 rfl (lv_at hl 0 rfl) ?_
        refine gf_X0_9 (o := 71) (o2 := 72) C0 hb hP (rfl : kR 71 = 0) rfl dX0_advance_20 ?_
        refine lv_aload_n hx hb dX0_advance_23 rfl (lv_at hl 0 rfl) ?_
        refine gf_X0_25 (o := 71) C0 hb hP (rfl : kR 71 = 0) dX0_advance_24 ?_
        obtain ⟨hi_14, h⟩ := chk_s h
        refine m_iald (o := 72) (N := 120) (i := σ_1 71 4) (j := (σ_1 71 4).toNatClampNeg) C0 hb hP (rfl : kR 72 = 100 + 120) (by decide) hi_14 rfl dX0_advance_27 ?_
        refine lv_bipush (v := 32) hx hb dX0_advance_28 (by decide) ?_
        refine lv_icmp_ne (tgt := 46) hx hb dX0_advance_30 (by decide) (fun (c_15 : ¬ (σ_1 72 ((σ_1 71 4).toNatClampNeg)) = 32) => ?_) (fun (c_15 : (σ_1 72 ((σ_1 71 4).toNatClampNeg)) = 32) => ?_)
        · rw [if_neg c_15] at h
          exact J_12  _ _ _ h hP hS (lv_sub hl [0] rfl)
        · rw [if_pos c_15] at h
          refine lv_aload_n hx hb dX0_advance_33 rfl (lv_at hl 0 rfl) ?_
          refine lv_dup hx hb dX0_advance_34 rfl ?_
          refine gf_X0_25 (o := 71) C0 hb hP (rfl : kR 71 = 0) dX0_advance_35 ?_
          refine lv_iconst (v := 1) hx hb dX0_advance_38 (by decide) ?_
          refine lv_iadd hx hb dX0_advance_39 ?_
          refine pf_X0_25 (o := 71) C0 hb hP hS (rfl : kR 71 = 0) dX0_advance_40 (fun H locs hP hS => ?_)
          refine lv_goto (tgt := 8) hx hb dX0_advance_43 (by decide) ?_
          exact ih8 (mst σ_1 71 4 ((σ_1 71 4) + 1)) _ _ _ h hP hS (lv_sub hl [0] rfl)
  exact L_16 FU (mst σ 71 4 (σ 71 5)) _ _ _ h hP hS (lv_sub hl [0] rfl)
def f_X0_faultHere (σ : Mem) : Mem := mst σ 71 2 (σ 71 4)
set_option maxHeartbeats 4000000 in
set_option maxRecDepth 100000 in
theorem k_X0_faultHere (l : Launch) (G : GG) (a : Nat → Nat) (σ : Mem) (hj : INJ nR a)  : Met l yX0_faultHere (Cond.code yX0_faultHere cX0_faultHere 1 none :: TB) ({ frames := 0, cells := 0, slots := 0, locals := 0 } : Room) (PA G kR nR a σ [.ref (a 71)]) (QV G kR nR a (f_X0_faultHere σ)) 0 0 (AW nR a) := by
  generalize h : f_X0_faultHere σ = q
  refine M_ofW (by decide) hj kR_lt (Nat.le_of_ble_eq_true rfl) (fun p e s m below meth c ls C0 hb hml hr hlk hP hS hl => ?_)
  have C0 : CT p s _ m RX0 G kR nR a := C0
  have hx := C0.1
  have hts := C0.2.1
  have hown := C0.2.2.1
  have hstr := C0.2.2.2.1.2.2.2.1
  have hl : lv_has ls 1 [(0, .ref (a 71))] := hl
  unfold f_X0_faultHere at h
  refine lv_aload_n hx hb dX0_faultHere_0 rfl (lv_at hl 0 rfl) ?_
  refine lv_aload_n hx hb dX0_faultHere_1 rfl (lv_at hl 0 rfl) ?_
  refine gf_X0_25 (o := 71) C0 hb hP (rfl : kR 71 = 0) dX0_faultHere_2 ?_
  refine pf_X0_19 (o := 71) C0 hb hP hS (rfl : kR 71 = 0) dX0_faultHere_5 (fun H locs hP hS => ?_)
  exact m_rv hx hb hr hlk hP hS h dX0_faultHere_8
def f_X0_numberHere_B7 (σ : Mem) (rec7 : Int32 → Int32 → Option (Int32)) (x1_1 : Int32) (x2_2 : Int32) : Option (Int32) := (if (σ 71 5) ≤ x2_2 then some x1_1 else (chk x2_2 120 (rec7 (jmin 10000 (((10 * x1_1) + (σ 72 x2_2.toNatClampNeg)) - 48)) (x2_2 + 1))))
def f_X0_numberHere (σ : Mem) : Option (Int32) := (it2 (f_X0_numberHere_B7 σ) FU 0 (σ 71 4))
set_option maxHeartbeats 4000000 in
set_option maxRecDepth 100000 in
theorem k_X0_numberHere (l : Launch) (G : GG) (a : Nat → Nat) (σ : Mem) (hj : INJ nR a)  (q : Int32) (h : f_X0_numberHere σ = some q) : Met l yX0_numberHere (Cond.code yX0_numberHere cX0_numberHere 3 (some .int) :: TB) ({ frames := 1, cells := 0, slots := 0, locals := 21 } : Room) (PA G kR nR a σ [.ref (a 71)]) (SI q) 0 0 NF := by
  refine M_ofW (by decide) hj kR_lt (Nat.le_of_ble_eq_true rfl) (fun p e s m below meth c ls C0 hb hml hr hlk hP hS hl => ?_)
  have C0 : CT p s _ m RX0 G kR nR a := C0
  have hx := C0.1
  have hts := C0.2.1
  have hown := C0.2.2.1
  have hstr := C0.2.2.2.1.2.2.2.1
  have hl : lv_has ls 3 [(0, .ref (a 71))] := hl
  unfold f_X0_numberHere at h
  refine lv_iconst (v := 0) hx hb dX0_numberHere_0 (by decide) ?_
  refine lv_istore_n (lv' := [(1, .int 0), (0, .ref (a 71))]) hx hb dX0_numberHere_1 rfl hl (by decide) rfl (fun ls hl => ?_)
  refine lv_aload_n hx hb dX0_numberHere_2 rfl (lv_at hl 1 rfl) ?_
  refine gf_X0_25 (o := 71) C0 hb hP (rfl : kR 71 = 0) dX0_numberHere_3 ?_
  refine lv_istore_n (lv' := [(2, .int (σ 71 4)), (1, .int 0), (0, .ref (a 71))]) hx hb dX0_numberHere_6 rfl hl (by decide) rfl (fun ls hl => ?_)
  have L_5 : ∀ (fu7 : Nat) (x1_1 : Int32) (x2_2 : Int32) (ls : Array Slot), it2 (f_X0_numberHere_B7 σ) fu7 x1_1 x2_2 = some q → lv_has ls 3 [(2, .int x2_2), (1, .int x1_1), (0, .ref (a 71))] → W p l e ({ frames := 1, cells := 0, slots := 0, locals := 21 } : Room) s m ([.ref (a 71)] : List Value).toArray below meth c s.heap [] 0 0 (MQ below (SI q) ([.ref (a 71)] : List Value).toArray s 0 0 NF) (F0 m 7 ls []) := by
    intro fu7
    induction fu7 with
    | zero =>
      intro x1_1 x2_2 ls h
      cases h
    | succ fu7 ih7 =>
      intro x1_1 x2_2 ls h hl
      replace h : (f_X0_numberHere_B7 σ) (it2 (f_X0_numberHere_B7 σ) fu7) x1_1 x2_2 = some q := h
      generalize it2 (f_X0_numberHere_B7 σ) fu7 = rec7 at h ih7
      unfold f_X0_numberHere_B7 at h
      refine lv_iload_n hx hb dX0_numberHere_7 rfl (lv_at hl 0 rfl) ?_
      refine lv_aload_n hx hb dX0_numberHere_8 rfl (lv_at hl 2 rfl) ?_
      refine gf_X0_28 (o := 71) C0 hb hP (rfl : kR 71 = 0) dX0_numberHere_9 ?_
      refine lv_icmp_ge (tgt := 42) hx hb dX0_numberHere_12 (by decide) (fun (c_3 : (σ 71 5) ≤ x2_2) => ?_) (fun (c_3 : ¬ (σ 71 5) ≤ x2_2) => ?_)
      · rw [if_pos c_3] at h
        refine lv_iload_n hx hb dX0_numberHere_42 rfl (lv_at hl 1 rfl) ?_
        exact m_si hx hb hr hlk (Option.some.inj h) dX0_numberHere_43
      · rw [if_neg c_3] at h
        refine lv_sipush (v := 10000) hx hb dX0_numberHere_15 (by decide) ?_
        refine lv_bipush (v := 10) hx hb dX0_numberHere_18 (by decide) ?_
        refine lv_iload_n hx hb dX0_numberHere_20 rfl (lv_at hl 1 rfl) ?_
        refine lv_imul hx hb dX0_numberHere_21 ?_
        refine lv_aload_n hx hb dX0_numberHere_22 rfl (lv_at hl 2 rfl) ?_
        refine gf_X0_9 (o := 71) (o2 := 72) C0 hb hP (rfl : kR 71 = 0) rfl dX0_numberHere_23 ?_
        refine lv_iload_n hx hb dX0_numberHere_26 rfl (lv_at hl 0 rfl) ?_
        obtain ⟨hi_4, h⟩ := chk_s h
        refine m_iald (o := 72) (N := 120) (i := x2_2) (j := x2_2.toNatClampNeg) C0 hb hP (rfl : kR 72 = 100 + 120) (by decide) hi_4 rfl dX0_numberHere_27 ?_
        refine lv_iadd hx hb dX0_numberHere_28 ?_
        refine lv_bipush (v := 48) hx hb dX0_numberHere_29 (by decide) ?_
        refine lv_isub hx hb dX0_numberHere_31 ?_
        refine m_min (rest := []) C0 hb hml hl.1 wm_X0_153 (Nat.le_of_ble_eq_true rfl) (Nat.le_of_ble_eq_true rfl) (Nat.zero_le _) (Nat.zero_le _) dX0_numberHere_32 ?_
        refine lv_istore_n (lv' := [(1, .int (jmin 10000 (((10 * x1_1) + (σ 72 x2_2.toNatClampNeg)) - 48))), (2, .int x2_2), (0, .ref (a 71))]) hx hb dX0_numberHere_35 rfl hl (by decide) rfl (fun ls hl => ?_)
        refine lv_iinc (v := x2_2 + 1) (lv' := [(2, .int (x2_2 + 1)), (1, .int (jmin 10000 (((10 * x1_1) + (σ 72 x2_2.toNatClampNeg)) - 48))), (0, .ref (a 71))]) hx hb dX0_numberHere_36 hl (k := 1) rfl rfl (by decide) rfl (fun ls hl => ?_)
        refine lv_goto (tgt := 7) hx hb dX0_numberHere_39 (by decide) ?_
        exact ih7 (jmin 10000 (((10 * x1_1) + (σ 72 x2_2.toNatClampNeg)) - 48)) (x2_2 + 1) _ h (lv_sub hl [0, 1, 2] rfl)
  exact L_5 FU 0 (σ 71 4) _ h (lv_sub hl [0, 1, 2] rfl)
def f_X0_takeNumber_J18 (x1 : Int32) (σ : Mem) (t_1 : Int32) : Option (Int32 × Mem) := (if t_1 ≤ x1 then ((f_X0_advance σ).bind fun q_3 => some (t_1, q_3)) else some (0, (f_X0_faultHere σ)))
def f_X0_takeNumber (x1 : Int32) (σ : Mem) : Option (Int32 × Mem) := (if (σ 71 3) = 2 then ((f_X0_numberHere σ).bind fun q_7 => (f_X0_takeNumber_J18 x1 σ q_7)) else (f_X0_takeNumber_J18 x1 σ 10000))
set_option maxHeartbeats 4000000 in
set_option maxRecDepth 100000 in
theorem k_X0_takeNumber (l : Launch) (G : GG) (a : Nat → Nat) (σ : Mem) (hj : INJ nR a) (x1 : Int32) (q : Int32 × Mem) (h : f_X0_takeNumber x1 σ = some q) : Met l yX0_takeNumber (Cond.code yX0_takeNumber cX0_takeNumber 3 (some .int) :: TB) ({ frames := 2, cells := 0, slots := 0, locals := 43 } : Room) (PA G kR nR a σ [.ref (a 71), .int x1]) (QI G kR nR a q) 0 0 (AW nR a) := by
  refine M_ofW (by decide) hj kR_lt (Nat.le_of_ble_eq_true rfl) (fun p e s m below meth c ls C0 hb hml hr hlk hP hS hl => ?_)
  have C0 : CT p s _ m RX0 G kR nR a := C0
  have hx := C0.1
  have hts := C0.2.1
  have hown := C0.2.2.1
  have hstr := C0.2.2.2.1.2.2.2.1
  have hl : lv_has ls 3 [(0, .ref (a 71)), (1, .int x1)] := hl
  unfold f_X0_takeNumber at h
  refine lv_aload_n hx hb dX0_takeNumber_0 rfl (lv_at hl 0 rfl) ?_
  refine gf_X0_22 (o := 71) C0 hb hP (rfl : kR 71 = 0) dX0_takeNumber_1 ?_
  refine lv_iconst (v := 2) hx hb dX0_takeNumber_4 (by decide) ?_
  have J_5 : ∀ (t_1 : Int32) (H : Heap) (locs : List Loc) (ls : Array Slot), f_X0_takeNumber_J18 x1 σ t_1 = some q → HP G kR nR a σ H → va_S (AW nR a) s.heap H locs → lv_has ls 3 [(0, .ref (a 71)), (1, .int x1)] → W p l e ({ frames := 2, cells := 0, slots := 0, locals := 43 } : Room) s m ([.ref (a 71), .int x1] : List Value).toArray below meth c H locs 0 0 (MQ below (QI G kR nR a q) ([.ref (a 71), .int x1] : List Value).toArray s 0 0 (AW nR a)) (F0 m 18 ls [.int t_1]) := by
    intro t_1 H locs ls h hP hS hl
    unfold f_X0_takeNumber_J18 at h
    refine lv_istore_n (lv' := [(2, .int t_1), (0, .ref (a 71)), (1, .int x1)]) hx hb dX0_takeNumber_18 rfl hl (by decide) rfl (fun ls hl => ?_)
    refine lv_iload_n hx hb dX0_takeNumber_19 rfl (lv_at hl 0 rfl) ?_
    refine lv_iload_n hx hb dX0_takeNumber_20 rfl (lv_at hl 2 rfl) ?_
    refine lv_icmp_le (tgt := 30) hx hb dX0_takeNumber_21 (by decide) (fun (c_2 : t_1 ≤ x1) => ?_) (fun (c_2 : ¬ t_1 ≤ x1) => ?_)
    · rw [if_pos c_2] at h
      refine lv_aload_n hx hb dX0_takeNumber_30 rfl (lv_at hl 1 rfl) ?_
      obtain ⟨q_3, hq_4, h⟩ := bd_s h
      refine m_cVv (As := []) (rest := []) (o := 71) (ci := 0) C0 hb hml hl.1 wm_X0_31 md_X0_advance (k_X0_advance l G a σ hj q_3 hq_4) rfl rfl ⟨(Nat.le_of_ble_eq_true rfl), (Nat.le_of_ble_eq_true rfl)⟩ hP hS (rfl : kR 71 = 0) (by decide) rfl rfl rfl (Nat.le_of_ble_eq_true rfl) dX0_takeNumber_31 (fun H locs hP hS => ?_)
      refine lv_iload_n hx hb dX0_takeNumber_34 rfl (lv_at hl 0 rfl) ?_
      exact m_ri hx hb hr hlk hP hS (Option.some.inj h) dX0_takeNumber_35
    · rw [if_neg c_2] at h
      refine lv_aload_n hx hb dX0_takeNumber_24 rfl (lv_at hl 1 rfl) ?_
      refine m_cVv (As := []) (rest := []) (o := 71) (ci := 0) C0 hb hml hl.1 wm_X0_42 md_X0_faultHere (k_X0_faultHere l G a σ hj) rfl rfl ⟨(Nat.le_of_ble_eq_true rfl), (Nat.le_of_ble_eq_true rfl)⟩ hP hS (rfl : kR 71 = 0) (by decide) rfl rfl rfl (Nat.le_of_ble_eq_true rfl) dX0_takeNumber_25 (fun H locs hP hS => ?_)
      refine lv_iconst (v := 0) hx hb dX0_takeNumber_28 (by decide) ?_
      exact m_ri hx hb hr hlk hP hS (Option.some.inj h) dX0_takeNumber_29
  refine lv_icmp_ne (tgt := 15) hx hb dX0_takeNumber_5 (by decide) (fun (c_6 : ¬ (σ 71 3) = 2) => ?_) (fun (c_6 : (σ 71 3) = 2) => ?_)
  · rw [if_neg c_6] at h
    refine lv_sipush (v := 10000) hx hb dX0_takeNumber_15 (by decide) ?_
    exact J_5 10000 _ _ _ h hP hS (lv_sub hl [0, 1] rfl)
  · rw [if_pos c_6] at h
    refine lv_aload_n hx hb dX0_takeNumber_8 rfl (lv_at hl 0 rfl) ?_
    obtain ⟨q_7, hq_8, h⟩ := bd_s h
    refine m_rVi (As := []) (rest := []) (o := 71) (ci := 0) C0 hb hml hl.1 wm_X0_150 md_X0_numberHere (k_X0_numberHere l G a σ hj q_7 hq_8) rfl rfl ⟨(Nat.le_of_ble_eq_true rfl), (Nat.le_of_ble_eq_true rfl)⟩ hP hS (rfl : kR 71 = 0) (by decide) rfl rfl rfl (Nat.le_of_ble_eq_true rfl) dX0_takeNumber_9 ?_
    refine lv_goto (tgt := 18) hx hb dX0_takeNumber_12 (by decide) ?_
    exact J_5 q_7 _ _ _ h hP hS (lv_sub hl [0, 1] rfl)
def f_X0_readInto (c1 : Nat) (N1 : Nat) (x2 : Int32) (σ : Mem) : Option (Mem) := ((f_X0_takeNumber ((Int32.ofNat N1) - 1) σ).bind fun q_1 => (if (f_X0_hasFault q_1.2) = 0 then ((f_X0_takeNumber x2 q_1.2).bind fun q_4 => (if (f_X0_hasFault q_4.2) = 0 then (chk q_1.1 N1 (some (mst q_4.2 c1 q_1.1.toNatClampNeg q_4.1))) else some q_4.2)) else some q_1.2))
set_option maxHeartbeats 4000000 in
set_option maxRecDepth 100000 in
theorem k_X0_readInto (l : Launch) (G : GG) (a : Nat → Nat) (σ : Mem) (hj : INJ nR a) (c1 : Nat) (N1 : Nat) (hk1 : kR c1 = 100 + N1) (hN1 : N1 < 700) (x2 : Int32) (q : Mem) (h : f_X0_readInto c1 N1 x2 σ = some q) : Met l yX0_readInto (Cond.code yX0_readInto cX0_readInto 5 none :: TB) ({ frames := 3, cells := 0, slots := 0, locals := 65 } : Room) (PA G kR nR a σ [.ref (a 71), .ref (a c1), .int x2]) (QV G kR nR a q) 0 0 (AW nR a) := by
  refine M_ofW (by decide) hj kR_lt (Nat.le_of_ble_eq_true rfl) (fun p e s m below meth c ls C0 hb hml hr hlk hP hS hl => ?_)
  have C0 : CT p s _ m RX0 G kR nR a := C0
  have hx := C0.1
  have hts := C0.2.1
  have hown := C0.2.2.1
  have hstr := C0.2.2.2.1.2.2.2.1
  have hl : lv_has ls 5 [(0, .ref (a 71)), (1, .ref (a c1)), (2, .int x2)] := hl
  unfold f_X0_readInto at h
  refine lv_aload_n hx hb dX0_readInto_0 rfl (lv_at hl 0 rfl) ?_
  refine lv_aload_n hx hb dX0_readInto_1 rfl (lv_at hl 1 rfl) ?_
  refine m_alen (o := c1) (N := N1) C0 hb hP hk1 hN1 dX0_readInto_2 ?_
  refine lv_iconst (v := 1) hx hb dX0_readInto_3 (by decide) ?_
  refine lv_isub hx hb dX0_readInto_4 ?_
  obtain ⟨q_1, hq_2, h⟩ := bd_s h
  refine m_cVi (As := [.int ((Int32.ofNat N1) - 1)]) (rest := []) (o := 71) (ci := 0) C0 hb hml hl.1 wm_X0_98 md_X0_takeNumber (k_X0_takeNumber l G a σ hj ((Int32.ofNat N1) - 1) q_1 hq_2) rfl rfl ⟨(Nat.le_of_ble_eq_true rfl), (Nat.le_of_ble_eq_true rfl)⟩ hP hS (rfl : kR 71 = 0) (by decide) rfl rfl rfl (Nat.le_of_ble_eq_true rfl) dX0_readInto_5 (fun H locs hP hS => ?_)
  refine lv_istore_n (lv' := [(3, .int q_1.1), (0, .ref (a 71)), (1, .ref (a c1)), (2, .int x2)]) hx hb dX0_readInto_8 rfl hl (by decide) rfl (fun ls hl => ?_)
  refine lv_aload_n hx hb dX0_readInto_9 rfl (lv_at hl 1 rfl) ?_
  refine m_rVi (As := []) (rest := []) (o := 71) (ci := 0) C0 hb hml hl.1 wm_X0_38 md_X0_hasFault (k_X0_hasFault l G a q_1.2 hj) rfl rfl ⟨(Nat.le_of_ble_eq_true rfl), (Nat.le_of_ble_eq_true rfl)⟩ hP hS (rfl : kR 71 = 0) (by decide) rfl rfl rfl (Nat.le_of_ble_eq_true rfl) dX0_readInto_10 ?_
  refine lv_if_eq (tgt := 17) hx hb dX0_readInto_13 (by decide) (fun (c_3 : (f_X0_hasFault q_1.2) = 0) => ?_) (fun (c_3 : ¬ (f_X0_hasFault q_1.2) = 0) => ?_)
  · rw [if_pos c_3] at h
    refine lv_aload_n hx hb dX0_readInto_17 rfl (lv_at hl 1 rfl) ?_
    refine lv_iload_n hx hb dX0_readInto_18 rfl (lv_at hl 3 rfl) ?_
    obtain ⟨q_4, hq_5, h⟩ := bd_s h
    refine m_cVi (As := [.int x2]) (rest := []) (o := 71) (ci := 0) C0 hb hml hl.1 wm_X0_98 md_X0_takeNumber (k_X0_takeNumber l G a q_1.2 hj x2 q_4 hq_5) rfl rfl ⟨(Nat.le_of_ble_eq_true rfl), (Nat.le_of_ble_eq_true rfl)⟩ hP hS (rfl : kR 71 = 0) (by decide) rfl rfl rfl (Nat.le_of_ble_eq_true rfl) dX0_readInto_19 (fun H locs hP hS => ?_)
    refine lv_istore (lv' := [(4, .int q_4.1), (3, .int q_1.1), (0, .ref (a 71)), (1, .ref (a c1)), (2, .int x2)]) hx hb dX0_readInto_22 hl (by decide) rfl (fun ls hl => ?_)
    refine lv_aload_n hx hb dX0_readInto_24 rfl (lv_at hl 2 rfl) ?_
    refine m_rVi (As := []) (rest := []) (o := 71) (ci := 0) C0 hb hml hl.1 wm_X0_38 md_X0_hasFault (k_X0_hasFault l G a q_4.2 hj) rfl rfl ⟨(Nat.le_of_ble_eq_true rfl), (Nat.le_of_ble_eq_true rfl)⟩ hP hS (rfl : kR 71 = 0) (by decide) rfl rfl rfl (Nat.le_of_ble_eq_true rfl) dX0_readInto_25 ?_
    refine lv_if_ne (tgt := 36) hx hb dX0_readInto_28 (by decide) (fun (c_6 : ¬ (f_X0_hasFault q_4.2) = 0) => ?_) (fun (c_6 : (f_X0_hasFault q_4.2) = 0) => ?_)
    · rw [if_neg c_6] at h
      exact m_rv hx hb hr hlk hP hS (Option.some.inj h) dX0_readInto_36
    · rw [if_pos c_6] at h
      refine lv_aload_n hx hb dX0_readInto_31 rfl (lv_at hl 3 rfl) ?_
      refine lv_iload_n hx hb dX0_readInto_32 rfl (lv_at hl 1 rfl) ?_
      refine lv_iload hx hb dX0_readInto_33 (lv_at hl 0 rfl) ?_
      obtain ⟨hi_7, h⟩ := chk_s h
      refine m_iast (o := c1) (N := N1) (i := q_1.1) (j := q_1.1.toNatClampNeg) C0 hb hP hS hk1 hN1 hi_7 rfl dX0_readInto_35 (fun H locs hP hS => ?_)
      exact m_rv hx hb hr hlk hP hS (Option.some.inj h) dX0_readInto_36
  · rw [if_neg c_3] at h
    exact m_rv hx hb hr hlk hP hS (Option.some.inj h) dX0_readInto_16
def f_X0_readSteady (c1 : Nat) (σ : Mem) : Option (Mem) := ((f_X0_takeNumber 99 σ).bind fun q_1 => (if (f_X0_hasFault q_1.2) = 0 then ((f_X4_openAll c1 q_1.1 q_1.2).bind fun q_4 => some q_4) else some q_1.2))
set_option maxHeartbeats 4000000 in
set_option maxRecDepth 100000 in
theorem k_X0_readSteady (l : Launch) (G : GG) (a : Nat → Nat) (σ : Mem) (hj : INJ nR a) (c1 : Nat) (hk1 : isW c1) (q : Mem) (h : f_X0_readSteady c1 σ = some q) : Met l yX0_readSteady (Cond.code yX0_readSteady cX0_readSteady 3 none :: TB) ({ frames := 3, cells := 0, slots := 0, locals := 65 } : Room) (PA G kR nR a σ [.ref (a 71), .ref (a c1)]) (QV G kR nR a q) 0 0 (AW nR a) := by
  refine M_ofW (by decide) hj kR_lt (Nat.le_of_ble_eq_true rfl) (fun p e s m below meth c ls C0 hb hml hr hlk hP hS hl => ?_)
  have C0 : CT p s _ m RX0 G kR nR a := C0
  have hx := C0.1
  have hts := C0.2.1
  have hown := C0.2.2.1
  have hstr := C0.2.2.2.1.2.2.2.1
  have hl : lv_has ls 3 [(0, .ref (a 71)), (1, .ref (a c1))] := hl
  unfold f_X0_readSteady at h
  refine lv_aload_n hx hb dX0_readSteady_0 rfl (lv_at hl 0 rfl) ?_
  refine lv_bipush (v := 99) hx hb dX0_readSteady_1 (by decide) ?_
  obtain ⟨q_1, hq_2, h⟩ := bd_s h
  refine m_cVi (As := [.int 99]) (rest := []) (o := 71) (ci := 0) C0 hb hml hl.1 wm_X0_98 md_X0_takeNumber (k_X0_takeNumber l G a σ hj 99 q_1 hq_2) rfl rfl ⟨(Nat.le_of_ble_eq_true rfl), (Nat.le_of_ble_eq_true rfl)⟩ hP hS (rfl : kR 71 = 0) (by decide) rfl rfl rfl (Nat.le_of_ble_eq_true rfl) dX0_readSteady_3 (fun H locs hP hS => ?_)
  refine lv_istore_n (lv' := [(2, .int q_1.1), (0, .ref (a 71)), (1, .ref (a c1))]) hx hb dX0_readSteady_6 rfl hl (by decide) rfl (fun ls hl => ?_)
  refine lv_aload_n hx hb dX0_readSteady_7 rfl (lv_at hl 1 rfl) ?_
  refine m_rVi (As := []) (rest := []) (o := 71) (ci := 0) C0 hb hml hl.1 wm_X0_38 md_X0_hasFault (k_X0_hasFault l G a q_1.2 hj) rfl rfl ⟨(Nat.le_of_ble_eq_true rfl), (Nat.le_of_ble_eq_true rfl)⟩ hP hS (rfl : kR 71 = 0) (by decide) rfl rfl rfl (Nat.le_of_ble_eq_true rfl) dX0_readSteady_8 ?_
  refine lv_if_ne (tgt := 19) hx hb dX0_readSteady_11 (by decide) (fun (c_3 : ¬ (f_X0_hasFault q_1.2) = 0) => ?_) (fun (c_3 : (f_X0_hasFault q_1.2) = 0) => ?_)
  · rw [if_neg c_3] at h
    exact m_rv hx hb hr hlk hP hS (Option.some.inj h) dX0_readSteady_19
  · rw [if_pos c_3] at h
    refine lv_aload_n hx hb dX0_readSteady_14 rfl (lv_at hl 2 rfl) ?_
    refine lv_iload_n hx hb dX0_readSteady_15 rfl (lv_at hl 0 rfl) ?_
    obtain ⟨q_4, hq_5, h⟩ := bd_s h
    refine m_cVv (As := [.int q_1.1]) (rest := []) (o := c1) (ci := 4) C0 hb hml hl.1 wm_X0_117 md_X4_openAll (k_X4_openAll l G a q_1.2 hj c1 hk1 q_1.1 q_4 hq_5) rfl rfl ⟨(Nat.le_of_ble_eq_true rfl), (Nat.le_of_ble_eq_true rfl)⟩ hP hS (isW_k hk1) (by decide) rfl rfl rfl (Nat.le_of_ble_eq_true rfl) dX0_readSteady_16 (fun H locs hP hS => ?_)
    exact m_rv hx hb hr hlk hP hS (Option.some.inj h) dX0_readSteady_19
def f_X5_hold (x1 : Int32) (x2 : Int32) (σ : Mem) : Option (Int32 × Mem) := (if (f_X5_outside x1 9) = 0 then (if x2 = (-1) then (chk x1 10 (some (1, mst σ 7 x1.toNatClampNeg x2))) else (if (f_X5_noWatcher x2 σ) = 0 then (chk x1 10 (some (1, mst σ 7 x1.toNatClampNeg x2))) else ((f_X5_finding (-1000001) σ).bind fun q_8 => some (q_8.1, q_8.2)))) else ((f_X5_finding (-1000001) σ).bind fun q_2 => some (q_2.1, q_2.2)))
set_option maxHeartbeats 4000000 in
set_option maxRecDepth 100000 in
theorem k_X5_hold (l : Launch) (G : GG) (a : Nat → Nat) (σ : Mem) (hj : INJ nR a) (x1 : Int32) (x2 : Int32) (q : Int32 × Mem) (h : f_X5_hold x1 x2 σ = some q) : Met l yX5_hold (Cond.code yX5_hold cX5_hold 3 (some .int) :: TB) ({ frames := 2, cells := 0, slots := 0, locals := 42 } : Room) (PA G kR nR a σ [.ref (a 0), .int x1, .int x2]) (QI G kR nR a q) 0 0 (AW nR a) := by
  refine M_ofW (by decide) hj kR_lt (Nat.le_of_ble_eq_true rfl) (fun p e s m below meth c ls C0 hb hml hr hlk hP hS hl => ?_)
  have C0 : CT p s _ m RX5 G kR nR a := C0
  have hx := C0.1
  have hts := C0.2.1
  have hown := C0.2.2.1
  have hl : lv_has ls 3 [(0, .ref (a 0)), (1, .int x1), (2, .int x2)] := hl
  unfold f_X5_hold at h
  refine lv_iload_n hx hb dX5_hold_0 rfl (lv_at hl 1 rfl) ?_
  refine lv_bipush (v := 9) hx hb dX5_hold_1 (by decide) ?_
  refine m_pSi (As := [.int x1, .int 9]) (rest := []) C0.z hb hml hl.1 wm_X5_50 md_X5_outside (k_X5_outside l x1 9) rfl rfl ⟨(Nat.le_of_ble_eq_true rfl), (Nat.le_of_ble_eq_true rfl)⟩ rfl rfl (Nat.le_of_ble_eq_true rfl) dX5_hold_3 ?_
  refine lv_if_ne (tgt := 22) hx hb dX5_hold_6 (by decide) (fun (c_1 : ¬ (f_X5_outside x1 9) = 0) => ?_) (fun (c_1 : (f_X5_outside x1 9) = 0) => ?_)
  · rw [if_neg c_1] at h
    refine lv_aload_n hx hb dX5_hold_22 rfl (lv_at hl 0 rfl) ?_
    refine lv_ldc hx hb hown (hts _ wk_X5_54) dX5_hold_23 ?_
    obtain ⟨q_2, hq_3, h⟩ := bd_s h
    refine m_cVi (As := [.int (-1000001)]) (rest := []) (o := 0) (ci := 5) C0 hb hml hl.1 wm_X5_55 md_X5_finding (k_X5_finding l G a σ hj (-1000001) q_2 hq_3) rfl rfl ⟨(Nat.le_of_ble_eq_true rfl), (Nat.le_of_ble_eq_true rfl)⟩ hP hS (rfl : kR 0 = 5) (by decide) rfl rfl rfl (Nat.le_of_ble_eq_true rfl) dX5_hold_25 (fun H locs hP hS => ?_)
    exact m_ri hx hb hr hlk hP hS (Option.some.inj h) dX5_hold_28
  · rw [if_pos c_1] at h
    refine lv_iload_n hx hb dX5_hold_9 rfl (lv_at hl 2 rfl) ?_
    refine lv_iconst (v := (-1)) hx hb dX5_hold_10 (by decide) ?_
    refine lv_icmp_eq (tgt := 29) hx hb dX5_hold_11 (by decide) (fun (c_4 : x2 = (-1)) => ?_) (fun (c_4 : ¬ x2 = (-1)) => ?_)
    · rw [if_pos c_4] at h
      refine lv_aload_n hx hb dX5_hold_29 rfl (lv_at hl 0 rfl) ?_
      refine gf_X5_12 (o := 0) (o2 := 1) C0 hb hP (rfl : kR 0 = 5) rfl dX5_hold_30 ?_
      refine gf_X5_248 (o := 1) (o2 := 7) C0 hb hP (isV_k v1) rfl dX5_hold_33 ?_
      refine lv_iload_n hx hb dX5_hold_36 rfl (lv_at hl 1 rfl) ?_
      refine lv_iload_n hx hb dX5_hold_37 rfl (lv_at hl 2 rfl) ?_
      obtain ⟨hi_5, h⟩ := chk_s h
      refine m_iast (o := 7) (N := 10) (i := x1) (j := x1.toNatClampNeg) C0 hb hP hS (isV_s v1) (by decide) hi_5 rfl dX5_hold_38 (fun H locs hP hS => ?_)
      refine lv_iconst (v := 1) hx hb dX5_hold_39 (by decide) ?_
      exact m_ri hx hb hr hlk hP hS (Option.some.inj h) dX5_hold_40
    · rw [if_neg c_4] at h
      refine lv_aload_n hx hb dX5_hold_14 rfl (lv_at hl 0 rfl) ?_
      refine lv_iload_n hx hb dX5_hold_15 rfl (lv_at hl 2 rfl) ?_
      refine m_rVi (As := [.int x2]) (rest := []) (o := 0) (ci := 5) C0 hb hml hl.1 wm_X5_88 md_X5_noWatcher (k_X5_noWatcher l G a σ hj x2) rfl rfl ⟨(Nat.le_of_ble_eq_true rfl), (Nat.le_of_ble_eq_true rfl)⟩ hP hS (rfl : kR 0 = 5) (by decide) rfl rfl rfl (Nat.le_of_ble_eq_true rfl) dX5_hold_16 ?_
      refine lv_if_eq (tgt := 29) hx hb dX5_hold_19 (by decide) (fun (c_6 : (f_X5_noWatcher x2 σ) = 0) => ?_) (fun (c_6 : ¬ (f_X5_noWatcher x2 σ) = 0) => ?_)
      · rw [if_pos c_6] at h
        refine lv_aload_n hx hb dX5_hold_29 rfl (lv_at hl 0 rfl) ?_
        refine gf_X5_12 (o := 0) (o2 := 1) C0 hb hP (rfl : kR 0 = 5) rfl dX5_hold_30 ?_
        refine gf_X5_248 (o := 1) (o2 := 7) C0 hb hP (isV_k v1) rfl dX5_hold_33 ?_
        refine lv_iload_n hx hb dX5_hold_36 rfl (lv_at hl 1 rfl) ?_
        refine lv_iload_n hx hb dX5_hold_37 rfl (lv_at hl 2 rfl) ?_
        obtain ⟨hi_7, h⟩ := chk_s h
        refine m_iast (o := 7) (N := 10) (i := x1) (j := x1.toNatClampNeg) C0 hb hP hS (isV_s v1) (by decide) hi_7 rfl dX5_hold_38 (fun H locs hP hS => ?_)
        refine lv_iconst (v := 1) hx hb dX5_hold_39 (by decide) ?_
        exact m_ri hx hb hr hlk hP hS (Option.some.inj h) dX5_hold_40
      · rw [if_neg c_6] at h
        refine lv_aload_n hx hb dX5_hold_22 rfl (lv_at hl 0 rfl) ?_
        refine lv_ldc hx hb hown (hts _ wk_X5_54) dX5_hold_23 ?_
        obtain ⟨q_8, hq_9, h⟩ := bd_s h
        refine m_cVi (As := [.int (-1000001)]) (rest := []) (o := 0) (ci := 5) C0 hb hml hl.1 wm_X5_55 md_X5_finding (k_X5_finding l G a σ hj (-1000001) q_8 hq_9) rfl rfl ⟨(Nat.le_of_ble_eq_true rfl), (Nat.le_of_ble_eq_true rfl)⟩ hP hS (rfl : kR 0 = 5) (by decide) rfl rfl rfl (Nat.le_of_ble_eq_true rfl) dX5_hold_25 (fun H locs hP hS => ?_)
        exact m_ri hx hb hr hlk hP hS (Option.some.inj h) dX5_hold_28
def f_X3_isUnder_J33 (x1 : Int32) (x2_1 : Int32) : Option (Int32) := (if x2_1 = x1 then some 1 else some 0)
def f_X3_isUnder_B7 (x1 : Int32) (rec7 : Int32 → Int32 → Option (Int32)) (x2_1 : Int32) (x3_2 : Int32) : Option (Int32) := (if 7 ≤ x3_2 then (f_X3_isUnder_J33 x1 x2_1) else (if x2_1 = x1 then (f_X3_isUnder_J33 x1 x2_1) else (if x2_1 = 0 then (f_X3_isUnder_J33 x1 x2_1) else (rec7 (f_X3_kindAbove x2_1) (x3_2 + 1)))))
def f_X3_isUnder (b : Nat) (x1 : Int32) (σ : Mem) : Option (Int32) := (it2 (f_X3_isUnder_B7 x1) FU (σ b 0) 0)
set_option maxHeartbeats 4000000 in
set_option maxRecDepth 100000 in
theorem k_X3_isUnder (l : Launch) (G : GG) (a : Nat → Nat) (σ : Mem) (hj : INJ nR a) (b : Nat) (hb0 : kR b = 3) (x1 : Int32) (q : Int32) (h : f_X3_isUnder b x1 σ = some q) : Met l yX3_isUnder (Cond.code yX3_isUnder cX3_isUnder 4 (some .boolean) :: TB) ({ frames := 1, cells := 0, slots := 0, locals := 20 } : Room) (PA G kR nR a σ [.ref (a b), .int x1]) (SI q) 0 0 NF := by
  refine M_ofW (by decide) hj kR_lt (Nat.le_of_ble_eq_true rfl) (fun p e s m below meth c ls C0 hb hml hr hlk hP hS hl => ?_)
  have C0 : CT p s _ m RX3 G kR nR a := C0
  have hx := C0.1
  have hts := C0.2.1
  have hown := C0.2.2.1
  have hl : lv_has ls 4 [(0, .ref (a b)), (1, .int x1)] := hl
  unfold f_X3_isUnder at h
  refine lv_aload_n hx hb dX3_isUnder_0 rfl (lv_at hl 0 rfl) ?_
  refine gf_X3_11 (o := b) C0 hb hP hb0 dX3_isUnder_1 ?_
  refine lv_istore_n (lv' := [(2, .int (σ b 0)), (0, .ref (a b)), (1, .int x1)]) hx hb dX3_isUnder_4 rfl hl (by decide) rfl (fun ls hl => ?_)
  refine lv_iconst (v := 0) hx hb dX3_isUnder_5 (by decide) ?_
  refine lv_istore_n (lv' := [(3, .int 0), (2, .int (σ b 0)), (0, .ref (a b)), (1, .int x1)]) hx hb dX3_isUnder_6 rfl hl (by decide) rfl (fun ls hl => ?_)
  have L_8 : ∀ (fu7 : Nat) (x2_1 : Int32) (x3_2 : Int32) (ls : Array Slot), it2 (f_X3_isUnder_B7 x1) fu7 x2_1 x3_2 = some q → lv_has ls 4 [(3, .int x3_2), (2, .int x2_1), (1, .int x1)] → W p l e ({ frames := 1, cells := 0, slots := 0, locals := 20 } : Room) s m ([.ref (a b), .int x1] : List Value).toArray below meth c s.heap [] 0 0 (MQ below (SI q) ([.ref (a b), .int x1] : List Value).toArray s 0 0 NF) (F0 m 7 ls []) := by
    intro fu7
    induction fu7 with
    | zero =>
      intro x2_1 x3_2 ls h
      cases h
    | succ fu7 ih7 =>
      intro x2_1 x3_2 ls h hl
      replace h : (f_X3_isUnder_B7 x1) (it2 (f_X3_isUnder_B7 x1) fu7) x2_1 x3_2 = some q := h
      generalize it2 (f_X3_isUnder_B7 x1) fu7 = rec7 at h ih7
      unfold f_X3_isUnder_B7 at h
      refine lv_iload_n hx hb dX3_isUnder_7 rfl (lv_at hl 0 rfl) ?_
      refine lv_bipush (v := 7) hx hb dX3_isUnder_8 (by decide) ?_
      have J_4 : ∀  (ls : Array Slot), f_X3_isUnder_J33 x1 x2_1 = some q → lv_has ls 4 [(2, .int x2_1), (1, .int x1)] → W p l e ({ frames := 1, cells := 0, slots := 0, locals := 20 } : Room) s m ([.ref (a b), .int x1] : List Value).toArray below meth c s.heap [] 0 0 (MQ below (SI q) ([.ref (a b), .int x1] : List Value).toArray s 0 0 NF) (F0 m 33 ls []) := by
        intro  ls h hl
        unfold f_X3_isUnder_J33 at h
        refine lv_iload_n hx hb dX3_isUnder_33 rfl (lv_at hl 0 rfl) ?_
        refine lv_iload_n hx hb dX3_isUnder_34 rfl (lv_at hl 1 rfl) ?_
        refine lv_icmp_ne (tgt := 42) hx hb dX3_isUnder_35 (by decide) (fun (c_3 : ¬ x2_1 = x1) => ?_) (fun (c_3 : x2_1 = x1) => ?_)
        · rw [if_neg c_3] at h
          refine lv_iconst (v := 0) hx hb dX3_isUnder_42 (by decide) ?_
          exact m_sz hx hb hr hlk (Or.inl rfl) (Option.some.inj h) dX3_isUnder_43
        · rw [if_pos c_3] at h
          refine lv_iconst (v := 1) hx hb dX3_isUnder_38 (by decide) ?_
          refine lv_goto (tgt := 43) hx hb dX3_isUnder_39 (by decide) ?_
          exact m_sz hx hb hr hlk (Or.inr rfl) (Option.some.inj h) dX3_isUnder_43
      refine lv_icmp_ge (tgt := 33) hx hb dX3_isUnder_10 (by decide) (fun (c_5 : 7 ≤ x3_2) => ?_) (fun (c_5 : ¬ 7 ≤ x3_2) => ?_)
      · rw [if_pos c_5] at h
        exact J_4  _ h (lv_sub hl [1, 2] rfl)
      · rw [if_neg c_5] at h
        refine lv_iload_n hx hb dX3_isUnder_13 rfl (lv_at hl 1 rfl) ?_
        refine lv_iload_n hx hb dX3_isUnder_14 rfl (lv_at hl 2 rfl) ?_
        refine lv_icmp_eq (tgt := 33) hx hb dX3_isUnder_15 (by decide) (fun (c_6 : x2_1 = x1) => ?_) (fun (c_6 : ¬ x2_1 = x1) => ?_)
        · rw [if_pos c_6] at h
          exact J_4  _ h (lv_sub hl [1, 2] rfl)
        · rw [if_neg c_6] at h
          refine lv_iload_n hx hb dX3_isUnder_18 rfl (lv_at hl 1 rfl) ?_
          refine lv_if_eq (tgt := 33) hx hb dX3_isUnder_19 (by decide) (fun (c_7 : x2_1 = 0) => ?_) (fun (c_7 : ¬ x2_1 = 0) => ?_)
          · rw [if_pos c_7] at h
            exact J_4  _ h (lv_sub hl [1, 2] rfl)
          · rw [if_neg c_7] at h
            refine lv_iload_n hx hb dX3_isUnder_22 rfl (lv_at hl 1 rfl) ?_
            refine m_pSi (As := [.int x2_1]) (rest := []) C0.z hb hml hl.1 wm_X3_61 md_X3_kindAbove (k_X3_kindAbove l x2_1) rfl rfl ⟨(Nat.le_of_ble_eq_true rfl), (Nat.le_of_ble_eq_true rfl)⟩ rfl rfl (Nat.le_of_ble_eq_true rfl) dX3_isUnder_23 ?_
            refine lv_istore_n (lv' := [(2, .int (f_X3_kindAbove x2_1)), (3, .int x3_2), (1, .int x1)]) hx hb dX3_isUnder_26 rfl hl (by decide) rfl (fun ls hl => ?_)
            refine lv_iinc (v := x3_2 + 1) (lv' := [(3, .int (x3_2 + 1)), (2, .int (f_X3_kindAbove x2_1)), (1, .int x1)]) hx hb dX3_isUnder_27 hl (k := 1) rfl rfl (by decide) rfl (fun ls hl => ?_)
            refine lv_goto (tgt := 7) hx hb dX3_isUnder_30 (by decide) ?_
            exact ih7 (f_X3_kindAbove x2_1) (x3_2 + 1) _ h (lv_sub hl [0, 1, 2] rfl)
  exact L_8 FU (σ b 0) 0 _ h (lv_sub hl [0, 1, 3] rfl)
def f_X5_as (x1 : Int32) (x2 : Int32) (σ : Mem) : Option (Int32 × Mem) := (if (f_X5_outside x1 9) = 0 then (if (f_X5_outside x2 6) = 0 then (chk x1 10 (if (f_X5_noWatcher (σ 7 x1.toNatClampNeg) σ) = 0 then (chk (σ 7 x1.toNatClampNeg) 8 ((f_X3_isUnder (8 + (σ 7 x1.toNatClampNeg).toNatClampNeg) x2 σ).bind fun q_8 => (if q_8 = 0 then ((f_X5_finding (-1000003) σ).bind fun q_11 => some (q_11.1, q_11.2)) else some (σ 7 x1.toNatClampNeg, σ)))) else ((f_X5_finding (-1000006) σ).bind fun q_13 => some (q_13.1, q_13.2)))) else ((f_X5_finding (-1000001) σ).bind fun q_15 => some (q_15.1, q_15.2))) else ((f_X5_finding (-1000001) σ).bind fun q_2 => some (q_2.1, q_2.2)))
set_option maxHeartbeats 4000000 in
set_option maxRecDepth 100000 in
theorem k_X5_as (l : Launch) (G : GG) (a : Nat → Nat) (σ : Mem) (hj : INJ nR a) (x1 : Int32) (x2 : Int32) (q : Int32 × Mem) (h : f_X5_as x1 x2 σ = some q) : Met l yX5_as (Cond.code yX5_as cX5_as 4 (some .int) :: TB) ({ frames := 2, cells := 0, slots := 0, locals := 43 } : Room) (PA G kR nR a σ [.ref (a 0), .int x1, .int x2]) (QI G kR nR a q) 0 0 (AW nR a) := by
  refine M_ofW (by decide) hj kR_lt (Nat.le_of_ble_eq_true rfl) (fun p e s m below meth c ls C0 hb hml hr hlk hP hS hl => ?_)
  have C0 : CT p s _ m RX5 G kR nR a := C0
  have hx := C0.1
  have hts := C0.2.1
  have hown := C0.2.2.1
  have hl : lv_has ls 4 [(0, .ref (a 0)), (1, .int x1), (2, .int x2)] := hl
  unfold f_X5_as at h
  refine lv_iload_n hx hb dX5_as_0 rfl (lv_at hl 1 rfl) ?_
  refine lv_bipush (v := 9) hx hb dX5_as_1 (by decide) ?_
  refine m_pSi (As := [.int x1, .int 9]) (rest := []) C0.z hb hml hl.1 wm_X5_50 md_X5_outside (k_X5_outside l x1 9) rfl rfl ⟨(Nat.le_of_ble_eq_true rfl), (Nat.le_of_ble_eq_true rfl)⟩ rfl rfl (Nat.le_of_ble_eq_true rfl) dX5_as_3 ?_
  refine lv_if_ne (tgt := 18) hx hb dX5_as_6 (by decide) (fun (c_1 : ¬ (f_X5_outside x1 9) = 0) => ?_) (fun (c_1 : (f_X5_outside x1 9) = 0) => ?_)
  · rw [if_neg c_1] at h
    refine lv_aload_n hx hb dX5_as_18 rfl (lv_at hl 0 rfl) ?_
    refine lv_ldc hx hb hown (hts _ wk_X5_54) dX5_as_19 ?_
    obtain ⟨q_2, hq_3, h⟩ := bd_s h
    refine m_cVi (As := [.int (-1000001)]) (rest := []) (o := 0) (ci := 5) C0 hb hml hl.1 wm_X5_55 md_X5_finding (k_X5_finding l G a σ hj (-1000001) q_2 hq_3) rfl rfl ⟨(Nat.le_of_ble_eq_true rfl), (Nat.le_of_ble_eq_true rfl)⟩ hP hS (rfl : kR 0 = 5) (by decide) rfl rfl rfl (Nat.le_of_ble_eq_true rfl) dX5_as_21 (fun H locs hP hS => ?_)
    exact m_ri hx hb hr hlk hP hS (Option.some.inj h) dX5_as_24
  · rw [if_pos c_1] at h
    refine lv_iload_n hx hb dX5_as_9 rfl (lv_at hl 2 rfl) ?_
    refine lv_bipush (v := 6) hx hb dX5_as_10 (by decide) ?_
    refine m_pSi (As := [.int x2, .int 6]) (rest := []) C0.z hb hml hl.1 wm_X5_50 md_X5_outside (k_X5_outside l x2 6) rfl rfl ⟨(Nat.le_of_ble_eq_true rfl), (Nat.le_of_ble_eq_true rfl)⟩ rfl rfl (Nat.le_of_ble_eq_true rfl) dX5_as_12 ?_
    refine lv_if_eq (tgt := 25) hx hb dX5_as_15 (by decide) (fun (c_4 : (f_X5_outside x2 6) = 0) => ?_) (fun (c_4 : ¬ (f_X5_outside x2 6) = 0) => ?_)
    · rw [if_pos c_4] at h
      refine lv_aload_n hx hb dX5_as_25 rfl (lv_at hl 0 rfl) ?_
      refine gf_X5_12 (o := 0) (o2 := 1) C0 hb hP (rfl : kR 0 = 5) rfl dX5_as_26 ?_
      refine gf_X5_248 (o := 1) (o2 := 7) C0 hb hP (isV_k v1) rfl dX5_as_29 ?_
      refine lv_iload_n hx hb dX5_as_32 rfl (lv_at hl 1 rfl) ?_
      obtain ⟨hi_5, h⟩ := chk_s h
      refine m_iald (o := 7) (N := 10) (i := x1) (j := x1.toNatClampNeg) C0 hb hP (isV_s v1) (by decide) hi_5 rfl dX5_as_33 ?_
      refine lv_istore_n (lv' := [(3, .int (σ 7 x1.toNatClampNeg)), (0, .ref (a 0)), (1, .int x1), (2, .int x2)]) hx hb dX5_as_34 rfl hl (by decide) rfl (fun ls hl => ?_)
      refine lv_aload_n hx hb dX5_as_35 rfl (lv_at hl 1 rfl) ?_
      refine lv_iload_n hx hb dX5_as_36 rfl (lv_at hl 0 rfl) ?_
      refine m_rVi (As := [.int (σ 7 x1.toNatClampNeg)]) (rest := []) (o := 0) (ci := 5) C0 hb hml hl.1 wm_X5_88 md_X5_noWatcher (k_X5_noWatcher l G a σ hj (σ 7 x1.toNatClampNeg)) rfl rfl ⟨(Nat.le_of_ble_eq_true rfl), (Nat.le_of_ble_eq_true rfl)⟩ hP hS (rfl : kR 0 = 5) (by decide) rfl rfl rfl (Nat.le_of_ble_eq_true rfl) dX5_as_37 ?_
      refine lv_if_eq (tgt := 50) hx hb dX5_as_40 (by decide) (fun (c_6 : (f_X5_noWatcher (σ 7 x1.toNatClampNeg) σ) = 0) => ?_) (fun (c_6 : ¬ (f_X5_noWatcher (σ 7 x1.toNatClampNeg) σ) = 0) => ?_)
      · rw [if_pos c_6] at h
        refine lv_aload_n hx hb dX5_as_50 rfl (lv_at hl 1 rfl) ?_
        refine gf_X5_12 (o := 0) (o2 := 1) C0 hb hP (rfl : kR 0 = 5) rfl dX5_as_51 ?_
        refine gf_X5_92 (o := 1) (o2 := 6) C0 hb hP (isV_k v1) rfl dX5_as_54 ?_
        refine lv_iload_n hx hb dX5_as_57 rfl (lv_at hl 0 rfl) ?_
        obtain ⟨hi_7, h⟩ := chk_s h
        refine m_aldW (o := 6) (i := σ 7 x1.toNatClampNeg) (o2 := (8 + (σ 7 x1.toNatClampNeg).toNatClampNeg)) C0 hb hP (isV_a v1) hi_7 rfl dX5_as_58 ?_
        refine lv_iload_n hx hb dX5_as_59 rfl (lv_at hl 3 rfl) ?_
        obtain ⟨q_8, hq_9, h⟩ := bd_s h
        refine m_rVi (As := [.int x2]) (rest := []) (o := (8 + (σ 7 x1.toNatClampNeg).toNatClampNeg)) (ci := 3) C0 hb hml hl.1 wm_X5_252 md_X3_isUnder (k_X3_isUnder l G a σ hj (8 + (σ 7 x1.toNatClampNeg).toNatClampNeg) (isV_t v1 (vp_lt hi_7)) x2 q_8 hq_9) rfl rfl ⟨(Nat.le_of_ble_eq_true rfl), (Nat.le_of_ble_eq_true rfl)⟩ hP hS (isV_t v1 (vp_lt hi_7)) (by decide) rfl rfl rfl (Nat.le_of_ble_eq_true rfl) dX5_as_60 ?_
        refine lv_if_eq (tgt := 70) hx hb dX5_as_63 (by decide) (fun (c_10 : q_8 = 0) => ?_) (fun (c_10 : ¬ q_8 = 0) => ?_)
        · rw [if_pos c_10] at h
          refine lv_aload_n hx hb dX5_as_70 rfl (lv_at hl 1 rfl) ?_
          refine lv_ldc hx hb hown (hts _ wk_X5_255) dX5_as_71 ?_
          obtain ⟨q_11, hq_12, h⟩ := bd_s h
          refine m_cVi (As := [.int (-1000003)]) (rest := []) (o := 0) (ci := 5) C0 hb hml hl.1 wm_X5_55 md_X5_finding (k_X5_finding l G a σ hj (-1000003) q_11 hq_12) rfl rfl ⟨(Nat.le_of_ble_eq_true rfl), (Nat.le_of_ble_eq_true rfl)⟩ hP hS (rfl : kR 0 = 5) (by decide) rfl rfl rfl (Nat.le_of_ble_eq_true rfl) dX5_as_73 (fun H locs hP hS => ?_)
          exact m_ri hx hb hr hlk hP hS (Option.some.inj h) dX5_as_76
        · rw [if_neg c_10] at h
          refine lv_iload_n hx hb dX5_as_66 rfl (lv_at hl 0 rfl) ?_
          refine lv_goto (tgt := 76) hx hb dX5_as_67 (by decide) ?_
          exact m_ri hx hb hr hlk hP hS (Option.some.inj h) dX5_as_76
      · rw [if_neg c_6] at h
        refine lv_aload_n hx hb dX5_as_43 rfl (lv_at hl 1 rfl) ?_
        refine lv_ldc hx hb hown (hts _ wk_X5_251) dX5_as_44 ?_
        obtain ⟨q_13, hq_14, h⟩ := bd_s h
        refine m_cVi (As := [.int (-1000006)]) (rest := []) (o := 0) (ci := 5) C0 hb hml hl.1 wm_X5_55 md_X5_finding (k_X5_finding l G a σ hj (-1000006) q_13 hq_14) rfl rfl ⟨(Nat.le_of_ble_eq_true rfl), (Nat.le_of_ble_eq_true rfl)⟩ hP hS (rfl : kR 0 = 5) (by decide) rfl rfl rfl (Nat.le_of_ble_eq_true rfl) dX5_as_46 (fun H locs hP hS => ?_)
        exact m_ri hx hb hr hlk hP hS (Option.some.inj h) dX5_as_49
    · rw [if_neg c_4] at h
      refine lv_aload_n hx hb dX5_as_18 rfl (lv_at hl 0 rfl) ?_
      refine lv_ldc hx hb hown (hts _ wk_X5_54) dX5_as_19 ?_
      obtain ⟨q_15, hq_16, h⟩ := bd_s h
      refine m_cVi (As := [.int (-1000001)]) (rest := []) (o := 0) (ci := 5) C0 hb hml hl.1 wm_X5_55 md_X5_finding (k_X5_finding l G a σ hj (-1000001) q_15 hq_16) rfl rfl ⟨(Nat.le_of_ble_eq_true rfl), (Nat.le_of_ble_eq_true rfl)⟩ hP hS (rfl : kR 0 = 5) (by decide) rfl rfl rfl (Nat.le_of_ble_eq_true rfl) dX5_as_21 (fun H locs hP hS => ?_)
      exact m_ri hx hb hr hlk hP hS (Option.some.inj h) dX5_as_24
def f_X1_lay_B20 (b : Nat) (rec20 : Int32 → Mem → Option (Mem)) (x3_2 : Int32) (σ_3 : Mem) : Option (Mem) := (if 40 ≤ x3_2 then some σ_3 else (chk x3_2 40 (rec20 (x3_2 + 1) (mst σ_3 (b + 1) x3_2.toNatClampNeg 0))))
def f_X1_lay_J15 (b : Nat) (x1 : Int32) (σ : Mem) (t_1 : Int32) : Option (Mem) := (it2 (f_X1_lay_B20 b) FU 0 (mst (mst σ b 1 x1) b 2 t_1))
def f_X1_lay (b : Nat) (x1 : Int32) (x2 : Int32) (σ : Mem) : Option (Mem) := (f_X1_lay_J15 b x1 σ (if x1 = 0 then 0 else x2))
set_option maxHeartbeats 4000000 in
set_option maxRecDepth 100000 in
theorem k_X1_lay (l : Launch) (G : GG) (a : Nat → Nat) (σ : Mem) (hj : INJ nR a) (b : Nat) (hb0 : isS b) (x1 : Int32) (x2 : Int32) (q : Mem) (h : f_X1_lay b x1 x2 σ = some q) : Met l yX1_lay (Cond.code yX1_lay cX1_lay 4 none :: TB) ({ frames := 0, cells := 0, slots := 0, locals := 0 } : Room) (PA G kR nR a σ [.ref (a b), .int x1, .int x2]) (QV G kR nR a q) 0 0 (AW nR a) := by
  refine M_ofW (by decide) hj kR_lt (Nat.le_of_ble_eq_true rfl) (fun p e s m below meth c ls C0 hb hml hr hlk hP hS hl => ?_)
  have C0 : CT p s _ m RX1 G kR nR a := C0
  have hx := C0.1
  have hts := C0.2.1
  have hown := C0.2.2.1
  have hl : lv_has ls 4 [(0, .ref (a b)), (1, .int x1), (2, .int x2)] := hl
  unfold f_X1_lay at h
  refine lv_aload_n hx hb dX1_lay_0 rfl (lv_at hl 0 rfl) ?_
  refine lv_iload_n hx hb dX1_lay_1 rfl (lv_at hl 1 rfl) ?_
  refine pf_X1_15 (o := b) C0 hb hP hS (isS_k hb0) dX1_lay_2 (fun H locs hP hS => ?_)
  refine lv_aload_n hx hb dX1_lay_5 rfl (lv_at hl 0 rfl) ?_
  refine lv_iload_n hx hb dX1_lay_6 rfl (lv_at hl 1 rfl) ?_
  have J_7 : ∀ (t_1 : Int32) (H : Heap) (locs : List Loc) (ls : Array Slot), f_X1_lay_J15 b x1 σ t_1 = some q → HP G kR nR a (mst σ b 1 x1) H → va_S (AW nR a) s.heap H locs → lv_has ls 4 [(0, .ref (a b))] → W p l e ({ frames := 0, cells := 0, slots := 0, locals := 0 } : Room) s m ([.ref (a b), .int x1, .int x2] : List Value).toArray below meth c H locs 0 0 (MQ below (QV G kR nR a q) ([.ref (a b), .int x1, .int x2] : List Value).toArray s 0 0 (AW nR a)) (F0 m 15 ls [.int t_1, .ref (a b)]) := by
    intro t_1 H locs ls h hP hS hl
    unfold f_X1_lay_J15 at h
    refine pf_X1_19 (o := b) C0 hb hP hS (isS_k hb0) dX1_lay_15 (fun H locs hP hS => ?_)
    refine lv_iconst (v := 0) hx hb dX1_lay_18 (by decide) ?_
    refine lv_istore_n (lv' := [(3, .int 0), (0, .ref (a b))]) hx hb dX1_lay_19 rfl hl (by decide) rfl (fun ls hl => ?_)
    have L_6 : ∀ (fu20 : Nat) (x3_2 : Int32) (σ_3 : Mem) (H : Heap) (locs : List Loc) (ls : Array Slot), it2 (f_X1_lay_B20 b) fu20 x3_2 σ_3 = some q → HP G kR nR a σ_3 H → va_S (AW nR a) s.heap H locs → lv_has ls 4 [(3, .int x3_2), (0, .ref (a b))] → W p l e ({ frames := 0, cells := 0, slots := 0, locals := 0 } : Room) s m ([.ref (a b), .int x1, .int x2] : List Value).toArray below meth c H locs 0 0 (MQ below (QV G kR nR a q) ([.ref (a b), .int x1, .int x2] : List Value).toArray s 0 0 (AW nR a)) (F0 m 20 ls []) := by
      intro fu20
      induction fu20 with
      | zero =>
        intro x3_2 σ_3 H locs ls h
        cases h
      | succ fu20 ih20 =>
        intro x3_2 σ_3 H locs ls h hP hS hl
        replace h : (f_X1_lay_B20 b) (it2 (f_X1_lay_B20 b) fu20) x3_2 σ_3 = some q := h
        generalize it2 (f_X1_lay_B20 b) fu20 = rec20 at h ih20
        unfold f_X1_lay_B20 at h
        refine lv_iload_n hx hb dX1_lay_20 rfl (lv_at hl 0 rfl) ?_
        refine lv_bipush (v := 40) hx hb dX1_lay_21 (by decide) ?_
        refine lv_icmp_ge (tgt := 39) hx hb dX1_lay_23 (by decide) (fun (c_4 : 40 ≤ x3_2) => ?_) (fun (c_4 : ¬ 40 ≤ x3_2) => ?_)
        · rw [if_pos c_4] at h
          exact m_rv hx hb hr hlk hP hS (Option.some.inj h) dX1_lay_39
        · rw [if_neg c_4] at h
          refine lv_aload_n hx hb dX1_lay_26 rfl (lv_at hl 1 rfl) ?_
          refine gf_X1_9 (o := b) (o2 := (b + 1)) C0 hb hP (isS_k hb0) rfl dX1_lay_27 ?_
          refine lv_iload_n hx hb dX1_lay_30 rfl (lv_at hl 0 rfl) ?_
          refine lv_iconst (v := 0) hx hb dX1_lay_31 (by decide) ?_
          obtain ⟨hi_5, h⟩ := chk_s h
          refine m_iast (o := (b + 1)) (N := 40) (i := x3_2) (j := x3_2.toNatClampNeg) C0 hb hP hS (isS_1 hb0) (by decide) hi_5 rfl dX1_lay_32 (fun H locs hP hS => ?_)
          refine lv_iinc (v := x3_2 + 1) (lv' := [(3, .int (x3_2 + 1)), (0, .ref (a b))]) hx hb dX1_lay_33 hl (k := 0) rfl rfl (by decide) rfl (fun ls hl => ?_)
          refine lv_goto (tgt := 20) hx hb dX1_lay_36 (by decide) ?_
          exact ih20 (x3_2 + 1) (mst σ_3 (b + 1) x3_2.toNatClampNeg 0) _ _ _ h hP hS (lv_sub hl [0, 1] rfl)
    exact L_6 FU 0 (mst (mst σ b 1 x1) b 2 t_1) _ _ _ h hP hS (lv_sub hl [0, 1] rfl)
  refine lv_if_ne (tgt := 14) hx hb dX1_lay_7 (by decide) (fun (c_8 : ¬ x1 = 0) => ?_) (fun (c_8 : x1 = 0) => ?_)
  · rw [if_neg c_8] at h
    refine lv_iload_n hx hb dX1_lay_14 rfl (lv_at hl 2 rfl) ?_
    exact J_7 x2 _ _ _ h hP hS (lv_sub hl [0] rfl)
  · rw [if_pos c_8] at h
    refine lv_iconst (v := 0) hx hb dX1_lay_10 (by decide) ?_
    refine lv_goto (tgt := 15) hx hb dX1_lay_11 (by decide) ?_
    exact J_7 0 _ _ _ h hP hS (lv_sub hl [0] rfl)
def f_X5_sheet_J37 (x1 : Int32) (x2 : Int32) (x3 : Int32) (σ : Mem) : Option (Int32 × Mem) := (if 0 ≤ x3 then (if x3 ≤ 40 then (chk x1 4 ((f_X1_lay (63 + 2 * x1.toNatClampNeg) x2 x3 σ).bind fun q_7 => (chk x1 4 (some (q_7 (63 + 2 * x1.toNatClampNeg) 2, q_7))))) else ((f_X5_finding (-1000001) σ).bind fun q_10 => some (q_10.1, q_10.2))) else ((f_X5_finding (-1000007) σ).bind fun q_12 => some (q_12.1, q_12.2)))
def f_X5_sheet (x1 : Int32) (x2 : Int32) (x3 : Int32) (σ : Mem) : Option (Int32 × Mem) := (if (f_X5_outside x1 3) = 0 then (if x2 = 0 then (f_X5_sheet_J37 x1 x2 x3 σ) else (if x2 = 8 then (f_X5_sheet_J37 x1 x2 x3 σ) else (if x2 = 16 then (f_X5_sheet_J37 x1 x2 x3 σ) else (if x2 = 32 then (f_X5_sheet_J37 x1 x2 x3 σ) else ((f_X5_finding (-1000001) σ).bind fun q_19 => some (q_19.1, q_19.2)))))) else ((f_X5_finding (-1000001) σ).bind fun q_2 => some (q_2.1, q_2.2)))
set_option maxHeartbeats 4000000 in
set_option maxRecDepth 100000 in
theorem k_X5_sheet (l : Launch) (G : GG) (a : Nat → Nat) (σ : Mem) (hj : INJ nR a) (x1 : Int32) (x2 : Int32) (x3 : Int32) (q : Int32 × Mem) (h : f_X5_sheet x1 x2 x3 σ = some q) : Met l yX5_sheet (Cond.code yX5_sheet cX5_sheet 4 (some .int) :: TB) ({ frames := 1, cells := 0, slots := 0, locals := 23 } : Room) (PA G kR nR a σ [.ref (a 0), .int x1, .int x2, .int x3]) (QI G kR nR a q) 0 0 (AW nR a) := by
  refine M_ofW (by decide) hj kR_lt (Nat.le_of_ble_eq_true rfl) (fun p e s m below meth c ls C0 hb hml hr hlk hP hS hl => ?_)
  have C0 : CT p s _ m RX5 G kR nR a := C0
  have hx := C0.1
  have hts := C0.2.1
  have hown := C0.2.2.1
  have hl : lv_has ls 4 [(0, .ref (a 0)), (1, .int x1), (2, .int x2), (3, .int x3)] := hl
  unfold f_X5_sheet at h
  refine lv_iload_n hx hb dX5_sheet_0 rfl (lv_at hl 1 rfl) ?_
  refine lv_iconst (v := 3) hx hb dX5_sheet_1 (by decide) ?_
  refine m_pSi (As := [.int x1, .int 3]) (rest := []) C0.z hb hml hl.1 wm_X5_50 md_X5_outside (k_X5_outside l x1 3) rfl rfl ⟨(Nat.le_of_ble_eq_true rfl), (Nat.le_of_ble_eq_true rfl)⟩ rfl rfl (Nat.le_of_ble_eq_true rfl) dX5_sheet_2 ?_
  refine lv_if_ne (tgt := 30) hx hb dX5_sheet_5 (by decide) (fun (c_1 : ¬ (f_X5_outside x1 3) = 0) => ?_) (fun (c_1 : (f_X5_outside x1 3) = 0) => ?_)
  · rw [if_neg c_1] at h
    refine lv_aload_n hx hb dX5_sheet_30 rfl (lv_at hl 0 rfl) ?_
    refine lv_ldc hx hb hown (hts _ wk_X5_54) dX5_sheet_31 ?_
    obtain ⟨q_2, hq_3, h⟩ := bd_s h
    refine m_cVi (As := [.int (-1000001)]) (rest := []) (o := 0) (ci := 5) C0 hb hml hl.1 wm_X5_55 md_X5_finding (k_X5_finding l G a σ hj (-1000001) q_2 hq_3) rfl rfl ⟨(Nat.le_of_ble_eq_true rfl), (Nat.le_of_ble_eq_true rfl)⟩ hP hS (rfl : kR 0 = 5) (by decide) rfl rfl rfl (Nat.le_of_ble_eq_true rfl) dX5_sheet_33 (fun H locs hP hS => ?_)
    exact m_ri hx hb hr hlk hP hS (Option.some.inj h) dX5_sheet_36
  · rw [if_pos c_1] at h
    refine lv_iload_n hx hb dX5_sheet_8 rfl (lv_at hl 2 rfl) ?_
    have J_14 : ∀  (H : Heap) (locs : List Loc) (ls : Array Slot), f_X5_sheet_J37 x1 x2 x3 σ = some q → HP G kR nR a σ H → va_S (AW nR a) s.heap H locs → lv_has ls 4 [(0, .ref (a 0)), (1, .int x1), (2, .int x2), (3, .int x3)] → W p l e ({ frames := 1, cells := 0, slots := 0, locals := 23 } : Room) s m ([.ref (a 0), .int x1, .int x2, .int x3] : List Value).toArray below meth c H locs 0 0 (MQ below (QI G kR nR a q) ([.ref (a 0), .int x1, .int x2, .int x3] : List Value).toArray s 0 0 (AW nR a)) (F0 m 37 ls []) := by
      intro  H locs ls h hP hS hl
      unfold f_X5_sheet_J37 at h
      refine lv_iload_n hx hb dX5_sheet_37 rfl (lv_at hl 3 rfl) ?_
      refine lv_if_ge (tgt := 49) hx hb dX5_sheet_38 (by decide) (fun (c_4 : 0 ≤ x3) => ?_) (fun (c_4 : ¬ 0 ≤ x3) => ?_)
      · rw [if_pos c_4] at h
        refine lv_iload_n hx hb dX5_sheet_49 rfl (lv_at hl 3 rfl) ?_
        refine lv_bipush (v := 40) hx hb dX5_sheet_50 (by decide) ?_
        refine lv_icmp_le (tgt := 62) hx hb dX5_sheet_52 (by decide) (fun (c_5 : x3 ≤ 40) => ?_) (fun (c_5 : ¬ x3 ≤ 40) => ?_)
        · rw [if_pos c_5] at h
          refine lv_aload_n hx hb dX5_sheet_62 rfl (lv_at hl 0 rfl) ?_
          refine gf_X5_32 (o := 0) (o2 := 62) C0 hb hP (rfl : kR 0 = 5) rfl dX5_sheet_63 ?_
          refine lv_iload_n hx hb dX5_sheet_66 rfl (lv_at hl 1 rfl) ?_
          obtain ⟨hi_6, h⟩ := chk_s h
          refine m_aldS (o := 62) (i := x1) (o2 := (63 + 2 * x1.toNatClampNeg)) C0 hb hP (rfl : kR 62 = 51) hi_6 rfl dX5_sheet_67 ?_
          refine lv_iload_n hx hb dX5_sheet_68 rfl (lv_at hl 2 rfl) ?_
          refine lv_iload_n hx hb dX5_sheet_69 rfl (lv_at hl 3 rfl) ?_
          obtain ⟨q_7, hq_8, h⟩ := bd_s h
          refine m_cVv (As := [.int x2, .int x3]) (rest := []) (o := (63 + 2 * x1.toNatClampNeg)) (ci := 1) C0 hb hml hl.1 wm_X5_257 md_X1_lay (k_X1_lay l G a σ hj (63 + 2 * x1.toNatClampNeg) (isS_at (vp_lt hi_6)) x2 x3 q_7 hq_8) rfl rfl ⟨(Nat.le_of_ble_eq_true rfl), (Nat.le_of_ble_eq_true rfl)⟩ hP hS (isS_k (isS_at (vp_lt hi_6))) (by decide) rfl rfl rfl (Nat.le_of_ble_eq_true rfl) dX5_sheet_70 (fun H locs hP hS => ?_)
          refine lv_aload_n hx hb dX5_sheet_73 rfl (lv_at hl 0 rfl) ?_
          refine gf_X5_32 (o := 0) (o2 := 62) C0 hb hP (rfl : kR 0 = 5) rfl dX5_sheet_74 ?_
          refine lv_iload_n hx hb dX5_sheet_77 rfl (lv_at hl 1 rfl) ?_
          obtain ⟨hi_9, h⟩ := chk_s h
          refine m_aldS (o := 62) (i := x1) (o2 := (63 + 2 * x1.toNatClampNeg)) C0 hb hP (rfl : kR 62 = 51) hi_9 rfl dX5_sheet_78 ?_
          refine gf_X5_261 (o := (63 + 2 * x1.toNatClampNeg)) C0 hb hP (isS_k (isS_at (vp_lt hi_9))) dX5_sheet_79 ?_
          exact m_ri hx hb hr hlk hP hS (Option.some.inj h) dX5_sheet_82
        · rw [if_neg c_5] at h
          refine lv_aload_n hx hb dX5_sheet_55 rfl (lv_at hl 0 rfl) ?_
          refine lv_ldc hx hb hown (hts _ wk_X5_54) dX5_sheet_56 ?_
          obtain ⟨q_10, hq_11, h⟩ := bd_s h
          refine m_cVi (As := [.int (-1000001)]) (rest := []) (o := 0) (ci := 5) C0 hb hml hl.1 wm_X5_55 md_X5_finding (k_X5_finding l G a σ hj (-1000001) q_10 hq_11) rfl rfl ⟨(Nat.le_of_ble_eq_true rfl), (Nat.le_of_ble_eq_true rfl)⟩ hP hS (rfl : kR 0 = 5) (by decide) rfl rfl rfl (Nat.le_of_ble_eq_true rfl) dX5_sheet_58 (fun H locs hP hS => ?_)
          exact m_ri hx hb hr hlk hP hS (Option.some.inj h) dX5_sheet_61
      · rw [if_neg c_4] at h
        refine lv_aload_n hx hb dX5_sheet_41 rfl (lv_at hl 0 rfl) ?_
        refine lv_ldcw hx hb hown (hts _ wk_X5_256) dX5_sheet_42 ?_
        obtain ⟨q_12, hq_13, h⟩ := bd_s h
        refine m_cVi (As := [.int (-1000007)]) (rest := []) (o := 0) (ci := 5) C0 hb hml hl.1 wm_X5_55 md_X5_finding (k_X5_finding l G a σ hj (-1000007) q_12 hq_13) rfl rfl ⟨(Nat.le_of_ble_eq_true rfl), (Nat.le_of_ble_eq_true rfl)⟩ hP hS (rfl : kR 0 = 5) (by decide) rfl rfl rfl (Nat.le_of_ble_eq_true rfl) dX5_sheet_45 (fun H locs hP hS => ?_)
        exact m_ri hx hb hr hlk hP hS (Option.some.inj h) dX5_sheet_48
    refine lv_if_eq (tgt := 37) hx hb dX5_sheet_9 (by decide) (fun (c_15 : x2 = 0) => ?_) (fun (c_15 : ¬ x2 = 0) => ?_)
    · rw [if_pos c_15] at h
      exact J_14  _ _ _ h hP hS (lv_sub hl [0, 1, 2, 3] rfl)
    · rw [if_neg c_15] at h
      refine lv_iload_n hx hb dX5_sheet_12 rfl (lv_at hl 2 rfl) ?_
      refine lv_bipush (v := 8) hx hb dX5_sheet_13 (by decide) ?_
      refine lv_icmp_eq (tgt := 37) hx hb dX5_sheet_15 (by decide) (fun (c_16 : x2 = 8) => ?_) (fun (c_16 : ¬ x2 = 8) => ?_)
      · rw [if_pos c_16] at h
        exact J_14  _ _ _ h hP hS (lv_sub hl [0, 1, 2, 3] rfl)
      · rw [if_neg c_16] at h
        refine lv_iload_n hx hb dX5_sheet_18 rfl (lv_at hl 2 rfl) ?_
        refine lv_bipush (v := 16) hx hb dX5_sheet_19 (by decide) ?_
        refine lv_icmp_eq (tgt := 37) hx hb dX5_sheet_21 (by decide) (fun (c_17 : x2 = 16) => ?_) (fun (c_17 : ¬ x2 = 16) => ?_)
        · rw [if_pos c_17] at h
          exact J_14  _ _ _ h hP hS (lv_sub hl [0, 1, 2, 3] rfl)
        · rw [if_neg c_17] at h
          refine lv_iload_n hx hb dX5_sheet_24 rfl (lv_at hl 2 rfl) ?_
          refine lv_bipush (v := 32) hx hb dX5_sheet_25 (by decide) ?_
          refine lv_icmp_eq (tgt := 37) hx hb dX5_sheet_27 (by decide) (fun (c_18 : x2 = 32) => ?_) (fun (c_18 : ¬ x2 = 32) => ?_)
          · rw [if_pos c_18] at h
            exact J_14  _ _ _ h hP hS (lv_sub hl [0, 1, 2, 3] rfl)
          · rw [if_neg c_18] at h
            refine lv_aload_n hx hb dX5_sheet_30 rfl (lv_at hl 0 rfl) ?_
            refine lv_ldc hx hb hown (hts _ wk_X5_54) dX5_sheet_31 ?_
            obtain ⟨q_19, hq_20, h⟩ := bd_s h
            refine m_cVi (As := [.int (-1000001)]) (rest := []) (o := 0) (ci := 5) C0 hb hml hl.1 wm_X5_55 md_X5_finding (k_X5_finding l G a σ hj (-1000001) q_19 hq_20) rfl rfl ⟨(Nat.le_of_ble_eq_true rfl), (Nat.le_of_ble_eq_true rfl)⟩ hP hS (rfl : kR 0 = 5) (by decide) rfl rfl rfl (Nat.le_of_ble_eq_true rfl) dX5_sheet_33 (fun H locs hP hS => ?_)
            exact m_ri hx hb hr hlk hP hS (Option.some.inj h) dX5_sheet_36
def f_X1_put (b : Nat) (x1 : Int32) (x2 : Int32) (σ : Mem) : Option (Mem) := (if (σ b 1) = 8 then (chk x1 40 (some (mst σ (b + 1) x1.toNatClampNeg x2.toInt8.toInt32))) else (if (σ b 1) = 16 then (chk x1 40 (some (mst σ (b + 1) x1.toNatClampNeg x2.toInt16.toInt32))) else (chk x1 40 (some (mst σ (b + 1) x1.toNatClampNeg x2)))))
set_option maxHeartbeats 4000000 in
set_option maxRecDepth 100000 in
theorem k_X1_put (l : Launch) (G : GG) (a : Nat → Nat) (σ : Mem) (hj : INJ nR a) (b : Nat) (hb0 : isS b) (x1 : Int32) (x2 : Int32) (q : Mem) (h : f_X1_put b x1 x2 σ = some q) : Met l yX1_put (Cond.code yX1_put cX1_put 3 none :: TB) ({ frames := 0, cells := 0, slots := 0, locals := 0 } : Room) (PA G kR nR a σ [.ref (a b), .int x1, .int x2]) (QV G kR nR a q) 0 0 (AW nR a) := by
  refine M_ofW (by decide) hj kR_lt (Nat.le_of_ble_eq_true rfl) (fun p e s m below meth c ls C0 hb hml hr hlk hP hS hl => ?_)
  have C0 : CT p s _ m RX1 G kR nR a := C0
  have hx := C0.1
  have hts := C0.2.1
  have hown := C0.2.2.1
  have hl : lv_has ls 3 [(0, .ref (a b)), (1, .int x1), (2, .int x2)] := hl
  unfold f_X1_put at h
  refine lv_aload_n hx hb dX1_put_0 rfl (lv_at hl 0 rfl) ?_
  refine gf_X1_15 (o := b) C0 hb hP (isS_k hb0) dX1_put_1 ?_
  by_cases c_1 : (σ b 1) = 8
  · rw [if_pos c_1] at h
    refine lv_lookup (off := 28) (tgt := 32) hx hb dX1_put_4 (by decide) (by rw [c_1]; rfl) (by decide) ?_
    refine lv_aload_n hx hb dX1_put_32 rfl (lv_at hl 0 rfl) ?_
    refine gf_X1_9 (o := b) (o2 := (b + 1)) C0 hb hP (isS_k hb0) rfl dX1_put_33 ?_
    refine lv_iload_n hx hb dX1_put_36 rfl (lv_at hl 1 rfl) ?_
    refine lv_iload_n hx hb dX1_put_37 rfl (lv_at hl 2 rfl) ?_
    refine lv_i2b (v := x2.toInt8.toInt32) hx hb dX1_put_38 rfl ?_
    obtain ⟨hi_2, h⟩ := chk_s h
    refine m_iast (o := (b + 1)) (N := 40) (i := x1) (j := x1.toNatClampNeg) C0 hb hP hS (isS_1 hb0) (by decide) hi_2 rfl dX1_put_39 (fun H locs hP hS => ?_)
    refine lv_goto (tgt := 61) hx hb dX1_put_40 (by decide) ?_
    exact m_rv hx hb hr hlk hP hS (Option.some.inj h) dX1_put_61
  · rw [if_neg c_1] at h
    by_cases c_3 : (σ b 1) = 16
    · rw [if_pos c_3] at h
      refine lv_lookup (off := 39) (tgt := 43) hx hb dX1_put_4 (by decide) (by rw [c_3]; rfl) (by decide) ?_
      refine lv_aload_n hx hb dX1_put_43 rfl (lv_at hl 0 rfl) ?_
      refine gf_X1_9 (o := b) (o2 := (b + 1)) C0 hb hP (isS_k hb0) rfl dX1_put_44 ?_
      refine lv_iload_n hx hb dX1_put_47 rfl (lv_at hl 1 rfl) ?_
      refine lv_iload_n hx hb dX1_put_48 rfl (lv_at hl 2 rfl) ?_
      refine lv_i2s (v := x2.toInt16.toInt32) hx hb dX1_put_49 rfl ?_
      obtain ⟨hi_4, h⟩ := chk_s h
      refine m_iast (o := (b + 1)) (N := 40) (i := x1) (j := x1.toNatClampNeg) C0 hb hP hS (isS_1 hb0) (by decide) hi_4 rfl dX1_put_50 (fun H locs hP hS => ?_)
      refine lv_goto (tgt := 61) hx hb dX1_put_51 (by decide) ?_
      exact m_rv hx hb hr hlk hP hS (Option.some.inj h) dX1_put_61
    · rw [if_neg c_3] at h
      refine lv_lookup (off := 50) (tgt := 54) hx hb dX1_put_4 (by decide) (by show Op.lookupswitch.offset [(8, 28), (16, 39)] _ _ = _; rw [lv_osw (a := 8) c_1 rfl, lv_osw (a := 16) c_3 rfl]; rfl) (by decide) ?_
      refine lv_aload_n hx hb dX1_put_54 rfl (lv_at hl 0 rfl) ?_
      refine gf_X1_9 (o := b) (o2 := (b + 1)) C0 hb hP (isS_k hb0) rfl dX1_put_55 ?_
      refine lv_iload_n hx hb dX1_put_58 rfl (lv_at hl 1 rfl) ?_
      refine lv_iload_n hx hb dX1_put_59 rfl (lv_at hl 2 rfl) ?_
      obtain ⟨hi_5, h⟩ := chk_s h
      refine m_iast (o := (b + 1)) (N := 40) (i := x1) (j := x1.toNatClampNeg) C0 hb hP hS (isS_1 hb0) (by decide) hi_5 rfl dX1_put_60 (fun H locs hP hS => ?_)
      exact m_rv hx hb hr hlk hP hS (Option.some.inj h) dX1_put_61

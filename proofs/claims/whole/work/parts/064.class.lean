def f_X5_write (x1 : Int32) (x2 : Int32) (x3 : Int32) (σ : Mem) : Option (Int32 × Mem) := ((f_X5_sheetTrouble x1 σ).bind fun q_1 => (if q_1 = 0 then (chk x1 4 (if (f_X5_outside x2 ((σ (63 + 2 * x1.toNatClampNeg) 2) - 1)) = 0 then (chk x1 4 ((f_X1_put (63 + 2 * x1.toNatClampNeg) x2 x3 σ).bind fun q_7 => some (1, q_7))) else ((f_X5_finding (-1000001) σ).bind fun q_9 => some (q_9.1, q_9.2)))) else ((f_X5_finding q_1 σ).bind fun q_11 => some (q_11.1, q_11.2))))
set_option maxHeartbeats 4000000 in
set_option maxRecDepth 100000 in
theorem k_X5_write (l : Launch) (G : GG) (a : Nat → Nat) (σ : Mem) (hj : INJ nR a) (x1 : Int32) (x2 : Int32) (x3 : Int32) (q : Int32 × Mem) (h : f_X5_write x1 x2 x3 σ = some q) : Met l yX5_write (Cond.code yX5_write cX5_write 5 (some .int) :: TB) ({ frames := 2, cells := 0, slots := 0, locals := 42 } : Room) (PA G kR nR a σ [.ref (a 0), .int x1, .int x2, .int x3]) (QI G kR nR a q) 0 0 (AW nR a) := by
  refine M_ofW (by decide) hj kR_lt (Nat.le_of_ble_eq_true rfl) (fun p e s m below meth c ls C0 hb hml hr hlk hP hS hl => ?_)
  have C0 : CT p s _ m RX5 G kR nR a := C0
  have hx := C0.1
  have hts := C0.2.1
  have hown := C0.2.2.1
  have hl : lv_has ls 5 [(0, .ref (a 0)), (1, .int x1), (2, .int x2), (3, .int x3)] := hl
  unfold f_X5_write at h
  refine lv_aload_n hx hb dX5_write_0 rfl (lv_at hl 0 rfl) ?_
  refine lv_iload_n hx hb dX5_write_1 rfl (lv_at hl 1 rfl) ?_
  obtain ⟨q_1, hq_2, h⟩ := bd_s h
  refine m_rVi (As := [.int x1]) (rest := []) (o := 0) (ci := 5) C0 hb hml hl.1 wm_X5_209 md_X5_sheetTrouble (k_X5_sheetTrouble l G a σ hj x1 q_1 hq_2) rfl rfl ⟨(Nat.le_of_ble_eq_true rfl), (Nat.le_of_ble_eq_true rfl)⟩ hP hS (rfl : kR 0 = 5) (by decide) rfl rfl rfl (Nat.le_of_ble_eq_true rfl) dX5_write_2 ?_
  refine lv_istore (lv' := [(4, .int q_1), (0, .ref (a 0)), (1, .int x1), (2, .int x2), (3, .int x3)]) hx hb dX5_write_5 hl (by decide) rfl (fun ls hl => ?_)
  refine lv_iload hx hb dX5_write_7 (lv_at hl 0 rfl) ?_
  refine lv_if_eq (tgt := 19) hx hb dX5_write_9 (by decide) (fun (c_3 : q_1 = 0) => ?_) (fun (c_3 : ¬ q_1 = 0) => ?_)
  · rw [if_pos c_3] at h
    refine lv_iload_n hx hb dX5_write_19 rfl (lv_at hl 3 rfl) ?_
    refine lv_aload_n hx hb dX5_write_20 rfl (lv_at hl 1 rfl) ?_
    refine gf_X5_32 (o := 0) (o2 := 62) C0 hb hP (rfl : kR 0 = 5) rfl dX5_write_21 ?_
    refine lv_iload_n hx hb dX5_write_24 rfl (lv_at hl 2 rfl) ?_
    obtain ⟨hi_4, h⟩ := chk_s h
    refine m_aldS (o := 62) (i := x1) (o2 := (63 + 2 * x1.toNatClampNeg)) C0 hb hP (rfl : kR 62 = 51) hi_4 rfl dX5_write_25 ?_
    refine gf_X5_261 (o := (63 + 2 * x1.toNatClampNeg)) C0 hb hP (isS_k (isS_at (vp_lt hi_4))) dX5_write_26 ?_
    refine lv_iconst (v := 1) hx hb dX5_write_29 (by decide) ?_
    refine lv_isub hx hb dX5_write_30 ?_
    refine m_pSi (As := [.int x2, .int ((σ (63 + 2 * x1.toNatClampNeg) 2) - 1)]) (rest := []) C0.z hb hml hl.1 wm_X5_50 md_X5_outside (k_X5_outside l x2 ((σ (63 + 2 * x1.toNatClampNeg) 2) - 1)) rfl rfl ⟨(Nat.le_of_ble_eq_true rfl), (Nat.le_of_ble_eq_true rfl)⟩ rfl rfl (Nat.le_of_ble_eq_true rfl) dX5_write_31 ?_
    refine lv_if_eq (tgt := 44) hx hb dX5_write_34 (by decide) (fun (c_5 : (f_X5_outside x2 ((σ (63 + 2 * x1.toNatClampNeg) 2) - 1)) = 0) => ?_) (fun (c_5 : ¬ (f_X5_outside x2 ((σ (63 + 2 * x1.toNatClampNeg) 2) - 1)) = 0) => ?_)
    · rw [if_pos c_5] at h
      refine lv_aload_n hx hb dX5_write_44 rfl (lv_at hl 1 rfl) ?_
      refine gf_X5_32 (o := 0) (o2 := 62) C0 hb hP (rfl : kR 0 = 5) rfl dX5_write_45 ?_
      refine lv_iload_n hx hb dX5_write_48 rfl (lv_at hl 2 rfl) ?_
      obtain ⟨hi_6, h⟩ := chk_s h
      refine m_aldS (o := 62) (i := x1) (o2 := (63 + 2 * x1.toNatClampNeg)) C0 hb hP (rfl : kR 62 = 51) hi_6 rfl dX5_write_49 ?_
      refine lv_iload_n hx hb dX5_write_50 rfl (lv_at hl 3 rfl) ?_
      refine lv_iload_n hx hb dX5_write_51 rfl (lv_at hl 4 rfl) ?_
      obtain ⟨q_7, hq_8, h⟩ := bd_s h
      refine m_cVv (As := [.int x2, .int x3]) (rest := []) (o := (63 + 2 * x1.toNatClampNeg)) (ci := 1) C0 hb hml hl.1 wm_X5_264 md_X1_put (k_X1_put l G a σ hj (63 + 2 * x1.toNatClampNeg) (isS_at (vp_lt hi_6)) x2 x3 q_7 hq_8) rfl rfl ⟨(Nat.le_of_ble_eq_true rfl), (Nat.le_of_ble_eq_true rfl)⟩ hP hS (isS_k (isS_at (vp_lt hi_6))) (by decide) rfl rfl rfl (Nat.le_of_ble_eq_true rfl) dX5_write_52 (fun H locs hP hS => ?_)
      refine lv_iconst (v := 1) hx hb dX5_write_55 (by decide) ?_
      exact m_ri hx hb hr hlk hP hS (Option.some.inj h) dX5_write_56
    · rw [if_neg c_5] at h
      refine lv_aload_n hx hb dX5_write_37 rfl (lv_at hl 1 rfl) ?_
      refine lv_ldc hx hb hown (hts _ wk_X5_54) dX5_write_38 ?_
      obtain ⟨q_9, hq_10, h⟩ := bd_s h
      refine m_cVi (As := [.int (-1000001)]) (rest := []) (o := 0) (ci := 5) C0 hb hml hl.1 wm_X5_55 md_X5_finding (k_X5_finding l G a σ hj (-1000001) q_9 hq_10) rfl rfl ⟨(Nat.le_of_ble_eq_true rfl), (Nat.le_of_ble_eq_true rfl)⟩ hP hS (rfl : kR 0 = 5) (by decide) rfl rfl rfl (Nat.le_of_ble_eq_true rfl) dX5_write_40 (fun H locs hP hS => ?_)
      exact m_ri hx hb hr hlk hP hS (Option.some.inj h) dX5_write_43
  · rw [if_neg c_3] at h
    refine lv_aload_n hx hb dX5_write_12 rfl (lv_at hl 1 rfl) ?_
    refine lv_iload hx hb dX5_write_13 (lv_at hl 0 rfl) ?_
    obtain ⟨q_11, hq_12, h⟩ := bd_s h
    refine m_cVi (As := [.int q_1]) (rest := []) (o := 0) (ci := 5) C0 hb hml hl.1 wm_X5_55 md_X5_finding (k_X5_finding l G a σ hj q_1 q_11 hq_12) rfl rfl ⟨(Nat.le_of_ble_eq_true rfl), (Nat.le_of_ble_eq_true rfl)⟩ hP hS (rfl : kR 0 = 5) (by decide) rfl rfl rfl (Nat.le_of_ble_eq_true rfl) dX5_write_15 (fun H locs hP hS => ?_)
    exact m_ri hx hb hr hlk hP hS (Option.some.inj h) dX5_write_18
def f_X1_has (b : Nat) (x1 : Int32) (x2 : Int32) (σ : Mem) : Int32 := (if x1 < 0 then 0 else (if x2 < 0 then 0 else (if (σ b 2) < x2 then 0 else (if ((σ b 2) - x2) < x1 then 0 else 1))))
theorem bz_X1_has (b : Nat) (x1 : Int32) (x2 : Int32) (σ : Mem) : f_X1_has b x1 x2 σ = 0 ∨ f_X1_has b x1 x2 σ = 1 := by
  unfold f_X1_has
  repeat' split
  all_goals first | exact Or.inl rfl | exact Or.inr rfl
set_option maxHeartbeats 4000000 in
set_option maxRecDepth 100000 in
theorem k_X1_has (l : Launch) (G : GG) (a : Nat → Nat) (σ : Mem) (hj : INJ nR a) (b : Nat) (hb0 : isS b) (x1 : Int32) (x2 : Int32) : Met l yX1_has (Cond.code yX1_has cX1_has 3 (some .boolean) :: TB) ({ frames := 0, cells := 0, slots := 0, locals := 0 } : Room) (PA G kR nR a σ [.ref (a b), .int x1, .int x2]) (SI (f_X1_has b x1 x2 σ)) 0 0 NF := by
  generalize h : f_X1_has b x1 x2 σ = q
  refine M_ofW (by decide) hj kR_lt (Nat.le_of_ble_eq_true rfl) (fun p e s m below meth c ls C0 hb hml hr hlk hP hS hl => ?_)
  have C0 : CT p s _ m RX1 G kR nR a := C0
  have hx := C0.1
  have hts := C0.2.1
  have hown := C0.2.2.1
  have hl : lv_has ls 3 [(0, .ref (a b)), (1, .int x1), (2, .int x2)] := hl
  unfold f_X1_has at h
  refine lv_iload_n hx hb dX1_has_0 rfl (lv_at hl 1 rfl) ?_
  refine lv_if_lt (tgt := 30) hx hb dX1_has_1 (by decide) (fun (c_1 : x1 < 0) => ?_) (fun (c_1 : ¬ x1 < 0) => ?_)
  · rw [if_pos c_1] at h
    refine lv_iconst (v := 0) hx hb dX1_has_30 (by decide) ?_
    exact m_sz hx hb hr hlk (Or.inl rfl) h dX1_has_31
  · rw [if_neg c_1] at h
    refine lv_iload_n hx hb dX1_has_4 rfl (lv_at hl 2 rfl) ?_
    refine lv_if_lt (tgt := 30) hx hb dX1_has_5 (by decide) (fun (c_2 : x2 < 0) => ?_) (fun (c_2 : ¬ x2 < 0) => ?_)
    · rw [if_pos c_2] at h
      refine lv_iconst (v := 0) hx hb dX1_has_30 (by decide) ?_
      exact m_sz hx hb hr hlk (Or.inl rfl) h dX1_has_31
    · rw [if_neg c_2] at h
      refine lv_iload_n hx hb dX1_has_8 rfl (lv_at hl 2 rfl) ?_
      refine lv_aload_n hx hb dX1_has_9 rfl (lv_at hl 0 rfl) ?_
      refine gf_X1_19 (o := b) C0 hb hP (isS_k hb0) dX1_has_10 ?_
      refine lv_icmp_gt (tgt := 30) hx hb dX1_has_13 (by decide) (fun (c_3 : (σ b 2) < x2) => ?_) (fun (c_3 : ¬ (σ b 2) < x2) => ?_)
      · rw [if_pos c_3] at h
        refine lv_iconst (v := 0) hx hb dX1_has_30 (by decide) ?_
        exact m_sz hx hb hr hlk (Or.inl rfl) h dX1_has_31
      · rw [if_neg c_3] at h
        refine lv_iload_n hx hb dX1_has_16 rfl (lv_at hl 1 rfl) ?_
        refine lv_aload_n hx hb dX1_has_17 rfl (lv_at hl 0 rfl) ?_
        refine gf_X1_19 (o := b) C0 hb hP (isS_k hb0) dX1_has_18 ?_
        refine lv_iload_n hx hb dX1_has_21 rfl (lv_at hl 2 rfl) ?_
        refine lv_isub hx hb dX1_has_22 ?_
        refine lv_icmp_gt (tgt := 30) hx hb dX1_has_23 (by decide) (fun (c_4 : ((σ b 2) - x2) < x1) => ?_) (fun (c_4 : ¬ ((σ b 2) - x2) < x1) => ?_)
        · rw [if_pos c_4] at h
          refine lv_iconst (v := 0) hx hb dX1_has_30 (by decide) ?_
          exact m_sz hx hb hr hlk (Or.inl rfl) h dX1_has_31
        · rw [if_neg c_4] at h
          refine lv_iconst (v := 1) hx hb dX1_has_26 (by decide) ?_
          refine lv_goto (tgt := 31) hx hb dX1_has_27 (by decide) ?_
          exact m_sz hx hb hr hlk (Or.inr rfl) h dX1_has_31
def f_X5_copy (x1 : Int32) (x2 : Int32) (x3 : Int32) (x4 : Int32) (x5 : Int32) (σ : Mem) : Option (Int32 × Mem) := (if (f_X5_outside x1 3) = 0 then (if (f_X5_outside x3 3) = 0 then (chk x1 4 (chk x3 4 (if (f_X1_isMissing (63 + 2 * x1.toNatClampNeg) σ) = 0 then (if (f_X1_isMissing (63 + 2 * x3.toNatClampNeg) σ) = 0 then (if (σ (63 + 2 * x1.toNatClampNeg) 1) = (σ (63 + 2 * x3.toNatClampNeg) 1) then (if (f_X1_has (63 + 2 * x1.toNatClampNeg) x2 x5 σ) = 0 then ((f_X5_finding (-1000001) σ).bind fun q_13 => some (q_13.1, q_13.2)) else (if (f_X1_has (63 + 2 * x3.toNatClampNeg) x4 x5 σ) = 0 then ((f_X5_finding (-1000001) σ).bind fun q_17 => some (q_17.1, q_17.2)) else (ccp x2 0 x4 0 x5 40 40 (some (x5, mcp σ ((63 + 2 * x3.toNatClampNeg) + 1) (va_cpy (σ ((63 + 2 * x1.toNatClampNeg) + 1)) (σ ((63 + 2 * x3.toNatClampNeg) + 1)) x2.toNatClampNeg x4.toNatClampNeg x5.toNatClampNeg)))))) else ((f_X5_finding (-1000003) σ).bind fun q_19 => some (q_19.1, q_19.2))) else ((f_X5_finding (-1000006) σ).bind fun q_21 => some (q_21.1, q_21.2))) else ((f_X5_finding (-1000006) σ).bind fun q_8 => some (q_8.1, q_8.2))))) else ((f_X5_finding (-1000001) σ).bind fun q_23 => some (q_23.1, q_23.2))) else ((f_X5_finding (-1000001) σ).bind fun q_2 => some (q_2.1, q_2.2)))
set_option maxHeartbeats 4000000 in
set_option maxRecDepth 100000 in
theorem k_X5_copy (l : Launch) (G : GG) (a : Nat → Nat) (σ : Mem) (hj : INJ nR a) (x1 : Int32) (x2 : Int32) (x3 : Int32) (x4 : Int32) (x5 : Int32) (q : Int32 × Mem) (h : f_X5_copy x1 x2 x3 x4 x5 σ = some q) : Met l yX5_copy (Cond.code yX5_copy cX5_copy 8 (some .int) :: TB) ({ frames := 1, cells := 0, slots := 0, locals := 26 } : Room) (PA G kR nR a σ [.ref (a 0), .int x1, .int x2, .int x3, .int x4, .int x5]) (QI G kR nR a q) 0 0 (AW nR a) := by
  refine M_ofW (by decide) hj kR_lt (Nat.le_of_ble_eq_true rfl) (fun p e s m below meth c ls C0 hb hml hr hlk hP hS hl => ?_)
  have C0 : CT p s _ m RX5 G kR nR a := C0
  have hx := C0.1
  have hts := C0.2.1
  have hown := C0.2.2.1
  have hl : lv_has ls 8 [(0, .ref (a 0)), (1, .int x1), (2, .int x2), (3, .int x3), (4, .int x4), (5, .int x5)] := hl
  unfold f_X5_copy at h
  refine lv_iload_n hx hb dX5_copy_0 rfl (lv_at hl 1 rfl) ?_
  refine lv_iconst (v := 3) hx hb dX5_copy_1 (by decide) ?_
  refine m_pSi (As := [.int x1, .int 3]) (rest := []) C0.z hb hml hl.1 wm_X5_50 md_X5_outside (k_X5_outside l x1 3) rfl rfl ⟨(Nat.le_of_ble_eq_true rfl), (Nat.le_of_ble_eq_true rfl)⟩ rfl rfl (Nat.le_of_ble_eq_true rfl) dX5_copy_2 ?_
  refine lv_if_ne (tgt := 16) hx hb dX5_copy_5 (by decide) (fun (c_1 : ¬ (f_X5_outside x1 3) = 0) => ?_) (fun (c_1 : (f_X5_outside x1 3) = 0) => ?_)
  · rw [if_neg c_1] at h
    refine lv_aload_n hx hb dX5_copy_16 rfl (lv_at hl 0 rfl) ?_
    refine lv_ldc hx hb hown (hts _ wk_X5_54) dX5_copy_17 ?_
    obtain ⟨q_2, hq_3, h⟩ := bd_s h
    refine m_cVi (As := [.int (-1000001)]) (rest := []) (o := 0) (ci := 5) C0 hb hml hl.1 wm_X5_55 md_X5_finding (k_X5_finding l G a σ hj (-1000001) q_2 hq_3) rfl rfl ⟨(Nat.le_of_ble_eq_true rfl), (Nat.le_of_ble_eq_true rfl)⟩ hP hS (rfl : kR 0 = 5) (by decide) rfl rfl rfl (Nat.le_of_ble_eq_true rfl) dX5_copy_19 (fun H locs hP hS => ?_)
    exact m_ri hx hb hr hlk hP hS (Option.some.inj h) dX5_copy_22
  · rw [if_pos c_1] at h
    refine lv_iload_n hx hb dX5_copy_8 rfl (lv_at hl 3 rfl) ?_
    refine lv_iconst (v := 3) hx hb dX5_copy_9 (by decide) ?_
    refine m_pSi (As := [.int x3, .int 3]) (rest := []) C0.z hb hml hl.1 wm_X5_50 md_X5_outside (k_X5_outside l x3 3) rfl rfl ⟨(Nat.le_of_ble_eq_true rfl), (Nat.le_of_ble_eq_true rfl)⟩ rfl rfl (Nat.le_of_ble_eq_true rfl) dX5_copy_10 ?_
    refine lv_if_eq (tgt := 23) hx hb dX5_copy_13 (by decide) (fun (c_4 : (f_X5_outside x3 3) = 0) => ?_) (fun (c_4 : ¬ (f_X5_outside x3 3) = 0) => ?_)
    · rw [if_pos c_4] at h
      refine lv_aload_n hx hb dX5_copy_23 rfl (lv_at hl 0 rfl) ?_
      refine gf_X5_32 (o := 0) (o2 := 62) C0 hb hP (rfl : kR 0 = 5) rfl dX5_copy_24 ?_
      refine lv_iload_n hx hb dX5_copy_27 rfl (lv_at hl 1 rfl) ?_
      obtain ⟨hi_5, h⟩ := chk_s h
      refine m_aldS (o := 62) (i := x1) (o2 := (63 + 2 * x1.toNatClampNeg)) C0 hb hP (rfl : kR 62 = 51) hi_5 rfl dX5_copy_28 ?_
      refine lv_astore (lv' := [(6, .ref (a (63 + 2 * x1.toNatClampNeg))), (0, .ref (a 0)), (1, .int x1), (2, .int x2), (3, .int x3), (4, .int x4), (5, .int x5)]) hx hb dX5_copy_29 hl (by decide) rfl (fun ls hl => ?_)
      refine lv_aload_n hx hb dX5_copy_31 rfl (lv_at hl 1 rfl) ?_
      refine gf_X5_32 (o := 0) (o2 := 62) C0 hb hP (rfl : kR 0 = 5) rfl dX5_copy_32 ?_
      refine lv_iload_n hx hb dX5_copy_35 rfl (lv_at hl 4 rfl) ?_
      obtain ⟨hi_6, h⟩ := chk_s h
      refine m_aldS (o := 62) (i := x3) (o2 := (63 + 2 * x3.toNatClampNeg)) C0 hb hP (rfl : kR 62 = 51) hi_6 rfl dX5_copy_36 ?_
      refine lv_astore (lv' := [(7, .ref (a (63 + 2 * x3.toNatClampNeg))), (6, .ref (a (63 + 2 * x1.toNatClampNeg))), (0, .ref (a 0)), (1, .int x1), (2, .int x2), (3, .int x3), (4, .int x4), (5, .int x5)]) hx hb dX5_copy_37 hl (by decide) rfl (fun ls hl => ?_)
      refine lv_aload hx hb dX5_copy_39 (lv_at hl 1 rfl) ?_
      refine m_rVi (As := []) (rest := []) (o := (63 + 2 * x1.toNatClampNeg)) (ci := 1) C0 hb hml hl.1 wm_X5_266 md_X1_isMissing (k_X1_isMissing l G a σ hj (63 + 2 * x1.toNatClampNeg) (isS_at (vp_lt hi_5))) rfl rfl ⟨(Nat.le_of_ble_eq_true rfl), (Nat.le_of_ble_eq_true rfl)⟩ hP hS (isS_k (isS_at (vp_lt hi_5))) (by decide) rfl rfl rfl (Nat.le_of_ble_eq_true rfl) dX5_copy_41 ?_
      refine lv_if_ne (tgt := 55) hx hb dX5_copy_44 (by decide) (fun (c_7 : ¬ (f_X1_isMissing (63 + 2 * x1.toNatClampNeg) σ) = 0) => ?_) (fun (c_7 : (f_X1_isMissing (63 + 2 * x1.toNatClampNeg) σ) = 0) => ?_)
      · rw [if_neg c_7] at h
        refine lv_aload_n hx hb dX5_copy_55 rfl (lv_at hl 2 rfl) ?_
        refine lv_ldc hx hb hown (hts _ wk_X5_251) dX5_copy_56 ?_
        obtain ⟨q_8, hq_9, h⟩ := bd_s h
        refine m_cVi (As := [.int (-1000006)]) (rest := []) (o := 0) (ci := 5) C0 hb hml hl.1 wm_X5_55 md_X5_finding (k_X5_finding l G a σ hj (-1000006) q_8 hq_9) rfl rfl ⟨(Nat.le_of_ble_eq_true rfl), (Nat.le_of_ble_eq_true rfl)⟩ hP hS (rfl : kR 0 = 5) (by decide) rfl rfl rfl (Nat.le_of_ble_eq_true rfl) dX5_copy_58 (fun H locs hP hS => ?_)
        exact m_ri hx hb hr hlk hP hS (Option.some.inj h) dX5_copy_61
      · rw [if_pos c_7] at h
        refine lv_aload hx hb dX5_copy_47 (lv_at hl 0 rfl) ?_
        refine m_rVi (As := []) (rest := []) (o := (63 + 2 * x3.toNatClampNeg)) (ci := 1) C0 hb hml hl.1 wm_X5_266 md_X1_isMissing (k_X1_isMissing l G a σ hj (63 + 2 * x3.toNatClampNeg) (isS_at (vp_lt hi_6))) rfl rfl ⟨(Nat.le_of_ble_eq_true rfl), (Nat.le_of_ble_eq_true rfl)⟩ hP hS (isS_k (isS_at (vp_lt hi_6))) (by decide) rfl rfl rfl (Nat.le_of_ble_eq_true rfl) dX5_copy_49 ?_
        refine lv_if_eq (tgt := 62) hx hb dX5_copy_52 (by decide) (fun (c_10 : (f_X1_isMissing (63 + 2 * x3.toNatClampNeg) σ) = 0) => ?_) (fun (c_10 : ¬ (f_X1_isMissing (63 + 2 * x3.toNatClampNeg) σ) = 0) => ?_)
        · rw [if_pos c_10] at h
          refine lv_aload hx hb dX5_copy_62 (lv_at hl 1 rfl) ?_
          refine gf_X5_269 (o := (63 + 2 * x1.toNatClampNeg)) C0 hb hP (isS_k (isS_at (vp_lt hi_5))) dX5_copy_64 ?_
          refine lv_aload hx hb dX5_copy_67 (lv_at hl 0 rfl) ?_
          refine gf_X5_269 (o := (63 + 2 * x3.toNatClampNeg)) C0 hb hP (isS_k (isS_at (vp_lt hi_6))) dX5_copy_69 ?_
          refine lv_icmp_eq (tgt := 82) hx hb dX5_copy_72 (by decide) (fun (c_11 : (σ (63 + 2 * x1.toNatClampNeg) 1) = (σ (63 + 2 * x3.toNatClampNeg) 1)) => ?_) (fun (c_11 : ¬ (σ (63 + 2 * x1.toNatClampNeg) 1) = (σ (63 + 2 * x3.toNatClampNeg) 1)) => ?_)
          · rw [if_pos c_11] at h
            refine lv_aload hx hb dX5_copy_82 (lv_at hl 1 rfl) ?_
            refine lv_iload_n hx hb dX5_copy_84 rfl (lv_at hl 4 rfl) ?_
            refine lv_iload hx hb dX5_copy_85 (lv_at hl 7 rfl) ?_
            refine m_rVi (As := [.int x2, .int x5]) (rest := []) (o := (63 + 2 * x1.toNatClampNeg)) (ci := 1) C0 hb hml hl.1 wm_X5_272 md_X1_has (k_X1_has l G a σ hj (63 + 2 * x1.toNatClampNeg) (isS_at (vp_lt hi_5)) x2 x5) rfl rfl ⟨(Nat.le_of_ble_eq_true rfl), (Nat.le_of_ble_eq_true rfl)⟩ hP hS (isS_k (isS_at (vp_lt hi_5))) (by decide) rfl rfl rfl (Nat.le_of_ble_eq_true rfl) dX5_copy_87 ?_
            refine lv_if_eq (tgt := 105) hx hb dX5_copy_90 (by decide) (fun (c_12 : (f_X1_has (63 + 2 * x1.toNatClampNeg) x2 x5 σ) = 0) => ?_) (fun (c_12 : ¬ (f_X1_has (63 + 2 * x1.toNatClampNeg) x2 x5 σ) = 0) => ?_)
            · rw [if_pos c_12] at h
              refine lv_aload_n hx hb dX5_copy_105 rfl (lv_at hl 2 rfl) ?_
              refine lv_ldc hx hb hown (hts _ wk_X5_54) dX5_copy_106 ?_
              obtain ⟨q_13, hq_14, h⟩ := bd_s h
              refine m_cVi (As := [.int (-1000001)]) (rest := []) (o := 0) (ci := 5) C0 hb hml hl.1 wm_X5_55 md_X5_finding (k_X5_finding l G a σ hj (-1000001) q_13 hq_14) rfl rfl ⟨(Nat.le_of_ble_eq_true rfl), (Nat.le_of_ble_eq_true rfl)⟩ hP hS (rfl : kR 0 = 5) (by decide) rfl rfl rfl (Nat.le_of_ble_eq_true rfl) dX5_copy_108 (fun H locs hP hS => ?_)
              exact m_ri hx hb hr hlk hP hS (Option.some.inj h) dX5_copy_111
            · rw [if_neg c_12] at h
              refine lv_aload hx hb dX5_copy_93 (lv_at hl 0 rfl) ?_
              refine lv_iload hx hb dX5_copy_95 (lv_at hl 6 rfl) ?_
              refine lv_iload hx hb dX5_copy_97 (lv_at hl 7 rfl) ?_
              refine m_rVi (As := [.int x4, .int x5]) (rest := []) (o := (63 + 2 * x3.toNatClampNeg)) (ci := 1) C0 hb hml hl.1 wm_X5_272 md_X1_has (k_X1_has l G a σ hj (63 + 2 * x3.toNatClampNeg) (isS_at (vp_lt hi_6)) x4 x5) rfl rfl ⟨(Nat.le_of_ble_eq_true rfl), (Nat.le_of_ble_eq_true rfl)⟩ hP hS (isS_k (isS_at (vp_lt hi_6))) (by decide) rfl rfl rfl (Nat.le_of_ble_eq_true rfl) dX5_copy_99 ?_
              refine lv_if_ne (tgt := 112) hx hb dX5_copy_102 (by decide) (fun (c_15 : ¬ (f_X1_has (63 + 2 * x3.toNatClampNeg) x4 x5 σ) = 0) => ?_) (fun (c_15 : (f_X1_has (63 + 2 * x3.toNatClampNeg) x4 x5 σ) = 0) => ?_)
              · rw [if_neg c_15] at h
                refine lv_aload hx hb dX5_copy_112 (lv_at hl 1 rfl) ?_
                refine gf_X5_275 (o := (63 + 2 * x1.toNatClampNeg)) (o2 := ((63 + 2 * x1.toNatClampNeg) + 1)) C0 hb hP (isS_k (isS_at (vp_lt hi_5))) rfl dX5_copy_114 ?_
                refine lv_iload_n hx hb dX5_copy_117 rfl (lv_at hl 4 rfl) ?_
                refine lv_aload hx hb dX5_copy_118 (lv_at hl 0 rfl) ?_
                refine gf_X5_275 (o := (63 + 2 * x3.toNatClampNeg)) (o2 := ((63 + 2 * x3.toNatClampNeg) + 1)) C0 hb hP (isS_k (isS_at (vp_lt hi_6))) rfl dX5_copy_120 ?_
                refine lv_iload hx hb dX5_copy_123 (lv_at hl 6 rfl) ?_
                refine lv_iload hx hb dX5_copy_125 (lv_at hl 7 rfl) ?_
                obtain ⟨hc_16, h⟩ := ccp_s h
                refine m_copy (o := ((63 + 2 * x1.toNatClampNeg) + 1)) (o1 := ((63 + 2 * x3.toNatClampNeg) + 1)) (N := 40) (N1 := 40) (sp := x2) (dp := x4) (z := x5) (sp' := x2.toNatClampNeg) (dp' := x4.toNatClampNeg) (z' := x5.toNatClampNeg) (rest := []) C0 hb hml hl.1 wm_X5_278 hP hS (isS_1 (isS_at (vp_lt hi_5))) (by decide) (isS_1 (isS_at (vp_lt hi_6))) (by decide) hc_16 rfl rfl rfl (Nat.le_of_ble_eq_true rfl) (Nat.le_of_ble_eq_true rfl) dX5_copy_127 (fun H locs hP hS => ?_)
                refine lv_iload hx hb dX5_copy_130 (lv_at hl 7 rfl) ?_
                exact m_ri hx hb hr hlk hP hS (Option.some.inj h) dX5_copy_132
              · rw [if_pos c_15] at h
                refine lv_aload_n hx hb dX5_copy_105 rfl (lv_at hl 2 rfl) ?_
                refine lv_ldc hx hb hown (hts _ wk_X5_54) dX5_copy_106 ?_
                obtain ⟨q_17, hq_18, h⟩ := bd_s h
                refine m_cVi (As := [.int (-1000001)]) (rest := []) (o := 0) (ci := 5) C0 hb hml hl.1 wm_X5_55 md_X5_finding (k_X5_finding l G a σ hj (-1000001) q_17 hq_18) rfl rfl ⟨(Nat.le_of_ble_eq_true rfl), (Nat.le_of_ble_eq_true rfl)⟩ hP hS (rfl : kR 0 = 5) (by decide) rfl rfl rfl (Nat.le_of_ble_eq_true rfl) dX5_copy_108 (fun H locs hP hS => ?_)
                exact m_ri hx hb hr hlk hP hS (Option.some.inj h) dX5_copy_111
          · rw [if_neg c_11] at h
            refine lv_aload_n hx hb dX5_copy_75 rfl (lv_at hl 2 rfl) ?_
            refine lv_ldc hx hb hown (hts _ wk_X5_255) dX5_copy_76 ?_
            obtain ⟨q_19, hq_20, h⟩ := bd_s h
            refine m_cVi (As := [.int (-1000003)]) (rest := []) (o := 0) (ci := 5) C0 hb hml hl.1 wm_X5_55 md_X5_finding (k_X5_finding l G a σ hj (-1000003) q_19 hq_20) rfl rfl ⟨(Nat.le_of_ble_eq_true rfl), (Nat.le_of_ble_eq_true rfl)⟩ hP hS (rfl : kR 0 = 5) (by decide) rfl rfl rfl (Nat.le_of_ble_eq_true rfl) dX5_copy_78 (fun H locs hP hS => ?_)
            exact m_ri hx hb hr hlk hP hS (Option.some.inj h) dX5_copy_81
        · rw [if_neg c_10] at h
          refine lv_aload_n hx hb dX5_copy_55 rfl (lv_at hl 2 rfl) ?_
          refine lv_ldc hx hb hown (hts _ wk_X5_251) dX5_copy_56 ?_
          obtain ⟨q_21, hq_22, h⟩ := bd_s h
          refine m_cVi (As := [.int (-1000006)]) (rest := []) (o := 0) (ci := 5) C0 hb hml hl.1 wm_X5_55 md_X5_finding (k_X5_finding l G a σ hj (-1000006) q_21 hq_22) rfl rfl ⟨(Nat.le_of_ble_eq_true rfl), (Nat.le_of_ble_eq_true rfl)⟩ hP hS (rfl : kR 0 = 5) (by decide) rfl rfl rfl (Nat.le_of_ble_eq_true rfl) dX5_copy_58 (fun H locs hP hS => ?_)
          exact m_ri hx hb hr hlk hP hS (Option.some.inj h) dX5_copy_61
    · rw [if_neg c_4] at h
      refine lv_aload_n hx hb dX5_copy_16 rfl (lv_at hl 0 rfl) ?_
      refine lv_ldc hx hb hown (hts _ wk_X5_54) dX5_copy_17 ?_
      obtain ⟨q_23, hq_24, h⟩ := bd_s h
      refine m_cVi (As := [.int (-1000001)]) (rest := []) (o := 0) (ci := 5) C0 hb hml hl.1 wm_X5_55 md_X5_finding (k_X5_finding l G a σ hj (-1000001) q_23 hq_24) rfl rfl ⟨(Nat.le_of_ble_eq_true rfl), (Nat.le_of_ble_eq_true rfl)⟩ hP hS (rfl : kR 0 = 5) (by decide) rfl rfl rfl (Nat.le_of_ble_eq_true rfl) dX5_copy_19 (fun H locs hP hS => ?_)
      exact m_ri hx hb hr hlk hP hS (Option.some.inj h) dX5_copy_22
def f_X5_load_B26 (x1 : Int32) (rec26 : Int32 → Mem → Option (Int32 × Mem)) (x4_5 : Int32) (σ_6 : Mem) : Option (Int32 × Mem) := (if (σ_6 (63 + 2 * x1.toNatClampNeg) 2) ≤ x4_5 then some (x4_5, σ_6) else (if 8 ≤ x4_5 then some (x4_5, σ_6) else (chk x4_5 40 (if (f_X5_outside (σ_6 ((63 + 2 * x1.toNatClampNeg) + 1) x4_5.toNatClampNeg) 99) = 0 then (chk x4_5 40 (chk x4_5 8 (rec26 (x4_5 + 1) (mst σ_6 5 x4_5.toNatClampNeg (σ_6 ((63 + 2 * x1.toNatClampNeg) + 1) x4_5.toNatClampNeg))))) else some (x4_5, σ_6)))))
def f_X5_load (x1 : Int32) (σ : Mem) : Option (Int32 × Mem) := ((f_X5_sheetTrouble x1 σ).bind fun q_1 => (if q_1 = 0 then (chk x1 4 (it2 (f_X5_load_B26 x1) FU 0 σ)) else ((f_X5_finding q_1 σ).bind fun q_14 => some (q_14.1, q_14.2))))
set_option maxHeartbeats 4000000 in
set_option maxRecDepth 100000 in
theorem k_X5_load (l : Launch) (G : GG) (a : Nat → Nat) (σ : Mem) (hj : INJ nR a) (x1 : Int32) (q : Int32 × Mem) (h : f_X5_load x1 σ = some q) : Met l yX5_load (Cond.code yX5_load cX5_load 5 (some .int) :: TB) ({ frames := 2, cells := 0, slots := 0, locals := 42 } : Room) (PA G kR nR a σ [.ref (a 0), .int x1]) (QI G kR nR a q) 0 0 (AW nR a) := by
  refine M_ofW (by decide) hj kR_lt (Nat.le_of_ble_eq_true rfl) (fun p e s m below meth c ls C0 hb hml hr hlk hP hS hl => ?_)
  have C0 : CT p s _ m RX5 G kR nR a := C0
  have hx := C0.1
  have hts := C0.2.1
  have hown := C0.2.2.1
  have hl : lv_has ls 5 [(0, .ref (a 0)), (1, .int x1)] := hl
  unfold f_X5_load at h
  refine lv_aload_n hx hb dX5_load_0 rfl (lv_at hl 0 rfl) ?_
  refine lv_iload_n hx hb dX5_load_1 rfl (lv_at hl 1 rfl) ?_
  obtain ⟨q_1, hq_2, h⟩ := bd_s h
  refine m_rVi (As := [.int x1]) (rest := []) (o := 0) (ci := 5) C0 hb hml hl.1 wm_X5_209 md_X5_sheetTrouble (k_X5_sheetTrouble l G a σ hj x1 q_1 hq_2) rfl rfl ⟨(Nat.le_of_ble_eq_true rfl), (Nat.le_of_ble_eq_true rfl)⟩ hP hS (rfl : kR 0 = 5) (by decide) rfl rfl rfl (Nat.le_of_ble_eq_true rfl) dX5_load_2 ?_
  refine lv_istore_n (lv' := [(2, .int q_1), (0, .ref (a 0)), (1, .int x1)]) hx hb dX5_load_5 rfl hl (by decide) rfl (fun ls hl => ?_)
  refine lv_iload_n hx hb dX5_load_6 rfl (lv_at hl 0 rfl) ?_
  refine lv_if_eq (tgt := 16) hx hb dX5_load_7 (by decide) (fun (c_3 : q_1 = 0) => ?_) (fun (c_3 : ¬ q_1 = 0) => ?_)
  · rw [if_pos c_3] at h
    refine lv_aload_n hx hb dX5_load_16 rfl (lv_at hl 1 rfl) ?_
    refine gf_X5_32 (o := 0) (o2 := 62) C0 hb hP (rfl : kR 0 = 5) rfl dX5_load_17 ?_
    refine lv_iload_n hx hb dX5_load_20 rfl (lv_at hl 2 rfl) ?_
    obtain ⟨hi_4, h⟩ := chk_s h
    refine m_aldS (o := 62) (i := x1) (o2 := (63 + 2 * x1.toNatClampNeg)) C0 hb hP (rfl : kR 62 = 51) hi_4 rfl dX5_load_21 ?_
    refine lv_astore_n (lv' := [(3, .ref (a (63 + 2 * x1.toNatClampNeg))), (2, .int q_1), (0, .ref (a 0)), (1, .int x1)]) hx hb dX5_load_22 rfl hl (by decide) rfl (fun ls hl => ?_)
    refine lv_iconst (v := 0) hx hb dX5_load_23 (by decide) ?_
    refine lv_istore (lv' := [(4, .int 0), (3, .ref (a (63 + 2 * x1.toNatClampNeg))), (2, .int q_1), (0, .ref (a 0)), (1, .int x1)]) hx hb dX5_load_24 hl (by decide) rfl (fun ls hl => ?_)
    have L_13 : ∀ (fu26 : Nat) (x4_5 : Int32) (σ_6 : Mem) (H : Heap) (locs : List Loc) (ls : Array Slot), it2 (f_X5_load_B26 x1) fu26 x4_5 σ_6 = some q → HP G kR nR a σ_6 H → va_S (AW nR a) s.heap H locs → lv_has ls 5 [(4, .int x4_5), (3, .ref (a (63 + 2 * x1.toNatClampNeg))), (0, .ref (a 0))] → W p l e ({ frames := 2, cells := 0, slots := 0, locals := 42 } : Room) s m ([.ref (a 0), .int x1] : List Value).toArray below meth c H locs 0 0 (MQ below (QI G kR nR a q) ([.ref (a 0), .int x1] : List Value).toArray s 0 0 (AW nR a)) (F0 m 26 ls []) := by
      intro fu26
      induction fu26 with
      | zero =>
        intro x4_5 σ_6 H locs ls h
        cases h
      | succ fu26 ih26 =>
        intro x4_5 σ_6 H locs ls h hP hS hl
        replace h : (f_X5_load_B26 x1) (it2 (f_X5_load_B26 x1) fu26) x4_5 σ_6 = some q := h
        generalize it2 (f_X5_load_B26 x1) fu26 = rec26 at h ih26
        unfold f_X5_load_B26 at h
        refine lv_iload hx hb dX5_load_26 (lv_at hl 0 rfl) ?_
        refine lv_aload_n hx hb dX5_load_28 rfl (lv_at hl 1 rfl) ?_
        refine gf_X5_261 (o := (63 + 2 * x1.toNatClampNeg)) C0 hb hP (isS_k (isS_at (vp_lt hi_4))) dX5_load_29 ?_
        refine lv_icmp_ge (tgt := 83) hx hb dX5_load_32 (by decide) (fun (c_7 : (σ_6 (63 + 2 * x1.toNatClampNeg) 2) ≤ x4_5) => ?_) (fun (c_7 : ¬ (σ_6 (63 + 2 * x1.toNatClampNeg) 2) ≤ x4_5) => ?_)
        · rw [if_pos c_7] at h
          refine lv_iload hx hb dX5_load_83 (lv_at hl 0 rfl) ?_
          exact m_ri hx hb hr hlk hP hS (Option.some.inj h) dX5_load_85
        · rw [if_neg c_7] at h
          refine lv_iload hx hb dX5_load_35 (lv_at hl 0 rfl) ?_
          refine lv_bipush (v := 8) hx hb dX5_load_37 (by decide) ?_
          refine lv_icmp_ge (tgt := 83) hx hb dX5_load_39 (by decide) (fun (c_8 : 8 ≤ x4_5) => ?_) (fun (c_8 : ¬ 8 ≤ x4_5) => ?_)
          · rw [if_pos c_8] at h
            refine lv_iload hx hb dX5_load_83 (lv_at hl 0 rfl) ?_
            exact m_ri hx hb hr hlk hP hS (Option.some.inj h) dX5_load_85
          · rw [if_neg c_8] at h
            refine lv_aload_n hx hb dX5_load_42 rfl (lv_at hl 1 rfl) ?_
            refine gf_X5_275 (o := (63 + 2 * x1.toNatClampNeg)) (o2 := ((63 + 2 * x1.toNatClampNeg) + 1)) C0 hb hP (isS_k (isS_at (vp_lt hi_4))) rfl dX5_load_43 ?_
            refine lv_iload hx hb dX5_load_46 (lv_at hl 0 rfl) ?_
            obtain ⟨hi_9, h⟩ := chk_s h
            refine m_iald (o := ((63 + 2 * x1.toNatClampNeg) + 1)) (N := 40) (i := x4_5) (j := x4_5.toNatClampNeg) C0 hb hP (isS_1 (isS_at (vp_lt hi_4))) (by decide) hi_9 rfl dX5_load_48 ?_
            refine lv_bipush (v := 99) hx hb dX5_load_49 (by decide) ?_
            refine m_pSi (As := [.int (σ_6 ((63 + 2 * x1.toNatClampNeg) + 1) x4_5.toNatClampNeg), .int 99]) (rest := []) C0.z hb hml hl.1 wm_X5_50 md_X5_outside (k_X5_outside l (σ_6 ((63 + 2 * x1.toNatClampNeg) + 1) x4_5.toNatClampNeg) 99) rfl rfl ⟨(Nat.le_of_ble_eq_true rfl), (Nat.le_of_ble_eq_true rfl)⟩ rfl rfl (Nat.le_of_ble_eq_true rfl) dX5_load_51 ?_
            refine lv_if_ne (tgt := 83) hx hb dX5_load_54 (by decide) (fun (c_10 : ¬ (f_X5_outside (σ_6 ((63 + 2 * x1.toNatClampNeg) + 1) x4_5.toNatClampNeg) 99) = 0) => ?_) (fun (c_10 : (f_X5_outside (σ_6 ((63 + 2 * x1.toNatClampNeg) + 1) x4_5.toNatClampNeg) 99) = 0) => ?_)
            · rw [if_neg c_10] at h
              refine lv_iload hx hb dX5_load_83 (lv_at hl 0 rfl) ?_
              exact m_ri hx hb hr hlk hP hS (Option.some.inj h) dX5_load_85
            · rw [if_pos c_10] at h
              refine lv_aload_n hx hb dX5_load_57 rfl (lv_at hl 2 rfl) ?_
              refine gf_X5_12 (o := 0) (o2 := 1) C0 hb hP (rfl : kR 0 = 5) rfl dX5_load_58 ?_
              refine gf_X5_59 (o := 1) (o2 := 2) C0 hb hP (isV_k v1) rfl dX5_load_61 ?_
              refine gf_X5_68 (o := 2) (o2 := 5) C0 hb hP (isW_k (isV_w v1)) rfl dX5_load_64 ?_
              refine lv_iload hx hb dX5_load_67 (lv_at hl 0 rfl) ?_
              refine lv_aload_n hx hb dX5_load_69 rfl (lv_at hl 1 rfl) ?_
              refine gf_X5_275 (o := (63 + 2 * x1.toNatClampNeg)) (o2 := ((63 + 2 * x1.toNatClampNeg) + 1)) C0 hb hP (isS_k (isS_at (vp_lt hi_4))) rfl dX5_load_70 ?_
              refine lv_iload hx hb dX5_load_73 (lv_at hl 0 rfl) ?_
              obtain ⟨hi_11, h⟩ := chk_s h
              refine m_iald (o := ((63 + 2 * x1.toNatClampNeg) + 1)) (N := 40) (i := x4_5) (j := x4_5.toNatClampNeg) C0 hb hP (isS_1 (isS_at (vp_lt hi_4))) (by decide) hi_11 rfl dX5_load_75 ?_
              obtain ⟨hi_12, h⟩ := chk_s h
              refine m_iast (o := 5) (N := 8) (i := x4_5) (j := x4_5.toNatClampNeg) C0 hb hP hS (isW_3 (isV_w v1)) (by decide) hi_12 rfl dX5_load_76 (fun H locs hP hS => ?_)
              refine lv_iinc (v := x4_5 + 1) (lv' := [(4, .int (x4_5 + 1)), (3, .ref (a (63 + 2 * x1.toNatClampNeg))), (0, .ref (a 0))]) hx hb dX5_load_77 hl (k := 0) rfl rfl (by decide) rfl (fun ls hl => ?_)
              refine lv_goto (tgt := 26) hx hb dX5_load_80 (by decide) ?_
              exact ih26 (x4_5 + 1) (mst σ_6 5 x4_5.toNatClampNeg (σ_6 ((63 + 2 * x1.toNatClampNeg) + 1) x4_5.toNatClampNeg)) _ _ _ h hP hS (lv_sub hl [0, 1, 2] rfl)
    exact L_13 FU 0 σ _ _ _ h hP hS (lv_sub hl [0, 1, 3] rfl)
  · rw [if_neg c_3] at h
    refine lv_aload_n hx hb dX5_load_10 rfl (lv_at hl 1 rfl) ?_
    refine lv_iload_n hx hb dX5_load_11 rfl (lv_at hl 0 rfl) ?_
    obtain ⟨q_14, hq_15, h⟩ := bd_s h
    refine m_cVi (As := [.int q_1]) (rest := []) (o := 0) (ci := 5) C0 hb hml hl.1 wm_X5_55 md_X5_finding (k_X5_finding l G a σ hj q_1 q_14 hq_15) rfl rfl ⟨(Nat.le_of_ble_eq_true rfl), (Nat.le_of_ble_eq_true rfl)⟩ hP hS (rfl : kR 0 = 5) (by decide) rfl rfl rfl (Nat.le_of_ble_eq_true rfl) dX5_load_12 (fun H locs hP hS => ?_)
    exact m_ri hx hb hr hlk hP hS (Option.some.inj h) dX5_load_15
def f_X5_judge_B26 (x1 : Int32) (σ : Mem) (rec26 : Int32 → Option (Int32 × Mem)) (x4_5 : Int32) : Option (Int32 × Mem) := (if (σ (63 + 2 * x1.toNatClampNeg) 2) ≤ x4_5 then some (0, σ) else (if 12 ≤ x4_5 then some (1 + x4_5, σ) else (chk x4_5 40 (chk x4_5 12 (if (σ ((63 + 2 * x1.toNatClampNeg) + 1) x4_5.toNatClampNeg) = (σ 3 x4_5.toNatClampNeg) then (rec26 (x4_5 + 1)) else some (1 + x4_5, σ))))))
def f_X5_judge (x1 : Int32) (σ : Mem) : Option (Int32 × Mem) := ((f_X5_sheetTrouble x1 σ).bind fun q_1 => (if q_1 = 0 then (chk x1 4 (it1 (f_X5_judge_B26 x1 σ) FU 0)) else ((f_X5_finding q_1 σ).bind fun q_12 => some (q_12.1, q_12.2))))
set_option maxHeartbeats 4000000 in
set_option maxRecDepth 100000 in
theorem k_X5_judge (l : Launch) (G : GG) (a : Nat → Nat) (σ : Mem) (hj : INJ nR a) (x1 : Int32) (q : Int32 × Mem) (h : f_X5_judge x1 σ = some q) : Met l yX5_judge (Cond.code yX5_judge cX5_judge 5 (some .int) :: TB) ({ frames := 2, cells := 0, slots := 0, locals := 42 } : Room) (PA G kR nR a σ [.ref (a 0), .int x1]) (QI G kR nR a q) 0 0 (AW nR a) := by
  refine M_ofW (by decide) hj kR_lt (Nat.le_of_ble_eq_true rfl) (fun p e s m below meth c ls C0 hb hml hr hlk hP hS hl => ?_)
  have C0 : CT p s _ m RX5 G kR nR a := C0
  have hx := C0.1
  have hts := C0.2.1
  have hown := C0.2.2.1
  have hl : lv_has ls 5 [(0, .ref (a 0)), (1, .int x1)] := hl
  unfold f_X5_judge at h
  refine lv_aload_n hx hb dX5_judge_0 rfl (lv_at hl 0 rfl) ?_
  refine lv_iload_n hx hb dX5_judge_1 rfl (lv_at hl 1 rfl) ?_
  obtain ⟨q_1, hq_2, h⟩ := bd_s h
  refine m_rVi (As := [.int x1]) (rest := []) (o := 0) (ci := 5) C0 hb hml hl.1 wm_X5_209 md_X5_sheetTrouble (k_X5_sheetTrouble l G a σ hj x1 q_1 hq_2) rfl rfl ⟨(Nat.le_of_ble_eq_true rfl), (Nat.le_of_ble_eq_true rfl)⟩ hP hS (rfl : kR 0 = 5) (by decide) rfl rfl rfl (Nat.le_of_ble_eq_true rfl) dX5_judge_2 ?_
  refine lv_istore_n (lv' := [(2, .int q_1), (0, .ref (a 0)), (1, .int x1)]) hx hb dX5_judge_5 rfl hl (by decide) rfl (fun ls hl => ?_)
  refine lv_iload_n hx hb dX5_judge_6 rfl (lv_at hl 0 rfl) ?_
  refine lv_if_eq (tgt := 16) hx hb dX5_judge_7 (by decide) (fun (c_3 : q_1 = 0) => ?_) (fun (c_3 : ¬ q_1 = 0) => ?_)
  · rw [if_pos c_3] at h
    refine lv_aload_n hx hb dX5_judge_16 rfl (lv_at hl 1 rfl) ?_
    refine gf_X5_32 (o := 0) (o2 := 62) C0 hb hP (rfl : kR 0 = 5) rfl dX5_judge_17 ?_
    refine lv_iload_n hx hb dX5_judge_20 rfl (lv_at hl 2 rfl) ?_
    obtain ⟨hi_4, h⟩ := chk_s h
    refine m_aldS (o := 62) (i := x1) (o2 := (63 + 2 * x1.toNatClampNeg)) C0 hb hP (rfl : kR 62 = 51) hi_4 rfl dX5_judge_21 ?_
    refine lv_astore_n (lv' := [(3, .ref (a (63 + 2 * x1.toNatClampNeg))), (2, .int q_1), (0, .ref (a 0)), (1, .int x1)]) hx hb dX5_judge_22 rfl hl (by decide) rfl (fun ls hl => ?_)
    refine lv_iconst (v := 0) hx hb dX5_judge_23 (by decide) ?_
    refine lv_istore (lv' := [(4, .int 0), (3, .ref (a (63 + 2 * x1.toNatClampNeg))), (2, .int q_1), (0, .ref (a 0)), (1, .int x1)]) hx hb dX5_judge_24 hl (by decide) rfl (fun ls hl => ?_)
    have L_11 : ∀ (fu26 : Nat) (x4_5 : Int32) (H : Heap) (locs : List Loc) (ls : Array Slot), it1 (f_X5_judge_B26 x1 σ) fu26 x4_5 = some q → HP G kR nR a σ H → va_S (AW nR a) s.heap H locs → lv_has ls 5 [(4, .int x4_5), (3, .ref (a (63 + 2 * x1.toNatClampNeg))), (0, .ref (a 0))] → W p l e ({ frames := 2, cells := 0, slots := 0, locals := 42 } : Room) s m ([.ref (a 0), .int x1] : List Value).toArray below meth c H locs 0 0 (MQ below (QI G kR nR a q) ([.ref (a 0), .int x1] : List Value).toArray s 0 0 (AW nR a)) (F0 m 26 ls []) := by
      intro fu26
      induction fu26 with
      | zero =>
        intro x4_5 H locs ls h
        cases h
      | succ fu26 ih26 =>
        intro x4_5 H locs ls h hP hS hl
        replace h : (f_X5_judge_B26 x1 σ) (it1 (f_X5_judge_B26 x1 σ) fu26) x4_5 = some q := h
        generalize it1 (f_X5_judge_B26 x1 σ) fu26 = rec26 at h ih26
        unfold f_X5_judge_B26 at h
        refine lv_iload hx hb dX5_judge_26 (lv_at hl 0 rfl) ?_
        refine lv_aload_n hx hb dX5_judge_28 rfl (lv_at hl 1 rfl) ?_
        refine gf_X5_261 (o := (63 + 2 * x1.toNatClampNeg)) C0 hb hP (isS_k (isS_at (vp_lt hi_4))) dX5_judge_29 ?_
        refine lv_icmp_ge (tgt := 76) hx hb dX5_judge_32 (by decide) (fun (c_6 : (σ (63 + 2 * x1.toNatClampNeg) 2) ≤ x4_5) => ?_) (fun (c_6 : ¬ (σ (63 + 2 * x1.toNatClampNeg) 2) ≤ x4_5) => ?_)
        · rw [if_pos c_6] at h
          refine lv_iconst (v := 0) hx hb dX5_judge_76 (by decide) ?_
          exact m_ri hx hb hr hlk hP hS (Option.some.inj h) dX5_judge_77
        · rw [if_neg c_6] at h
          refine lv_iload hx hb dX5_judge_35 (lv_at hl 0 rfl) ?_
          refine lv_bipush (v := 12) hx hb dX5_judge_37 (by decide) ?_
          refine lv_icmp_ge (tgt := 65) hx hb dX5_judge_39 (by decide) (fun (c_7 : 12 ≤ x4_5) => ?_) (fun (c_7 : ¬ 12 ≤ x4_5) => ?_)
          · rw [if_pos c_7] at h
            refine lv_iconst (v := 1) hx hb dX5_judge_65 (by decide) ?_
            refine lv_iload hx hb dX5_judge_66 (lv_at hl 0 rfl) ?_
            refine lv_iadd hx hb dX5_judge_68 ?_
            exact m_ri hx hb hr hlk hP hS (Option.some.inj h) dX5_judge_69
          · rw [if_neg c_7] at h
            refine lv_aload_n hx hb dX5_judge_42 rfl (lv_at hl 1 rfl) ?_
            refine gf_X5_275 (o := (63 + 2 * x1.toNatClampNeg)) (o2 := ((63 + 2 * x1.toNatClampNeg) + 1)) C0 hb hP (isS_k (isS_at (vp_lt hi_4))) rfl dX5_judge_43 ?_
            refine lv_iload hx hb dX5_judge_46 (lv_at hl 0 rfl) ?_
            obtain ⟨hi_8, h⟩ := chk_s h
            refine m_iald (o := ((63 + 2 * x1.toNatClampNeg) + 1)) (N := 40) (i := x4_5) (j := x4_5.toNatClampNeg) C0 hb hP (isS_1 (isS_at (vp_lt hi_4))) (by decide) hi_8 rfl dX5_judge_48 ?_
            refine lv_aload_n hx hb dX5_judge_49 rfl (lv_at hl 2 rfl) ?_
            refine gf_X5_12 (o := 0) (o2 := 1) C0 hb hP (rfl : kR 0 = 5) rfl dX5_judge_50 ?_
            refine gf_X5_59 (o := 1) (o2 := 2) C0 hb hP (isV_k v1) rfl dX5_judge_53 ?_
            refine gf_X5_63 (o := 2) (o2 := 3) C0 hb hP (isW_k (isV_w v1)) rfl dX5_judge_56 ?_
            refine lv_iload hx hb dX5_judge_59 (lv_at hl 0 rfl) ?_
            obtain ⟨hi_9, h⟩ := chk_s h
            refine m_iald (o := 3) (N := 12) (i := x4_5) (j := x4_5.toNatClampNeg) C0 hb hP (isW_1 (isV_w v1)) (by decide) hi_9 rfl dX5_judge_61 ?_
            refine lv_icmp_eq (tgt := 70) hx hb dX5_judge_62 (by decide) (fun (c_10 : (σ ((63 + 2 * x1.toNatClampNeg) + 1) x4_5.toNatClampNeg) = (σ 3 x4_5.toNatClampNeg)) => ?_) (fun (c_10 : ¬ (σ ((63 + 2 * x1.toNatClampNeg) + 1) x4_5.toNatClampNeg) = (σ 3 x4_5.toNatClampNeg)) => ?_)
            · rw [if_pos c_10] at h
              refine lv_iinc (v := x4_5 + 1) (lv' := [(4, .int (x4_5 + 1)), (3, .ref (a (63 + 2 * x1.toNatClampNeg))), (0, .ref (a 0))]) hx hb dX5_judge_70 hl (k := 0) rfl rfl (by decide) rfl (fun ls hl => ?_)
              refine lv_goto (tgt := 26) hx hb dX5_judge_73 (by decide) ?_
              exact ih26 (x4_5 + 1) _ _ _ h hP hS (lv_sub hl [0, 1, 2] rfl)
            · rw [if_neg c_10] at h
              refine lv_iconst (v := 1) hx hb dX5_judge_65 (by decide) ?_
              refine lv_iload hx hb dX5_judge_66 (lv_at hl 0 rfl) ?_
              refine lv_iadd hx hb dX5_judge_68 ?_
              exact m_ri hx hb hr hlk hP hS (Option.some.inj h) dX5_judge_69
    exact L_11 FU 0 _ _ _ h hP hS (lv_sub hl [0, 1, 3] rfl)
  · rw [if_neg c_3] at h
    refine lv_aload_n hx hb dX5_judge_10 rfl (lv_at hl 1 rfl) ?_
    refine lv_iload_n hx hb dX5_judge_11 rfl (lv_at hl 0 rfl) ?_
    obtain ⟨q_12, hq_13, h⟩ := bd_s h
    refine m_cVi (As := [.int q_1]) (rest := []) (o := 0) (ci := 5) C0 hb hml hl.1 wm_X5_55 md_X5_finding (k_X5_finding l G a σ hj q_1 q_12 hq_13) rfl rfl ⟨(Nat.le_of_ble_eq_true rfl), (Nat.le_of_ble_eq_true rfl)⟩ hP hS (rfl : kR 0 = 5) (by decide) rfl rfl rfl (Nat.le_of_ble_eq_true rfl) dX5_judge_12 (fun H locs hP hS => ?_)
    exact m_ri hx hb hr hlk hP hS (Option.some.inj h) dX5_judge_15
def f_X5_image (σ : Mem) : Option (Int32 × Mem) := ((f_X2_become 16 1 σ).bind fun q_1 => some (1, mst q_1 0 8 1))
set_option maxHeartbeats 4000000 in
set_option maxRecDepth 100000 in
theorem k_X5_image (l : Launch) (G : GG) (a : Nat → Nat) (σ : Mem) (hj : INJ nR a)  (q : Int32 × Mem) (h : f_X5_image σ = some q) : Met l yX5_image (Cond.code yX5_image cX5_image 1 (some .int) :: TB) ({ frames := 3, cells := 0, slots := 0, locals := 69 } : Room) (PA G kR nR a σ [.ref (a 0)]) (QI G kR nR a q) 0 0 (AW nR a) := by
  refine M_ofW (by decide) hj kR_lt (Nat.le_of_ble_eq_true rfl) (fun p e s m below meth c ls C0 hb hml hr hlk hP hS hl => ?_)
  have C0 : CT p s _ m RX5 G kR nR a := C0
  have hx := C0.1
  have hts := C0.2.1
  have hown := C0.2.2.1
  have hl : lv_has ls 1 [(0, .ref (a 0))] := hl
  unfold f_X5_image at h
  refine lv_aload_n hx hb dX5_image_0 rfl (lv_at hl 0 rfl) ?_
  refine gf_X5_16 (o := 0) (o2 := 16) C0 hb hP (rfl : kR 0 = 5) rfl dX5_image_1 ?_
  refine lv_aload_n hx hb dX5_image_4 rfl (lv_at hl 0 rfl) ?_
  refine gf_X5_12 (o := 0) (o2 := 1) C0 hb hP (rfl : kR 0 = 5) rfl dX5_image_5 ?_
  obtain ⟨q_1, hq_2, h⟩ := bd_s h
  refine m_cVv (As := [.ref (a 1)]) (rest := []) (o := 16) (ci := 2) C0 hb hml hl.1 wm_X5_159 md_X2_become (k_X2_become l G a σ hj 16 v16 1 v1 q_1 hq_2) rfl rfl ⟨(Nat.le_of_ble_eq_true rfl), (Nat.le_of_ble_eq_true rfl)⟩ hP hS (isV_k v16) (by decide) rfl rfl rfl (Nat.le_of_ble_eq_true rfl) dX5_image_8 (fun H locs hP hS => ?_)
  refine lv_aload_n hx hb dX5_image_11 rfl (lv_at hl 0 rfl) ?_
  refine lv_iconst (v := 1) hx hb dX5_image_12 (by decide) ?_
  refine pf_X5_46 (o := 0) C0 hb hP hS (rfl : kR 0 = 5) (Or.inr rfl) dX5_image_13 (fun H locs hP hS => ?_)
  refine lv_iconst (v := 1) hx hb dX5_image_16 (by decide) ?_
  exact m_ri hx hb hr hlk hP hS (Option.some.inj h) dX5_image_17
def f_X5_undo (σ : Mem) : Option (Int32 × Mem) := (if (σ 0 8) = 0 then ((f_X5_finding (-1000004) σ).bind fun q_4 => some (q_4.1, q_4.2)) else ((f_X2_become 1 16 σ).bind fun q_2 => some (q_2 2 4, q_2)))
set_option maxHeartbeats 4000000 in
set_option maxRecDepth 100000 in
theorem k_X5_undo (l : Launch) (G : GG) (a : Nat → Nat) (σ : Mem) (hj : INJ nR a)  (q : Int32 × Mem) (h : f_X5_undo σ = some q) : Met l yX5_undo (Cond.code yX5_undo cX5_undo 1 (some .int) :: TB) ({ frames := 3, cells := 0, slots := 0, locals := 69 } : Room) (PA G kR nR a σ [.ref (a 0)]) (QI G kR nR a q) 0 0 (AW nR a) := by
  refine M_ofW (by decide) hj kR_lt (Nat.le_of_ble_eq_true rfl) (fun p e s m below meth c ls C0 hb hml hr hlk hP hS hl => ?_)
  have C0 : CT p s _ m RX5 G kR nR a := C0
  have hx := C0.1
  have hts := C0.2.1
  have hown := C0.2.2.1
  have hl : lv_has ls 1 [(0, .ref (a 0))] := hl
  unfold f_X5_undo at h
  refine lv_aload_n hx hb dX5_undo_0 rfl (lv_at hl 0 rfl) ?_
  refine gf_X5_46 (o := 0) C0 hb hP (rfl : kR 0 = 5) dX5_undo_1 ?_
  refine lv_if_ne (tgt := 14) hx hb dX5_undo_4 (by decide) (fun (c_1 : ¬ (σ 0 8) = 0) => ?_) (fun (c_1 : (σ 0 8) = 0) => ?_)
  · rw [if_neg c_1] at h
    refine lv_aload_n hx hb dX5_undo_14 rfl (lv_at hl 0 rfl) ?_
    refine gf_X5_12 (o := 0) (o2 := 1) C0 hb hP (rfl : kR 0 = 5) rfl dX5_undo_15 ?_
    refine lv_aload_n hx hb dX5_undo_18 rfl (lv_at hl 0 rfl) ?_
    refine gf_X5_16 (o := 0) (o2 := 16) C0 hb hP (rfl : kR 0 = 5) rfl dX5_undo_19 ?_
    obtain ⟨q_2, hq_3, h⟩ := bd_s h
    refine m_cVv (As := [.ref (a 16)]) (rest := []) (o := 1) (ci := 2) C0 hb hml hl.1 wm_X5_159 md_X2_become (k_X2_become l G a σ hj 1 v1 16 v16 q_2 hq_3) rfl rfl ⟨(Nat.le_of_ble_eq_true rfl), (Nat.le_of_ble_eq_true rfl)⟩ hP hS (isV_k v1) (by decide) rfl rfl rfl (Nat.le_of_ble_eq_true rfl) dX5_undo_22 (fun H locs hP hS => ?_)
    refine lv_aload_n hx hb dX5_undo_25 rfl (lv_at hl 0 rfl) ?_
    refine gf_X5_12 (o := 0) (o2 := 1) C0 hb hP (rfl : kR 0 = 5) rfl dX5_undo_26 ?_
    refine gf_X5_59 (o := 1) (o2 := 2) C0 hb hP (isV_k v1) rfl dX5_undo_29 ?_
    refine gf_X5_129 (o := 2) C0 hb hP (isW_k (isV_w v1)) dX5_undo_32 ?_
    exact m_ri hx hb hr hlk hP hS (Option.some.inj h) dX5_undo_35
  · rw [if_pos c_1] at h
    refine lv_aload_n hx hb dX5_undo_7 rfl (lv_at hl 0 rfl) ?_
    refine lv_ldc hx hb hown (hts _ wk_X5_166) dX5_undo_8 ?_
    obtain ⟨q_4, hq_5, h⟩ := bd_s h
    refine m_cVi (As := [.int (-1000004)]) (rest := []) (o := 0) (ci := 5) C0 hb hml hl.1 wm_X5_55 md_X5_finding (k_X5_finding l G a σ hj (-1000004) q_4 hq_5) rfl rfl ⟨(Nat.le_of_ble_eq_true rfl), (Nat.le_of_ble_eq_true rfl)⟩ hP hS (rfl : kR 0 = 5) (by decide) rfl rfl rfl (Nat.le_of_ble_eq_true rfl) dX5_undo_10 (fun H locs hP hS => ?_)
    exact m_ri hx hb hr hlk hP hS (Option.some.inj h) dX5_undo_13
def f_X5_tear (σ : Mem) : Int32 × Mem := (if (σ 0 8) = 0 then (0, mst σ 0 8 0) else (1, mst σ 0 8 0))
set_option maxHeartbeats 4000000 in
set_option maxRecDepth 100000 in
theorem k_X5_tear (l : Launch) (G : GG) (a : Nat → Nat) (σ : Mem) (hj : INJ nR a)  : Met l yX5_tear (Cond.code yX5_tear cX5_tear 2 (some .int) :: TB) ({ frames := 0, cells := 0, slots := 0, locals := 0 } : Room) (PA G kR nR a σ [.ref (a 0)]) (QI G kR nR a (f_X5_tear σ)) 0 0 (AW nR a) := by
  generalize h : f_X5_tear σ = q
  refine M_ofW (by decide) hj kR_lt (Nat.le_of_ble_eq_true rfl) (fun p e s m below meth c ls C0 hb hml hr hlk hP hS hl => ?_)
  have C0 : CT p s _ m RX5 G kR nR a := C0
  have hx := C0.1
  have hts := C0.2.1
  have hown := C0.2.2.1
  have hl : lv_has ls 2 [(0, .ref (a 0))] := hl
  unfold f_X5_tear at h
  refine lv_aload_n hx hb dX5_tear_0 rfl (lv_at hl 0 rfl) ?_
  refine gf_X5_46 (o := 0) C0 hb hP (rfl : kR 0 = 5) dX5_tear_1 ?_
  refine lv_if_eq (tgt := 11) hx hb dX5_tear_4 (by decide) (fun (c_1 : (σ 0 8) = 0) => ?_) (fun (c_1 : ¬ (σ 0 8) = 0) => ?_)
  · rw [if_pos c_1] at h
    refine lv_iconst (v := 0) hx hb dX5_tear_11 (by decide) ?_
    refine lv_istore_n (lv' := [(1, .int 0), (0, .ref (a 0))]) hx hb dX5_tear_12 rfl hl (by decide) rfl (fun ls hl => ?_)
    refine lv_aload_n hx hb dX5_tear_13 rfl (lv_at hl 1 rfl) ?_
    refine lv_iconst (v := 0) hx hb dX5_tear_14 (by decide) ?_
    refine pf_X5_46 (o := 0) C0 hb hP hS (rfl : kR 0 = 5) (Or.inl rfl) dX5_tear_15 (fun H locs hP hS => ?_)
    refine lv_iload_n hx hb dX5_tear_18 rfl (lv_at hl 0 rfl) ?_
    exact m_ri hx hb hr hlk hP hS h dX5_tear_19
  · rw [if_neg c_1] at h
    refine lv_iconst (v := 1) hx hb dX5_tear_7 (by decide) ?_
    refine lv_goto (tgt := 12) hx hb dX5_tear_8 (by decide) ?_
    refine lv_istore_n (lv' := [(1, .int 1), (0, .ref (a 0))]) hx hb dX5_tear_12 rfl hl (by decide) rfl (fun ls hl => ?_)
    refine lv_aload_n hx hb dX5_tear_13 rfl (lv_at hl 1 rfl) ?_
    refine lv_iconst (v := 0) hx hb dX5_tear_14 (by decide) ?_
    refine pf_X5_46 (o := 0) C0 hb hP hS (rfl : kR 0 = 5) (Or.inl rfl) dX5_tear_15 (fun H locs hP hS => ?_)
    refine lv_iload_n hx hb dX5_tear_18 rfl (lv_at hl 0 rfl) ?_
    exact m_ri hx hb hr hlk hP hS h dX5_tear_19
def f_X2_spotsHolding_J23 (x2_2 : Int32) (rec4 : Int32 → Int32 → Option (Int32)) (x1_5 : Int32) : Option (Int32) := (rec4 x1_5 (x2_2 + 1))
def f_X2_spotsHolding_B4 (b : Nat) (σ : Mem) (rec4 : Int32 → Int32 → Option (Int32)) (x1_1 : Int32) (x2_2 : Int32) : Option (Int32) := (if 10 ≤ x2_2 then some x1_1 else (chk x2_2 10 (f_X2_spotsHolding_J23 x2_2 rec4 (if (σ (b + 6) x2_2.toNatClampNeg) = (-1) then x1_1 else x1_1 + 1))))
def f_X2_spotsHolding (b : Nat) (σ : Mem) : Option (Int32) := (it2 (f_X2_spotsHolding_B4 b σ) FU 0 0)
set_option maxHeartbeats 4000000 in
set_option maxRecDepth 100000 in
theorem k_X2_spotsHolding (l : Launch) (G : GG) (a : Nat → Nat) (σ : Mem) (hj : INJ nR a) (b : Nat) (hb0 : isV b) (q : Int32) (h : f_X2_spotsHolding b σ = some q) : Met l yX2_spotsHolding (Cond.code yX2_spotsHolding cX2_spotsHolding 3 (some .int) :: TB) ({ frames := 0, cells := 0, slots := 0, locals := 0 } : Room) (PA G kR nR a σ [.ref (a b)]) (SI q) 0 0 NF := by
  refine M_ofW (by decide) hj kR_lt (Nat.le_of_ble_eq_true rfl) (fun p e s m below meth c ls C0 hb hml hr hlk hP hS hl => ?_)
  have C0 : CT p s _ m RX2 G kR nR a := C0
  have hx := C0.1
  have hts := C0.2.1
  have hown := C0.2.2.1
  have hl : lv_has ls 3 [(0, .ref (a b))] := hl
  unfold f_X2_spotsHolding at h
  refine lv_iconst (v := 0) hx hb dX2_spotsHolding_0 (by decide) ?_
  refine lv_istore_n (lv' := [(1, .int 0), (0, .ref (a b))]) hx hb dX2_spotsHolding_1 rfl hl (by decide) rfl (fun ls hl => ?_)
  refine lv_iconst (v := 0) hx hb dX2_spotsHolding_2 (by decide) ?_
  refine lv_istore_n (lv' := [(2, .int 0), (1, .int 0), (0, .ref (a b))]) hx hb dX2_spotsHolding_3 rfl hl (by decide) rfl (fun ls hl => ?_)
  have L_8 : ∀ (fu4 : Nat) (x1_1 : Int32) (x2_2 : Int32) (ls : Array Slot), it2 (f_X2_spotsHolding_B4 b σ) fu4 x1_1 x2_2 = some q → lv_has ls 3 [(2, .int x2_2), (1, .int x1_1), (0, .ref (a b))] → W p l e ({ frames := 0, cells := 0, slots := 0, locals := 0 } : Room) s m ([.ref (a b)] : List Value).toArray below meth c s.heap [] 0 0 (MQ below (SI q) ([.ref (a b)] : List Value).toArray s 0 0 NF) (F0 m 4 ls []) := by
    intro fu4
    induction fu4 with
    | zero =>
      intro x1_1 x2_2 ls h
      cases h
    | succ fu4 ih4 =>
      intro x1_1 x2_2 ls h hl
      replace h : (f_X2_spotsHolding_B4 b σ) (it2 (f_X2_spotsHolding_B4 b σ) fu4) x1_1 x2_2 = some q := h
      generalize it2 (f_X2_spotsHolding_B4 b σ) fu4 = rec4 at h ih4
      unfold f_X2_spotsHolding_B4 at h
      refine lv_iload_n hx hb dX2_spotsHolding_4 rfl (lv_at hl 0 rfl) ?_
      refine lv_bipush (v := 10) hx hb dX2_spotsHolding_5 (by decide) ?_
      refine lv_icmp_ge (tgt := 29) hx hb dX2_spotsHolding_7 (by decide) (fun (c_3 : 10 ≤ x2_2) => ?_) (fun (c_3 : ¬ 10 ≤ x2_2) => ?_)
      · rw [if_pos c_3] at h
        refine lv_iload_n hx hb dX2_spotsHolding_29 rfl (lv_at hl 1 rfl) ?_
        exact m_si hx hb hr hlk (Option.some.inj h) dX2_spotsHolding_30
      · rw [if_neg c_3] at h
        refine lv_aload_n hx hb dX2_spotsHolding_10 rfl (lv_at hl 2 rfl) ?_
        refine gf_X2_24 (o := b) (o2 := (b + 6)) C0 hb hP (isV_k hb0) rfl dX2_spotsHolding_11 ?_
        refine lv_iload_n hx hb dX2_spotsHolding_14 rfl (lv_at hl 0 rfl) ?_
        obtain ⟨hi_4, h⟩ := chk_s h
        refine m_iald (o := (b + 6)) (N := 10) (i := x2_2) (j := x2_2.toNatClampNeg) C0 hb hP (isV_s hb0) (by decide) hi_4 rfl dX2_spotsHolding_15 ?_
        refine lv_iconst (v := (-1)) hx hb dX2_spotsHolding_16 (by decide) ?_
        have J_6 : ∀ (x1_5 : Int32) (ls : Array Slot), f_X2_spotsHolding_J23 x2_2 rec4 x1_5 = some q → lv_has ls 3 [(2, .int x2_2), (1, .int x1_5), (0, .ref (a b))] → W p l e ({ frames := 0, cells := 0, slots := 0, locals := 0 } : Room) s m ([.ref (a b)] : List Value).toArray below meth c s.heap [] 0 0 (MQ below (SI q) ([.ref (a b)] : List Value).toArray s 0 0 NF) (F0 m 23 ls []) := by
          intro x1_5 ls h hl
          unfold f_X2_spotsHolding_J23 at h
          refine lv_iinc (v := x2_2 + 1) (lv' := [(2, .int (x2_2 + 1)), (1, .int x1_5), (0, .ref (a b))]) hx hb dX2_spotsHolding_23 hl (k := 0) rfl rfl (by decide) rfl (fun ls hl => ?_)
          refine lv_goto (tgt := 4) hx hb dX2_spotsHolding_26 (by decide) ?_
          exact ih4 x1_5 (x2_2 + 1) _ h (lv_sub hl [0, 1, 2] rfl)
        refine lv_icmp_eq (tgt := 23) hx hb dX2_spotsHolding_17 (by decide) (fun (c_7 : (σ (b + 6) x2_2.toNatClampNeg) = (-1)) => ?_) (fun (c_7 : ¬ (σ (b + 6) x2_2.toNatClampNeg) = (-1)) => ?_)
        · rw [if_pos c_7] at h
          exact J_6 x1_1 _ h (lv_sub hl [0, 1, 2] rfl)
        · rw [if_neg c_7] at h
          refine lv_iinc (v := x1_1 + 1) (lv' := [(1, .int (x1_1 + 1)), (2, .int x2_2), (0, .ref (a b))]) hx hb dX2_spotsHolding_20 hl (k := 1) rfl rfl (by decide) rfl (fun ls hl => ?_)
          exact J_6 (x1_1 + 1) _ h (lv_sub hl [1, 0, 2] rfl)
  exact L_8 FU 0 0 _ h (lv_sub hl [0, 1, 2] rfl)
def f_X5_count (x1 : Int32) (σ : Mem) : Option (Int32 × Mem) := (if x1 = 0 then some (σ 2 4, σ) else (if x1 = 1 then some (σ 1 3, σ) else (if x1 = 2 then ((f_X2_knowing 1 σ).bind fun q_4 => some (f_J6_bitCount_0f7a4 q_4, σ)) else (if x1 = 3 then ((f_X4_levelsTogether 2 σ).bind fun q_7 => some (q_7, σ)) else (if x1 = 4 then ((f_X2_beliefsTogether 1 σ).bind fun q_10 => some (q_10, σ)) else (if x1 = 5 then some (σ 71 1, σ) else (if x1 = 6 then some (σ 1 4, σ) else (if x1 = 7 then ((f_X2_spotsHolding 1 σ).bind fun q_15 => some (q_15, σ)) else ((f_X5_finding (-1000001) σ).bind fun q_17 => some (q_17.1, q_17.2))))))))))
set_option maxHeartbeats 4000000 in
set_option maxRecDepth 100000 in
theorem k_X5_count (l : Launch) (G : GG) (a : Nat → Nat) (σ : Mem) (hj : INJ nR a) (x1 : Int32) (q : Int32 × Mem) (h : f_X5_count x1 σ = some q) : Met l yX5_count (Cond.code yX5_count cX5_count 2 (some .int) :: TB) ({ frames := 2, cells := 0, slots := 0, locals := 42 } : Room) (PA G kR nR a σ [.ref (a 0), .int x1]) (QI G kR nR a q) 0 0 (AW nR a) := by
  refine M_ofW (by decide) hj kR_lt (Nat.le_of_ble_eq_true rfl) (fun p e s m below meth c ls C0 hb hml hr hlk hP hS hl => ?_)
  have C0 : CT p s _ m RX5 G kR nR a := C0
  have hx := C0.1
  have hts := C0.2.1
  have hown := C0.2.2.1
  have hl : lv_has ls 2 [(0, .ref (a 0)), (1, .int x1)] := hl
  unfold f_X5_count at h
  refine lv_iload_n hx hb dX5_count_0 rfl (lv_at hl 1 rfl) ?_
  by_cases c_1 : x1 = 0
  · rw [if_pos c_1] at h
    refine lv_tableIn (off := 47) (tgt := 48) hx hb dX5_count_1 (by rw [c_1]; decide) (by rw [c_1]; decide) (by rw [c_1]; rfl) (by decide) ?_
    refine lv_aload_n hx hb dX5_count_48 rfl (lv_at hl 0 rfl) ?_
    refine gf_X5_12 (o := 0) (o2 := 1) C0 hb hP (rfl : kR 0 = 5) rfl dX5_count_49 ?_
    refine gf_X5_59 (o := 1) (o2 := 2) C0 hb hP (isV_k v1) rfl dX5_count_52 ?_
    refine gf_X5_129 (o := 2) C0 hb hP (isW_k (isV_w v1)) dX5_count_55 ?_
    exact m_ri hx hb hr hlk hP hS (Option.some.inj h) dX5_count_58
  · rw [if_neg c_1] at h
    by_cases c_2 : x1 = 1
    · rw [if_pos c_2] at h
      refine lv_tableIn (off := 58) (tgt := 59) hx hb dX5_count_1 (by rw [c_2]; decide) (by rw [c_2]; decide) (by rw [c_2]; rfl) (by decide) ?_
      refine lv_aload_n hx hb dX5_count_59 rfl (lv_at hl 0 rfl) ?_
      refine gf_X5_12 (o := 0) (o2 := 1) C0 hb hP (rfl : kR 0 = 5) rfl dX5_count_60 ?_
      refine gf_X5_284 (o := 1) C0 hb hP (isV_k v1) dX5_count_63 ?_
      exact m_ri hx hb hr hlk hP hS (Option.some.inj h) dX5_count_66
    · rw [if_neg c_2] at h
      by_cases c_3 : x1 = 2
      · rw [if_pos c_3] at h
        refine lv_tableIn (off := 66) (tgt := 67) hx hb dX5_count_1 (by rw [c_3]; decide) (by rw [c_3]; decide) (by rw [c_3]; rfl) (by decide) ?_
        refine lv_aload_n hx hb dX5_count_67 rfl (lv_at hl 0 rfl) ?_
        refine gf_X5_12 (o := 0) (o2 := 1) C0 hb hP (rfl : kR 0 = 5) rfl dX5_count_68 ?_
        obtain ⟨q_4, hq_5, h⟩ := bd_s h
        refine m_rVi (As := []) (rest := []) (o := 1) (ci := 2) C0 hb hml hl.1 wm_X5_137 md_X2_knowing (k_X2_knowing l G a σ hj 1 v1 q_4 hq_5) rfl rfl ⟨(Nat.le_of_ble_eq_true rfl), (Nat.le_of_ble_eq_true rfl)⟩ hP hS (isV_k v1) (by decide) rfl rfl rfl (Nat.le_of_ble_eq_true rfl) dX5_count_71 ?_
        refine m_pSi (As := [.int q_4]) (rest := []) C0.z hb hml hl.1 wm_X5_183 md_J6_bitCount_0f7a4 (k_J6_bitCount_0f7a4 l q_4) rfl rfl ⟨(Nat.le_of_ble_eq_true rfl), (Nat.le_of_ble_eq_true rfl)⟩ rfl rfl (Nat.le_of_ble_eq_true rfl) dX5_count_74 ?_
        exact m_ri hx hb hr hlk hP hS (Option.some.inj h) dX5_count_77
      · rw [if_neg c_3] at h
        by_cases c_6 : x1 = 3
        · rw [if_pos c_6] at h
          refine lv_tableIn (off := 77) (tgt := 78) hx hb dX5_count_1 (by rw [c_6]; decide) (by rw [c_6]; decide) (by rw [c_6]; rfl) (by decide) ?_
          refine lv_aload_n hx hb dX5_count_78 rfl (lv_at hl 0 rfl) ?_
          refine gf_X5_12 (o := 0) (o2 := 1) C0 hb hP (rfl : kR 0 = 5) rfl dX5_count_79 ?_
          refine gf_X5_59 (o := 1) (o2 := 2) C0 hb hP (isV_k v1) rfl dX5_count_82 ?_
          obtain ⟨q_7, hq_8, h⟩ := bd_s h
          refine m_rVi (As := []) (rest := []) (o := 2) (ci := 4) C0 hb hml hl.1 wm_X5_140 md_X4_levelsTogether (k_X4_levelsTogether l G a σ hj 2 (isV_w v1) q_7 hq_8) rfl rfl ⟨(Nat.le_of_ble_eq_true rfl), (Nat.le_of_ble_eq_true rfl)⟩ hP hS (isW_k (isV_w v1)) (by decide) rfl rfl rfl (Nat.le_of_ble_eq_true rfl) dX5_count_85 ?_
          exact m_ri hx hb hr hlk hP hS (Option.some.inj h) dX5_count_88
        · rw [if_neg c_6] at h
          by_cases c_9 : x1 = 4
          · rw [if_pos c_9] at h
            refine lv_tableIn (off := 88) (tgt := 89) hx hb dX5_count_1 (by rw [c_9]; decide) (by rw [c_9]; decide) (by rw [c_9]; rfl) (by decide) ?_
            refine lv_aload_n hx hb dX5_count_89 rfl (lv_at hl 0 rfl) ?_
            refine gf_X5_12 (o := 0) (o2 := 1) C0 hb hP (rfl : kR 0 = 5) rfl dX5_count_90 ?_
            obtain ⟨q_10, hq_11, h⟩ := bd_s h
            refine m_rVi (As := []) (rest := []) (o := 1) (ci := 2) C0 hb hml hl.1 wm_X5_149 md_X2_beliefsTogether (k_X2_beliefsTogether l G a σ hj 1 v1 q_10 hq_11) rfl rfl ⟨(Nat.le_of_ble_eq_true rfl), (Nat.le_of_ble_eq_true rfl)⟩ hP hS (isV_k v1) (by decide) rfl rfl rfl (Nat.le_of_ble_eq_true rfl) dX5_count_93 ?_
            exact m_ri hx hb hr hlk hP hS (Option.some.inj h) dX5_count_96
          · rw [if_neg c_9] at h
            by_cases c_12 : x1 = 5
            · rw [if_pos c_12] at h
              refine lv_tableIn (off := 96) (tgt := 97) hx hb dX5_count_1 (by rw [c_12]; decide) (by rw [c_12]; decide) (by rw [c_12]; rfl) (by decide) ?_
              refine lv_aload_n hx hb dX5_count_97 rfl (lv_at hl 0 rfl) ?_
              refine gf_X5_39 (o := 0) (o2 := 71) C0 hb hP (rfl : kR 0 = 5) rfl dX5_count_98 ?_
              refine gf_X5_232 (o := 71) C0 hb hP (rfl : kR 71 = 0) dX5_count_101 ?_
              exact m_ri hx hb hr hlk hP hS (Option.some.inj h) dX5_count_104
            · rw [if_neg c_12] at h
              by_cases c_13 : x1 = 6
              · rw [if_pos c_13] at h
                refine lv_tableIn (off := 104) (tgt := 105) hx hb dX5_count_1 (by rw [c_13]; decide) (by rw [c_13]; decide) (by rw [c_13]; rfl) (by decide) ?_
                refine lv_aload_n hx hb dX5_count_105 rfl (lv_at hl 0 rfl) ?_
                refine gf_X5_12 (o := 0) (o2 := 1) C0 hb hP (rfl : kR 0 = 5) rfl dX5_count_106 ?_
                refine gf_X5_229 (o := 1) C0 hb hP (isV_k v1) dX5_count_109 ?_
                exact m_ri hx hb hr hlk hP hS (Option.some.inj h) dX5_count_112
              · rw [if_neg c_13] at h
                by_cases c_14 : x1 = 7
                · rw [if_pos c_14] at h
                  refine lv_tableIn (off := 112) (tgt := 113) hx hb dX5_count_1 (by rw [c_14]; decide) (by rw [c_14]; decide) (by rw [c_14]; rfl) (by decide) ?_
                  refine lv_aload_n hx hb dX5_count_113 rfl (lv_at hl 0 rfl) ?_
                  refine gf_X5_12 (o := 0) (o2 := 1) C0 hb hP (rfl : kR 0 = 5) rfl dX5_count_114 ?_
                  obtain ⟨q_15, hq_16, h⟩ := bd_s h
                  refine m_rVi (As := []) (rest := []) (o := 1) (ci := 2) C0 hb hml hl.1 wm_X5_287 md_X2_spotsHolding (k_X2_spotsHolding l G a σ hj 1 v1 q_15 hq_16) rfl rfl ⟨(Nat.le_of_ble_eq_true rfl), (Nat.le_of_ble_eq_true rfl)⟩ hP hS (isV_k v1) (by decide) rfl rfl rfl (Nat.le_of_ble_eq_true rfl) dX5_count_117 ?_
                  exact m_ri hx hb hr hlk hP hS (Option.some.inj h) dX5_count_120
                · rw [if_neg c_14] at h
                  refine lv_tableOut (tgt := 121) hx hb dX5_count_1 (by have t0 := lv_neT c_1 (a := 0) rfl; have t1 := lv_neT c_2 (a := 1) rfl; have t2 := lv_neT c_3 (a := 2) rfl; have t3 := lv_neT c_6 (a := 3) rfl; have t4 := lv_neT c_9 (a := 4) rfl; have t5 := lv_neT c_12 (a := 5) rfl; have t6 := lv_neT c_13 (a := 6) rfl; have t7 := lv_neT c_14 (a := 7) rfl; omega) (by decide) ?_
                  refine lv_aload_n hx hb dX5_count_121 rfl (lv_at hl 0 rfl) ?_
                  refine lv_ldc hx hb hown (hts _ wk_X5_54) dX5_count_122 ?_
                  obtain ⟨q_17, hq_18, h⟩ := bd_s h
                  refine m_cVi (As := [.int (-1000001)]) (rest := []) (o := 0) (ci := 5) C0 hb hml hl.1 wm_X5_55 md_X5_finding (k_X5_finding l G a σ hj (-1000001) q_17 hq_18) rfl rfl ⟨(Nat.le_of_ble_eq_true rfl), (Nat.le_of_ble_eq_true rfl)⟩ hP hS (rfl : kR 0 = 5) (by decide) rfl rfl rfl (Nat.le_of_ble_eq_true rfl) dX5_count_124 (fun H locs hP hS => ?_)
                  exact m_ri hx hb hr hlk hP hS (Option.some.inj h) dX5_count_127
def f_X5_status (x1 : Int32) (σ : Mem) : Option (Int32 × Mem) := (if x1 = (-1) then ((f_X5_together 73 7 σ).bind fun q_6 => some (q_6, σ)) else (if (f_X5_outside x1 6) = 0 then (chk x1 7 (some (σ 73 x1.toNatClampNeg, σ))) else ((f_X5_finding (-1000001) σ).bind fun q_4 => some (q_4.1, q_4.2))))
set_option maxHeartbeats 4000000 in
set_option maxRecDepth 100000 in
theorem k_X5_status (l : Launch) (G : GG) (a : Nat → Nat) (σ : Mem) (hj : INJ nR a) (x1 : Int32) (q : Int32 × Mem) (h : f_X5_status x1 σ = some q) : Met l yX5_status (Cond.code yX5_status cX5_status 2 (some .int) :: TB) ({ frames := 1, cells := 0, slots := 0, locals := 22 } : Room) (PA G kR nR a σ [.ref (a 0), .int x1]) (QI G kR nR a q) 0 0 (AW nR a) := by
  refine M_ofW (by decide) hj kR_lt (Nat.le_of_ble_eq_true rfl) (fun p e s m below meth c ls C0 hb hml hr hlk hP hS hl => ?_)
  have C0 : CT p s _ m RX5 G kR nR a := C0
  have hx := C0.1
  have hts := C0.2.1
  have hown := C0.2.2.1
  have hl : lv_has ls 2 [(0, .ref (a 0)), (1, .int x1)] := hl
  unfold f_X5_status at h
  refine lv_iload_n hx hb dX5_status_0 rfl (lv_at hl 1 rfl) ?_
  refine lv_iconst (v := (-1)) hx hb dX5_status_1 (by decide) ?_
  refine lv_icmp_ne (tgt := 13) hx hb dX5_status_2 (by decide) (fun (c_1 : ¬ x1 = (-1)) => ?_) (fun (c_1 : x1 = (-1)) => ?_)
  · rw [if_neg c_1] at h
    refine lv_iload_n hx hb dX5_status_13 rfl (lv_at hl 1 rfl) ?_
    refine lv_bipush (v := 6) hx hb dX5_status_14 (by decide) ?_
    refine m_pSi (As := [.int x1, .int 6]) (rest := []) C0.z hb hml hl.1 wm_X5_50 md_X5_outside (k_X5_outside l x1 6) rfl rfl ⟨(Nat.le_of_ble_eq_true rfl), (Nat.le_of_ble_eq_true rfl)⟩ rfl rfl (Nat.le_of_ble_eq_true rfl) dX5_status_16 ?_
    refine lv_if_eq (tgt := 29) hx hb dX5_status_19 (by decide) (fun (c_2 : (f_X5_outside x1 6) = 0) => ?_) (fun (c_2 : ¬ (f_X5_outside x1 6) = 0) => ?_)
    · rw [if_pos c_2] at h
      refine lv_aload_n hx hb dX5_status_29 rfl (lv_at hl 0 rfl) ?_
      refine gf_X5_43 (o := 0) (o2 := 73) C0 hb hP (rfl : kR 0 = 5) rfl dX5_status_30 ?_
      refine lv_iload_n hx hb dX5_status_33 rfl (lv_at hl 1 rfl) ?_
      obtain ⟨hi_3, h⟩ := chk_s h
      refine m_iald (o := 73) (N := 7) (i := x1) (j := x1.toNatClampNeg) C0 hb hP (rfl : kR 73 = 100 + 7) (by decide) hi_3 rfl dX5_status_34 ?_
      exact m_ri hx hb hr hlk hP hS (Option.some.inj h) dX5_status_35
    · rw [if_neg c_2] at h
      refine lv_aload_n hx hb dX5_status_22 rfl (lv_at hl 0 rfl) ?_
      refine lv_ldc hx hb hown (hts _ wk_X5_54) dX5_status_23 ?_
      obtain ⟨q_4, hq_5, h⟩ := bd_s h
      refine m_cVi (As := [.int (-1000001)]) (rest := []) (o := 0) (ci := 5) C0 hb hml hl.1 wm_X5_55 md_X5_finding (k_X5_finding l G a σ hj (-1000001) q_4 hq_5) rfl rfl ⟨(Nat.le_of_ble_eq_true rfl), (Nat.le_of_ble_eq_true rfl)⟩ hP hS (rfl : kR 0 = 5) (by decide) rfl rfl rfl (Nat.le_of_ble_eq_true rfl) dX5_status_25 (fun H locs hP hS => ?_)
      exact m_ri hx hb hr hlk hP hS (Option.some.inj h) dX5_status_28
  · rw [if_pos c_1] at h
    refine lv_aload_n hx hb dX5_status_5 rfl (lv_at hl 0 rfl) ?_
    refine gf_X5_43 (o := 0) (o2 := 73) C0 hb hP (rfl : kR 0 = 5) rfl dX5_status_6 ?_
    obtain ⟨q_6, hq_7, h⟩ := bd_s h
    refine m_rSi (As := [.ref (a 73)]) (rest := []) C0 hb hml hl.1 wm_X5_290 md_X5_together (k_X5_together l G a σ hj 73 7 (rfl : kR 73 = 100 + 7) (by decide) q_6 hq_7) rfl rfl ⟨(Nat.le_of_ble_eq_true rfl), (Nat.le_of_ble_eq_true rfl)⟩ hP hS rfl rfl (Nat.le_of_ble_eq_true rfl) dX5_status_9 ?_
    exact m_ri hx hb hr hlk hP hS (Option.some.inj h) dX5_status_12

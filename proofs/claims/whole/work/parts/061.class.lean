def f_X5_finding (x1 : Int32) (σ : Mem) : Option (Int32 × Mem) := (if ((-1000001) - x1) < 0 then some (x1, σ) else (if 7 ≤ ((-1000001) - x1) then some (x1, σ) else (chk ((-1000001) - x1) 7 (chk ((-1000001) - x1) 7 (some (x1, mst σ 73 (((-1000001) - x1).toNatClampNeg) ((σ 73 (((-1000001) - x1).toNatClampNeg)) + 1)))))))
set_option maxHeartbeats 4000000 in
set_option maxRecDepth 100000 in
theorem k_X5_finding (l : Launch) (G : GG) (a : Nat → Nat) (σ : Mem) (hj : INJ nR a) (x1 : Int32) (q : Int32 × Mem) (h : f_X5_finding x1 σ = some q) : Met l yX5_finding (Cond.code yX5_finding cX5_finding 3 (some .int) :: TB) ({ frames := 0, cells := 0, slots := 0, locals := 0 } : Room) (PA G kR nR a σ [.ref (a 0), .int x1]) (QI G kR nR a q) 0 0 (AW nR a) := by
  refine M_ofW (by decide) hj kR_lt (Nat.le_of_ble_eq_true rfl) (fun p e s m below meth c ls C0 hb hml hr hlk hP hS hl => ?_)
  have C0 : CT p s _ m RX5 G kR nR a := C0
  have hx := C0.1
  have hts := C0.2.1
  have hown := C0.2.2.1
  have hl : lv_has ls 3 [(0, .ref (a 0)), (1, .int x1)] := hl
  unfold f_X5_finding at h
  refine lv_ldc hx hb hown (hts _ wk_X5_54) dX5_finding_0 ?_
  refine lv_iload_n hx hb dX5_finding_2 rfl (lv_at hl 1 rfl) ?_
  refine lv_isub hx hb dX5_finding_3 ?_
  refine lv_istore_n (lv' := [(2, .int ((-1000001) - x1)), (0, .ref (a 0)), (1, .int x1)]) hx hb dX5_finding_4 rfl hl (by decide) rfl (fun ls hl => ?_)
  refine lv_iload_n hx hb dX5_finding_5 rfl (lv_at hl 0 rfl) ?_
  refine lv_if_lt (tgt := 25) hx hb dX5_finding_6 (by decide) (fun (c_1 : ((-1000001) - x1) < 0) => ?_) (fun (c_1 : ¬ ((-1000001) - x1) < 0) => ?_)
  · rw [if_pos c_1] at h
    refine lv_iload_n hx hb dX5_finding_25 rfl (lv_at hl 2 rfl) ?_
    exact m_ri hx hb hr hlk hP hS (Option.some.inj h) dX5_finding_26
  · rw [if_neg c_1] at h
    refine lv_iload_n hx hb dX5_finding_9 rfl (lv_at hl 0 rfl) ?_
    refine lv_bipush (v := 7) hx hb dX5_finding_10 (by decide) ?_
    refine lv_icmp_ge (tgt := 25) hx hb dX5_finding_12 (by decide) (fun (c_2 : 7 ≤ ((-1000001) - x1)) => ?_) (fun (c_2 : ¬ 7 ≤ ((-1000001) - x1)) => ?_)
    · rw [if_pos c_2] at h
      refine lv_iload_n hx hb dX5_finding_25 rfl (lv_at hl 2 rfl) ?_
      exact m_ri hx hb hr hlk hP hS (Option.some.inj h) dX5_finding_26
    · rw [if_neg c_2] at h
      refine lv_aload_n hx hb dX5_finding_15 rfl (lv_at hl 1 rfl) ?_
      refine gf_X5_43 (o := 0) (o2 := 73) C0 hb hP (rfl : kR 0 = 5) rfl dX5_finding_16 ?_
      refine lv_iload_n hx hb dX5_finding_19 rfl (lv_at hl 0 rfl) ?_
      refine lv_dup2_11 hx hb dX5_finding_20 rfl rfl ?_
      obtain ⟨hi_3, h⟩ := chk_s h
      refine m_iald (o := 73) (N := 7) (i := (-1000001) - x1) (j := ((-1000001) - x1).toNatClampNeg) C0 hb hP (rfl : kR 73 = 100 + 7) (by decide) hi_3 rfl dX5_finding_21 ?_
      refine lv_iconst (v := 1) hx hb dX5_finding_22 (by decide) ?_
      refine lv_iadd hx hb dX5_finding_23 ?_
      obtain ⟨hi_4, h⟩ := chk_s h
      refine m_iast (o := 73) (N := 7) (i := (-1000001) - x1) (j := ((-1000001) - x1).toNatClampNeg) C0 hb hP hS (rfl : kR 73 = 100 + 7) (by decide) hi_4 rfl dX5_finding_24 (fun H locs hP hS => ?_)
      refine lv_iload_n hx hb dX5_finding_25 rfl (lv_at hl 2 rfl) ?_
      exact m_ri hx hb hr hlk hP hS (Option.some.inj h) dX5_finding_26
def f_X5_level (x1 : Int32) (x2 : Int32) (σ : Mem) : Option (Int32 × Mem) := (if (f_X5_outside x1 11) = 0 then (if (f_X5_outside x2 9999) = 0 then (chk x1 12 (chk x1 12 (some (σ 3 x1.toNatClampNeg, mst σ 3 x1.toNatClampNeg x2)))) else ((f_X5_finding (-1000001) σ).bind fun q_7 => some (q_7.1, q_7.2))) else ((f_X5_finding (-1000001) σ).bind fun q_2 => some (q_2.1, q_2.2)))
set_option maxHeartbeats 4000000 in
set_option maxRecDepth 100000 in
theorem k_X5_level (l : Launch) (G : GG) (a : Nat → Nat) (σ : Mem) (hj : INJ nR a) (x1 : Int32) (x2 : Int32) (q : Int32 × Mem) (h : f_X5_level x1 x2 σ = some q) : Met l yX5_level (Cond.code yX5_level cX5_level 4 (some .int) :: TB) ({ frames := 1, cells := 0, slots := 0, locals := 22 } : Room) (PA G kR nR a σ [.ref (a 0), .int x1, .int x2]) (QI G kR nR a q) 0 0 (AW nR a) := by
  refine M_ofW (by decide) hj kR_lt (Nat.le_of_ble_eq_true rfl) (fun p e s m below meth c ls C0 hb hml hr hlk hP hS hl => ?_)
  have C0 : CT p s _ m RX5 G kR nR a := C0
  have hx := C0.1
  have hts := C0.2.1
  have hown := C0.2.2.1
  have hl : lv_has ls 4 [(0, .ref (a 0)), (1, .int x1), (2, .int x2)] := hl
  unfold f_X5_level at h
  refine lv_iload_n hx hb dX5_level_0 rfl (lv_at hl 1 rfl) ?_
  refine lv_bipush (v := 11) hx hb dX5_level_1 (by decide) ?_
  refine m_pSi (As := [.int x1, .int 11]) (rest := []) C0.z hb hml hl.1 wm_X5_50 md_X5_outside (k_X5_outside l x1 11) rfl rfl ⟨(Nat.le_of_ble_eq_true rfl), (Nat.le_of_ble_eq_true rfl)⟩ rfl rfl (Nat.le_of_ble_eq_true rfl) dX5_level_3 ?_
  refine lv_if_ne (tgt := 19) hx hb dX5_level_6 (by decide) (fun (c_1 : ¬ (f_X5_outside x1 11) = 0) => ?_) (fun (c_1 : (f_X5_outside x1 11) = 0) => ?_)
  · rw [if_neg c_1] at h
    refine lv_aload_n hx hb dX5_level_19 rfl (lv_at hl 0 rfl) ?_
    refine lv_ldc hx hb hown (hts _ wk_X5_54) dX5_level_20 ?_
    obtain ⟨q_2, hq_3, h⟩ := bd_s h
    refine m_cVi (As := [.int (-1000001)]) (rest := []) (o := 0) (ci := 5) C0 hb hml hl.1 wm_X5_55 md_X5_finding (k_X5_finding l G a σ hj (-1000001) q_2 hq_3) rfl rfl ⟨(Nat.le_of_ble_eq_true rfl), (Nat.le_of_ble_eq_true rfl)⟩ hP hS (rfl : kR 0 = 5) (by decide) rfl rfl rfl (Nat.le_of_ble_eq_true rfl) dX5_level_22 (fun H locs hP hS => ?_)
    exact m_ri hx hb hr hlk hP hS (Option.some.inj h) dX5_level_25
  · rw [if_pos c_1] at h
    refine lv_iload_n hx hb dX5_level_9 rfl (lv_at hl 2 rfl) ?_
    refine lv_sipush (v := 9999) hx hb dX5_level_10 (by decide) ?_
    refine m_pSi (As := [.int x2, .int 9999]) (rest := []) C0.z hb hml hl.1 wm_X5_50 md_X5_outside (k_X5_outside l x2 9999) rfl rfl ⟨(Nat.le_of_ble_eq_true rfl), (Nat.le_of_ble_eq_true rfl)⟩ rfl rfl (Nat.le_of_ble_eq_true rfl) dX5_level_13 ?_
    refine lv_if_eq (tgt := 26) hx hb dX5_level_16 (by decide) (fun (c_4 : (f_X5_outside x2 9999) = 0) => ?_) (fun (c_4 : ¬ (f_X5_outside x2 9999) = 0) => ?_)
    · rw [if_pos c_4] at h
      refine lv_aload_n hx hb dX5_level_26 rfl (lv_at hl 0 rfl) ?_
      refine gf_X5_12 (o := 0) (o2 := 1) C0 hb hP (rfl : kR 0 = 5) rfl dX5_level_27 ?_
      refine gf_X5_59 (o := 1) (o2 := 2) C0 hb hP (isV_k v1) rfl dX5_level_30 ?_
      refine gf_X5_63 (o := 2) (o2 := 3) C0 hb hP (isW_k (isV_w v1)) rfl dX5_level_33 ?_
      refine lv_iload_n hx hb dX5_level_36 rfl (lv_at hl 1 rfl) ?_
      obtain ⟨hi_5, h⟩ := chk_s h
      refine m_iald (o := 3) (N := 12) (i := x1) (j := x1.toNatClampNeg) C0 hb hP (isW_1 (isV_w v1)) (by decide) hi_5 rfl dX5_level_37 ?_
      refine lv_istore_n (lv' := [(3, .int (σ 3 x1.toNatClampNeg)), (0, .ref (a 0)), (1, .int x1), (2, .int x2)]) hx hb dX5_level_38 rfl hl (by decide) rfl (fun ls hl => ?_)
      refine lv_aload_n hx hb dX5_level_39 rfl (lv_at hl 1 rfl) ?_
      refine gf_X5_12 (o := 0) (o2 := 1) C0 hb hP (rfl : kR 0 = 5) rfl dX5_level_40 ?_
      refine gf_X5_59 (o := 1) (o2 := 2) C0 hb hP (isV_k v1) rfl dX5_level_43 ?_
      refine gf_X5_63 (o := 2) (o2 := 3) C0 hb hP (isW_k (isV_w v1)) rfl dX5_level_46 ?_
      refine lv_iload_n hx hb dX5_level_49 rfl (lv_at hl 2 rfl) ?_
      refine lv_iload_n hx hb dX5_level_50 rfl (lv_at hl 3 rfl) ?_
      obtain ⟨hi_6, h⟩ := chk_s h
      refine m_iast (o := 3) (N := 12) (i := x1) (j := x1.toNatClampNeg) C0 hb hP hS (isW_1 (isV_w v1)) (by decide) hi_6 rfl dX5_level_51 (fun H locs hP hS => ?_)
      refine lv_iload_n hx hb dX5_level_52 rfl (lv_at hl 0 rfl) ?_
      exact m_ri hx hb hr hlk hP hS (Option.some.inj h) dX5_level_53
    · rw [if_neg c_4] at h
      refine lv_aload_n hx hb dX5_level_19 rfl (lv_at hl 0 rfl) ?_
      refine lv_ldc hx hb hown (hts _ wk_X5_54) dX5_level_20 ?_
      obtain ⟨q_7, hq_8, h⟩ := bd_s h
      refine m_cVi (As := [.int (-1000001)]) (rest := []) (o := 0) (ci := 5) C0 hb hml hl.1 wm_X5_55 md_X5_finding (k_X5_finding l G a σ hj (-1000001) q_7 hq_8) rfl rfl ⟨(Nat.le_of_ble_eq_true rfl), (Nat.le_of_ble_eq_true rfl)⟩ hP hS (rfl : kR 0 = 5) (by decide) rfl rfl rfl (Nat.le_of_ble_eq_true rfl) dX5_level_22 (fun H locs hP hS => ?_)
      exact m_ri hx hb hr hlk hP hS (Option.some.inj h) dX5_level_25
def f_X5_stands (x1 : Int32) (σ : Mem) : Option (Int32 × Mem) := (if (f_X5_outside x1 11) = 0 then (chk x1 12 (some (σ 3 x1.toNatClampNeg, σ))) else ((f_X5_finding (-1000001) σ).bind fun q_3 => some (q_3.1, q_3.2)))
set_option maxHeartbeats 4000000 in
set_option maxRecDepth 100000 in
theorem k_X5_stands (l : Launch) (G : GG) (a : Nat → Nat) (σ : Mem) (hj : INJ nR a) (x1 : Int32) (q : Int32 × Mem) (h : f_X5_stands x1 σ = some q) : Met l yX5_stands (Cond.code yX5_stands cX5_stands 2 (some .int) :: TB) ({ frames := 1, cells := 0, slots := 0, locals := 22 } : Room) (PA G kR nR a σ [.ref (a 0), .int x1]) (QI G kR nR a q) 0 0 (AW nR a) := by
  refine M_ofW (by decide) hj kR_lt (Nat.le_of_ble_eq_true rfl) (fun p e s m below meth c ls C0 hb hml hr hlk hP hS hl => ?_)
  have C0 : CT p s _ m RX5 G kR nR a := C0
  have hx := C0.1
  have hts := C0.2.1
  have hown := C0.2.2.1
  have hl : lv_has ls 2 [(0, .ref (a 0)), (1, .int x1)] := hl
  unfold f_X5_stands at h
  refine lv_iload_n hx hb dX5_stands_0 rfl (lv_at hl 1 rfl) ?_
  refine lv_bipush (v := 11) hx hb dX5_stands_1 (by decide) ?_
  refine m_pSi (As := [.int x1, .int 11]) (rest := []) C0.z hb hml hl.1 wm_X5_50 md_X5_outside (k_X5_outside l x1 11) rfl rfl ⟨(Nat.le_of_ble_eq_true rfl), (Nat.le_of_ble_eq_true rfl)⟩ rfl rfl (Nat.le_of_ble_eq_true rfl) dX5_stands_3 ?_
  refine lv_if_eq (tgt := 16) hx hb dX5_stands_6 (by decide) (fun (c_1 : (f_X5_outside x1 11) = 0) => ?_) (fun (c_1 : ¬ (f_X5_outside x1 11) = 0) => ?_)
  · rw [if_pos c_1] at h
    refine lv_aload_n hx hb dX5_stands_16 rfl (lv_at hl 0 rfl) ?_
    refine gf_X5_12 (o := 0) (o2 := 1) C0 hb hP (rfl : kR 0 = 5) rfl dX5_stands_17 ?_
    refine gf_X5_59 (o := 1) (o2 := 2) C0 hb hP (isV_k v1) rfl dX5_stands_20 ?_
    refine gf_X5_63 (o := 2) (o2 := 3) C0 hb hP (isW_k (isV_w v1)) rfl dX5_stands_23 ?_
    refine lv_iload_n hx hb dX5_stands_26 rfl (lv_at hl 1 rfl) ?_
    obtain ⟨hi_2, h⟩ := chk_s h
    refine m_iald (o := 3) (N := 12) (i := x1) (j := x1.toNatClampNeg) C0 hb hP (isW_1 (isV_w v1)) (by decide) hi_2 rfl dX5_stands_27 ?_
    exact m_ri hx hb hr hlk hP hS (Option.some.inj h) dX5_stands_28
  · rw [if_neg c_1] at h
    refine lv_aload_n hx hb dX5_stands_9 rfl (lv_at hl 0 rfl) ?_
    refine lv_ldc hx hb hown (hts _ wk_X5_54) dX5_stands_10 ?_
    obtain ⟨q_3, hq_4, h⟩ := bd_s h
    refine m_cVi (As := [.int (-1000001)]) (rest := []) (o := 0) (ci := 5) C0 hb hml hl.1 wm_X5_55 md_X5_finding (k_X5_finding l G a σ hj (-1000001) q_3 hq_4) rfl rfl ⟨(Nat.le_of_ble_eq_true rfl), (Nat.le_of_ble_eq_true rfl)⟩ hP hS (rfl : kR 0 = 5) (by decide) rfl rfl rfl (Nat.le_of_ble_eq_true rfl) dX5_stands_12 (fun H locs hP hS => ?_)
    exact m_ri hx hb hr hlk hP hS (Option.some.inj h) dX5_stands_15
def f_X5_plan (x1 : Int32) (x2 : Int32) (σ : Mem) : Option (Int32 × Mem) := (if (f_X5_outside x1 7) = 0 then (if (f_X5_outside x2 99) = 0 then (chk x1 8 (chk x1 8 (some (σ 5 x1.toNatClampNeg, mst σ 5 x1.toNatClampNeg x2)))) else ((f_X5_finding (-1000001) σ).bind fun q_7 => some (q_7.1, q_7.2))) else ((f_X5_finding (-1000001) σ).bind fun q_2 => some (q_2.1, q_2.2)))
set_option maxHeartbeats 4000000 in
set_option maxRecDepth 100000 in
theorem k_X5_plan (l : Launch) (G : GG) (a : Nat → Nat) (σ : Mem) (hj : INJ nR a) (x1 : Int32) (x2 : Int32) (q : Int32 × Mem) (h : f_X5_plan x1 x2 σ = some q) : Met l yX5_plan (Cond.code yX5_plan cX5_plan 4 (some .int) :: TB) ({ frames := 1, cells := 0, slots := 0, locals := 22 } : Room) (PA G kR nR a σ [.ref (a 0), .int x1, .int x2]) (QI G kR nR a q) 0 0 (AW nR a) := by
  refine M_ofW (by decide) hj kR_lt (Nat.le_of_ble_eq_true rfl) (fun p e s m below meth c ls C0 hb hml hr hlk hP hS hl => ?_)
  have C0 : CT p s _ m RX5 G kR nR a := C0
  have hx := C0.1
  have hts := C0.2.1
  have hown := C0.2.2.1
  have hl : lv_has ls 4 [(0, .ref (a 0)), (1, .int x1), (2, .int x2)] := hl
  unfold f_X5_plan at h
  refine lv_iload_n hx hb dX5_plan_0 rfl (lv_at hl 1 rfl) ?_
  refine lv_bipush (v := 7) hx hb dX5_plan_1 (by decide) ?_
  refine m_pSi (As := [.int x1, .int 7]) (rest := []) C0.z hb hml hl.1 wm_X5_50 md_X5_outside (k_X5_outside l x1 7) rfl rfl ⟨(Nat.le_of_ble_eq_true rfl), (Nat.le_of_ble_eq_true rfl)⟩ rfl rfl (Nat.le_of_ble_eq_true rfl) dX5_plan_3 ?_
  refine lv_if_ne (tgt := 18) hx hb dX5_plan_6 (by decide) (fun (c_1 : ¬ (f_X5_outside x1 7) = 0) => ?_) (fun (c_1 : (f_X5_outside x1 7) = 0) => ?_)
  · rw [if_neg c_1] at h
    refine lv_aload_n hx hb dX5_plan_18 rfl (lv_at hl 0 rfl) ?_
    refine lv_ldc hx hb hown (hts _ wk_X5_54) dX5_plan_19 ?_
    obtain ⟨q_2, hq_3, h⟩ := bd_s h
    refine m_cVi (As := [.int (-1000001)]) (rest := []) (o := 0) (ci := 5) C0 hb hml hl.1 wm_X5_55 md_X5_finding (k_X5_finding l G a σ hj (-1000001) q_2 hq_3) rfl rfl ⟨(Nat.le_of_ble_eq_true rfl), (Nat.le_of_ble_eq_true rfl)⟩ hP hS (rfl : kR 0 = 5) (by decide) rfl rfl rfl (Nat.le_of_ble_eq_true rfl) dX5_plan_21 (fun H locs hP hS => ?_)
    exact m_ri hx hb hr hlk hP hS (Option.some.inj h) dX5_plan_24
  · rw [if_pos c_1] at h
    refine lv_iload_n hx hb dX5_plan_9 rfl (lv_at hl 2 rfl) ?_
    refine lv_bipush (v := 99) hx hb dX5_plan_10 (by decide) ?_
    refine m_pSi (As := [.int x2, .int 99]) (rest := []) C0.z hb hml hl.1 wm_X5_50 md_X5_outside (k_X5_outside l x2 99) rfl rfl ⟨(Nat.le_of_ble_eq_true rfl), (Nat.le_of_ble_eq_true rfl)⟩ rfl rfl (Nat.le_of_ble_eq_true rfl) dX5_plan_12 ?_
    refine lv_if_eq (tgt := 25) hx hb dX5_plan_15 (by decide) (fun (c_4 : (f_X5_outside x2 99) = 0) => ?_) (fun (c_4 : ¬ (f_X5_outside x2 99) = 0) => ?_)
    · rw [if_pos c_4] at h
      refine lv_aload_n hx hb dX5_plan_25 rfl (lv_at hl 0 rfl) ?_
      refine gf_X5_12 (o := 0) (o2 := 1) C0 hb hP (rfl : kR 0 = 5) rfl dX5_plan_26 ?_
      refine gf_X5_59 (o := 1) (o2 := 2) C0 hb hP (isV_k v1) rfl dX5_plan_29 ?_
      refine gf_X5_68 (o := 2) (o2 := 5) C0 hb hP (isW_k (isV_w v1)) rfl dX5_plan_32 ?_
      refine lv_iload_n hx hb dX5_plan_35 rfl (lv_at hl 1 rfl) ?_
      obtain ⟨hi_5, h⟩ := chk_s h
      refine m_iald (o := 5) (N := 8) (i := x1) (j := x1.toNatClampNeg) C0 hb hP (isW_3 (isV_w v1)) (by decide) hi_5 rfl dX5_plan_36 ?_
      refine lv_istore_n (lv' := [(3, .int (σ 5 x1.toNatClampNeg)), (0, .ref (a 0)), (1, .int x1), (2, .int x2)]) hx hb dX5_plan_37 rfl hl (by decide) rfl (fun ls hl => ?_)
      refine lv_aload_n hx hb dX5_plan_38 rfl (lv_at hl 1 rfl) ?_
      refine gf_X5_12 (o := 0) (o2 := 1) C0 hb hP (rfl : kR 0 = 5) rfl dX5_plan_39 ?_
      refine gf_X5_59 (o := 1) (o2 := 2) C0 hb hP (isV_k v1) rfl dX5_plan_42 ?_
      refine gf_X5_68 (o := 2) (o2 := 5) C0 hb hP (isW_k (isV_w v1)) rfl dX5_plan_45 ?_
      refine lv_iload_n hx hb dX5_plan_48 rfl (lv_at hl 2 rfl) ?_
      refine lv_iload_n hx hb dX5_plan_49 rfl (lv_at hl 3 rfl) ?_
      obtain ⟨hi_6, h⟩ := chk_s h
      refine m_iast (o := 5) (N := 8) (i := x1) (j := x1.toNatClampNeg) C0 hb hP hS (isW_3 (isV_w v1)) (by decide) hi_6 rfl dX5_plan_50 (fun H locs hP hS => ?_)
      refine lv_iload_n hx hb dX5_plan_51 rfl (lv_at hl 0 rfl) ?_
      exact m_ri hx hb hr hlk hP hS (Option.some.inj h) dX5_plan_52
    · rw [if_neg c_4] at h
      refine lv_aload_n hx hb dX5_plan_18 rfl (lv_at hl 0 rfl) ?_
      refine lv_ldc hx hb hown (hts _ wk_X5_54) dX5_plan_19 ?_
      obtain ⟨q_7, hq_8, h⟩ := bd_s h
      refine m_cVi (As := [.int (-1000001)]) (rest := []) (o := 0) (ci := 5) C0 hb hml hl.1 wm_X5_55 md_X5_finding (k_X5_finding l G a σ hj (-1000001) q_7 hq_8) rfl rfl ⟨(Nat.le_of_ble_eq_true rfl), (Nat.le_of_ble_eq_true rfl)⟩ hP hS (rfl : kR 0 = 5) (by decide) rfl rfl rfl (Nat.le_of_ble_eq_true rfl) dX5_plan_21 (fun H locs hP hS => ?_)
      exact m_ri hx hb hr hlk hP hS (Option.some.inj h) dX5_plan_24
def f_X5_opening (x1 : Int32) (σ : Mem) : Option (Int32 × Mem) := (if (f_X5_outside x1 7) = 0 then (chk x1 8 (some (σ 5 x1.toNatClampNeg, σ))) else ((f_X5_finding (-1000001) σ).bind fun q_3 => some (q_3.1, q_3.2)))
set_option maxHeartbeats 4000000 in
set_option maxRecDepth 100000 in
theorem k_X5_opening (l : Launch) (G : GG) (a : Nat → Nat) (σ : Mem) (hj : INJ nR a) (x1 : Int32) (q : Int32 × Mem) (h : f_X5_opening x1 σ = some q) : Met l yX5_opening (Cond.code yX5_opening cX5_opening 2 (some .int) :: TB) ({ frames := 1, cells := 0, slots := 0, locals := 22 } : Room) (PA G kR nR a σ [.ref (a 0), .int x1]) (QI G kR nR a q) 0 0 (AW nR a) := by
  refine M_ofW (by decide) hj kR_lt (Nat.le_of_ble_eq_true rfl) (fun p e s m below meth c ls C0 hb hml hr hlk hP hS hl => ?_)
  have C0 : CT p s _ m RX5 G kR nR a := C0
  have hx := C0.1
  have hts := C0.2.1
  have hown := C0.2.2.1
  have hl : lv_has ls 2 [(0, .ref (a 0)), (1, .int x1)] := hl
  unfold f_X5_opening at h
  refine lv_iload_n hx hb dX5_opening_0 rfl (lv_at hl 1 rfl) ?_
  refine lv_bipush (v := 7) hx hb dX5_opening_1 (by decide) ?_
  refine m_pSi (As := [.int x1, .int 7]) (rest := []) C0.z hb hml hl.1 wm_X5_50 md_X5_outside (k_X5_outside l x1 7) rfl rfl ⟨(Nat.le_of_ble_eq_true rfl), (Nat.le_of_ble_eq_true rfl)⟩ rfl rfl (Nat.le_of_ble_eq_true rfl) dX5_opening_3 ?_
  refine lv_if_eq (tgt := 16) hx hb dX5_opening_6 (by decide) (fun (c_1 : (f_X5_outside x1 7) = 0) => ?_) (fun (c_1 : ¬ (f_X5_outside x1 7) = 0) => ?_)
  · rw [if_pos c_1] at h
    refine lv_aload_n hx hb dX5_opening_16 rfl (lv_at hl 0 rfl) ?_
    refine gf_X5_12 (o := 0) (o2 := 1) C0 hb hP (rfl : kR 0 = 5) rfl dX5_opening_17 ?_
    refine gf_X5_59 (o := 1) (o2 := 2) C0 hb hP (isV_k v1) rfl dX5_opening_20 ?_
    refine gf_X5_68 (o := 2) (o2 := 5) C0 hb hP (isW_k (isV_w v1)) rfl dX5_opening_23 ?_
    refine lv_iload_n hx hb dX5_opening_26 rfl (lv_at hl 1 rfl) ?_
    obtain ⟨hi_2, h⟩ := chk_s h
    refine m_iald (o := 5) (N := 8) (i := x1) (j := x1.toNatClampNeg) C0 hb hP (isW_3 (isV_w v1)) (by decide) hi_2 rfl dX5_opening_27 ?_
    exact m_ri hx hb hr hlk hP hS (Option.some.inj h) dX5_opening_28
  · rw [if_neg c_1] at h
    refine lv_aload_n hx hb dX5_opening_9 rfl (lv_at hl 0 rfl) ?_
    refine lv_ldc hx hb hown (hts _ wk_X5_54) dX5_opening_10 ?_
    obtain ⟨q_3, hq_4, h⟩ := bd_s h
    refine m_cVi (As := [.int (-1000001)]) (rest := []) (o := 0) (ci := 5) C0 hb hml hl.1 wm_X5_55 md_X5_finding (k_X5_finding l G a σ hj (-1000001) q_3 hq_4) rfl rfl ⟨(Nat.le_of_ble_eq_true rfl), (Nat.le_of_ble_eq_true rfl)⟩ hP hS (rfl : kR 0 = 5) (by decide) rfl rfl rfl (Nat.le_of_ble_eq_true rfl) dX5_opening_12 (fun H locs hP hS => ?_)
    exact m_ri hx hb hr hlk hP hS (Option.some.inj h) dX5_opening_15
def f_X4_openAll_B2 (b : Nat) (x1 : Int32) (rec2 : Int32 → Mem → Option (Mem)) (x2_1 : Int32) (σ_2 : Mem) : Option (Mem) := (if 8 ≤ x2_1 then some σ_2 else (chk x2_1 8 (rec2 (x2_1 + 1) (mst σ_2 (b + 3) x2_1.toNatClampNeg x1))))
def f_X4_openAll (b : Nat) (x1 : Int32) (σ : Mem) : Option (Mem) := (it2 (f_X4_openAll_B2 b x1) FU 0 σ)
set_option maxHeartbeats 4000000 in
set_option maxRecDepth 100000 in
theorem k_X4_openAll (l : Launch) (G : GG) (a : Nat → Nat) (σ : Mem) (hj : INJ nR a) (b : Nat) (hb0 : isW b) (x1 : Int32) (q : Mem) (h : f_X4_openAll b x1 σ = some q) : Met l yX4_openAll (Cond.code yX4_openAll cX4_openAll 3 none :: TB) ({ frames := 0, cells := 0, slots := 0, locals := 0 } : Room) (PA G kR nR a σ [.ref (a b), .int x1]) (QV G kR nR a q) 0 0 (AW nR a) := by
  refine M_ofW (by decide) hj kR_lt (Nat.le_of_ble_eq_true rfl) (fun p e s m below meth c ls C0 hb hml hr hlk hP hS hl => ?_)
  have C0 : CT p s _ m RX4 G kR nR a := C0
  have hx := C0.1
  have hts := C0.2.1
  have hown := C0.2.2.1
  have hl : lv_has ls 3 [(0, .ref (a b)), (1, .int x1)] := hl
  unfold f_X4_openAll at h
  refine lv_iconst (v := 0) hx hb dX4_openAll_0 (by decide) ?_
  refine lv_istore_n (lv' := [(2, .int 0), (0, .ref (a b)), (1, .int x1)]) hx hb dX4_openAll_1 rfl hl (by decide) rfl (fun ls hl => ?_)
  have L_5 : ∀ (fu2 : Nat) (x2_1 : Int32) (σ_2 : Mem) (H : Heap) (locs : List Loc) (ls : Array Slot), it2 (f_X4_openAll_B2 b x1) fu2 x2_1 σ_2 = some q → HP G kR nR a σ_2 H → va_S (AW nR a) s.heap H locs → lv_has ls 3 [(2, .int x2_1), (0, .ref (a b)), (1, .int x1)] → W p l e ({ frames := 0, cells := 0, slots := 0, locals := 0 } : Room) s m ([.ref (a b), .int x1] : List Value).toArray below meth c H locs 0 0 (MQ below (QV G kR nR a q) ([.ref (a b), .int x1] : List Value).toArray s 0 0 (AW nR a)) (F0 m 2 ls []) := by
    intro fu2
    induction fu2 with
    | zero =>
      intro x2_1 σ_2 H locs ls h
      cases h
    | succ fu2 ih2 =>
      intro x2_1 σ_2 H locs ls h hP hS hl
      replace h : (f_X4_openAll_B2 b x1) (it2 (f_X4_openAll_B2 b x1) fu2) x2_1 σ_2 = some q := h
      generalize it2 (f_X4_openAll_B2 b x1) fu2 = rec2 at h ih2
      unfold f_X4_openAll_B2 at h
      refine lv_iload_n hx hb dX4_openAll_2 rfl (lv_at hl 0 rfl) ?_
      refine lv_bipush (v := 8) hx hb dX4_openAll_3 (by decide) ?_
      refine lv_icmp_ge (tgt := 21) hx hb dX4_openAll_5 (by decide) (fun (c_3 : 8 ≤ x2_1) => ?_) (fun (c_3 : ¬ 8 ≤ x2_1) => ?_)
      · rw [if_pos c_3] at h
        exact m_rv hx hb hr hlk hP hS (Option.some.inj h) dX4_openAll_21
      · rw [if_neg c_3] at h
        refine lv_aload_n hx hb dX4_openAll_8 rfl (lv_at hl 1 rfl) ?_
        refine gf_X4_18 (o := b) (o2 := (b + 3)) C0 hb hP (isW_k hb0) rfl dX4_openAll_9 ?_
        refine lv_iload_n hx hb dX4_openAll_12 rfl (lv_at hl 0 rfl) ?_
        refine lv_iload_n hx hb dX4_openAll_13 rfl (lv_at hl 2 rfl) ?_
        obtain ⟨hi_4, h⟩ := chk_s h
        refine m_iast (o := (b + 3)) (N := 8) (i := x2_1) (j := x2_1.toNatClampNeg) C0 hb hP hS (isW_3 hb0) (by decide) hi_4 rfl dX4_openAll_14 (fun H locs hP hS => ?_)
        refine lv_iinc (v := x2_1 + 1) (lv' := [(2, .int (x2_1 + 1)), (0, .ref (a b)), (1, .int x1)]) hx hb dX4_openAll_15 hl (k := 0) rfl rfl (by decide) rfl (fun ls hl => ?_)
        refine lv_goto (tgt := 2) hx hb dX4_openAll_18 (by decide) ?_
        exact ih2 (x2_1 + 1) (mst σ_2 (b + 3) x2_1.toNatClampNeg x1) _ _ _ h hP hS (lv_sub hl [0, 1, 2] rfl)
  exact L_5 FU 0 σ _ _ _ h hP hS (lv_sub hl [0, 1, 2] rfl)
def f_X5_together_B4 (c0 : Nat) (N0 : Nat) (σ : Mem) (rec4 : Int32 → Int32 → Option (Int32)) (x1_1 : Int32) (x2_2 : Int32) : Option (Int32) := (if (Int32.ofNat N0) ≤ x2_2 then some x1_1 else (chk x2_2 N0 (rec4 (x1_1 + (σ c0 x2_2.toNatClampNeg)) (x2_2 + 1))))
def f_X5_together (c0 : Nat) (N0 : Nat) (σ : Mem) : Option (Int32) := (it2 (f_X5_together_B4 c0 N0 σ) FU 0 0)
set_option maxHeartbeats 4000000 in
set_option maxRecDepth 100000 in
theorem k_X5_together (l : Launch) (G : GG) (a : Nat → Nat) (σ : Mem) (hj : INJ nR a) (c0 : Nat) (N0 : Nat) (hk0 : kR c0 = 100 + N0) (hN0 : N0 < 700) (q : Int32) (h : f_X5_together c0 N0 σ = some q) : Met l yX5_together (Cond.code yX5_together cX5_together 3 (some .int) :: TB) ({ frames := 0, cells := 0, slots := 0, locals := 0 } : Room) (PA G kR nR a σ [.ref (a c0)]) (SI q) 0 0 NF := by
  refine M_ofW (by decide) hj kR_lt (Nat.le_of_ble_eq_true rfl) (fun p e s m below meth c ls C0 hb hml hr hlk hP hS hl => ?_)
  have C0 : CT p s _ m RX5 G kR nR a := C0
  have hx := C0.1
  have hts := C0.2.1
  have hown := C0.2.2.1
  have hl : lv_has ls 3 [(0, .ref (a c0))] := hl
  unfold f_X5_together at h
  refine lv_iconst (v := 0) hx hb dX5_together_0 (by decide) ?_
  refine lv_istore_n (lv' := [(1, .int 0), (0, .ref (a c0))]) hx hb dX5_together_1 rfl hl (by decide) rfl (fun ls hl => ?_)
  refine lv_iconst (v := 0) hx hb dX5_together_2 (by decide) ?_
  refine lv_istore_n (lv' := [(2, .int 0), (1, .int 0), (0, .ref (a c0))]) hx hb dX5_together_3 rfl hl (by decide) rfl (fun ls hl => ?_)
  have L_5 : ∀ (fu4 : Nat) (x1_1 : Int32) (x2_2 : Int32) (ls : Array Slot), it2 (f_X5_together_B4 c0 N0 σ) fu4 x1_1 x2_2 = some q → lv_has ls 3 [(2, .int x2_2), (1, .int x1_1), (0, .ref (a c0))] → W p l e ({ frames := 0, cells := 0, slots := 0, locals := 0 } : Room) s m ([.ref (a c0)] : List Value).toArray below meth c s.heap [] 0 0 (MQ below (SI q) ([.ref (a c0)] : List Value).toArray s 0 0 NF) (F0 m 4 ls []) := by
    intro fu4
    induction fu4 with
    | zero =>
      intro x1_1 x2_2 ls h
      cases h
    | succ fu4 ih4 =>
      intro x1_1 x2_2 ls h hl
      replace h : (f_X5_together_B4 c0 N0 σ) (it2 (f_X5_together_B4 c0 N0 σ) fu4) x1_1 x2_2 = some q := h
      generalize it2 (f_X5_together_B4 c0 N0 σ) fu4 = rec4 at h ih4
      unfold f_X5_together_B4 at h
      refine lv_iload_n hx hb dX5_together_4 rfl (lv_at hl 0 rfl) ?_
      refine lv_aload_n hx hb dX5_together_5 rfl (lv_at hl 2 rfl) ?_
      refine m_alen (o := c0) (N := N0) C0 hb hP hk0 hN0 dX5_together_6 ?_
      refine lv_icmp_ge (tgt := 22) hx hb dX5_together_7 (by decide) (fun (c_3 : (Int32.ofNat N0) ≤ x2_2) => ?_) (fun (c_3 : ¬ (Int32.ofNat N0) ≤ x2_2) => ?_)
      · rw [if_pos c_3] at h
        refine lv_iload_n hx hb dX5_together_22 rfl (lv_at hl 1 rfl) ?_
        exact m_si hx hb hr hlk (Option.some.inj h) dX5_together_23
      · rw [if_neg c_3] at h
        refine lv_iload_n hx hb dX5_together_10 rfl (lv_at hl 1 rfl) ?_
        refine lv_aload_n hx hb dX5_together_11 rfl (lv_at hl 2 rfl) ?_
        refine lv_iload_n hx hb dX5_together_12 rfl (lv_at hl 0 rfl) ?_
        obtain ⟨hi_4, h⟩ := chk_s h
        refine m_iald (o := c0) (N := N0) (i := x2_2) (j := x2_2.toNatClampNeg) C0 hb hP hk0 hN0 hi_4 rfl dX5_together_13 ?_
        refine lv_iadd hx hb dX5_together_14 ?_
        refine lv_istore_n (lv' := [(1, .int (x1_1 + (σ c0 x2_2.toNatClampNeg))), (2, .int x2_2), (0, .ref (a c0))]) hx hb dX5_together_15 rfl hl (by decide) rfl (fun ls hl => ?_)
        refine lv_iinc (v := x2_2 + 1) (lv' := [(2, .int (x2_2 + 1)), (1, .int (x1_1 + (σ c0 x2_2.toNatClampNeg))), (0, .ref (a c0))]) hx hb dX5_together_16 hl (k := 1) rfl rfl (by decide) rfl (fun ls hl => ?_)
        refine lv_goto (tgt := 4) hx hb dX5_together_19 (by decide) ?_
        exact ih4 (x1_1 + (σ c0 x2_2.toNatClampNeg)) (x2_2 + 1) _ h (lv_sub hl [0, 1, 2] rfl)
  exact L_5 FU 0 0 _ h (lv_sub hl [0, 1, 2] rfl)
def f_X4_openingsTogether (b : Nat) (σ : Mem) : Option (Int32) := ((f_X5_together (b + 3) 8 σ).bind fun q_1 => some q_1)
set_option maxHeartbeats 4000000 in
set_option maxRecDepth 100000 in
theorem k_X4_openingsTogether (l : Launch) (G : GG) (a : Nat → Nat) (σ : Mem) (hj : INJ nR a) (b : Nat) (hb0 : isW b) (q : Int32) (h : f_X4_openingsTogether b σ = some q) : Met l yX4_openingsTogether (Cond.code yX4_openingsTogether cX4_openingsTogether 1 (some .int) :: TB) ({ frames := 1, cells := 0, slots := 0, locals := 22 } : Room) (PA G kR nR a σ [.ref (a b)]) (SI q) 0 0 NF := by
  refine M_ofW (by decide) hj kR_lt (Nat.le_of_ble_eq_true rfl) (fun p e s m below meth c ls C0 hb hml hr hlk hP hS hl => ?_)
  have C0 : CT p s _ m RX4 G kR nR a := C0
  have hx := C0.1
  have hts := C0.2.1
  have hown := C0.2.2.1
  have hl : lv_has ls 1 [(0, .ref (a b))] := hl
  unfold f_X4_openingsTogether at h
  refine lv_aload_n hx hb dX4_openingsTogether_0 rfl (lv_at hl 0 rfl) ?_
  refine gf_X4_18 (o := b) (o2 := (b + 3)) C0 hb hP (isW_k hb0) rfl dX4_openingsTogether_1 ?_
  obtain ⟨q_1, hq_2, h⟩ := bd_s h
  refine m_rNi (As := [.ref (a (b + 3))]) (rest := []) C0 hb hml hl.1 (C0.2.2.2.1.2.1.1) md_X5_together (k_X5_together l G a σ hj (b + 3) 8 (isW_3 hb0) (by decide) q_1 hq_2) rfl rfl ⟨(Nat.le_of_ble_eq_true rfl), (Nat.le_of_ble_eq_true rfl)⟩ hP hS rfl rfl (Nat.le_of_ble_eq_true rfl) dX4_openingsTogether_4 ?_
  exact m_si hx hb hr hlk (Option.some.inj h) dX4_openingsTogether_7
def f_X5_steady (x1 : Int32) (σ : Mem) : Option (Int32 × Mem) := (if (f_X5_outside x1 99) = 0 then ((f_X4_openingsTogether 2 σ).bind fun q_2 => ((f_X4_openAll 2 x1 σ).bind fun q_4 => some (q_2, q_4))) else ((f_X5_finding (-1000001) σ).bind fun q_6 => some (q_6.1, q_6.2)))
set_option maxHeartbeats 4000000 in
set_option maxRecDepth 100000 in
theorem k_X5_steady (l : Launch) (G : GG) (a : Nat → Nat) (σ : Mem) (hj : INJ nR a) (x1 : Int32) (q : Int32 × Mem) (h : f_X5_steady x1 σ = some q) : Met l yX5_steady (Cond.code yX5_steady cX5_steady 3 (some .int) :: TB) ({ frames := 2, cells := 0, slots := 0, locals := 42 } : Room) (PA G kR nR a σ [.ref (a 0), .int x1]) (QI G kR nR a q) 0 0 (AW nR a) := by
  refine M_ofW (by decide) hj kR_lt (Nat.le_of_ble_eq_true rfl) (fun p e s m below meth c ls C0 hb hml hr hlk hP hS hl => ?_)
  have C0 : CT p s _ m RX5 G kR nR a := C0
  have hx := C0.1
  have hts := C0.2.1
  have hown := C0.2.2.1
  have hl : lv_has ls 3 [(0, .ref (a 0)), (1, .int x1)] := hl
  unfold f_X5_steady at h
  refine lv_iload_n hx hb dX5_steady_0 rfl (lv_at hl 1 rfl) ?_
  refine lv_bipush (v := 99) hx hb dX5_steady_1 (by decide) ?_
  refine m_pSi (As := [.int x1, .int 99]) (rest := []) C0.z hb hml hl.1 wm_X5_50 md_X5_outside (k_X5_outside l x1 99) rfl rfl ⟨(Nat.le_of_ble_eq_true rfl), (Nat.le_of_ble_eq_true rfl)⟩ rfl rfl (Nat.le_of_ble_eq_true rfl) dX5_steady_3 ?_
  refine lv_if_eq (tgt := 16) hx hb dX5_steady_6 (by decide) (fun (c_1 : (f_X5_outside x1 99) = 0) => ?_) (fun (c_1 : ¬ (f_X5_outside x1 99) = 0) => ?_)
  · rw [if_pos c_1] at h
    refine lv_aload_n hx hb dX5_steady_16 rfl (lv_at hl 0 rfl) ?_
    refine gf_X5_12 (o := 0) (o2 := 1) C0 hb hP (rfl : kR 0 = 5) rfl dX5_steady_17 ?_
    refine gf_X5_59 (o := 1) (o2 := 2) C0 hb hP (isV_k v1) rfl dX5_steady_20 ?_
    obtain ⟨q_2, hq_3, h⟩ := bd_s h
    refine m_rVi (As := []) (rest := []) (o := 2) (ci := 4) C0 hb hml hl.1 wm_X5_71 md_X4_openingsTogether (k_X4_openingsTogether l G a σ hj 2 (isV_w v1) q_2 hq_3) rfl rfl ⟨(Nat.le_of_ble_eq_true rfl), (Nat.le_of_ble_eq_true rfl)⟩ hP hS (isW_k (isV_w v1)) (by decide) rfl rfl rfl (Nat.le_of_ble_eq_true rfl) dX5_steady_23 ?_
    refine lv_istore_n (lv' := [(2, .int q_2), (0, .ref (a 0)), (1, .int x1)]) hx hb dX5_steady_26 rfl hl (by decide) rfl (fun ls hl => ?_)
    refine lv_aload_n hx hb dX5_steady_27 rfl (lv_at hl 1 rfl) ?_
    refine gf_X5_12 (o := 0) (o2 := 1) C0 hb hP (rfl : kR 0 = 5) rfl dX5_steady_28 ?_
    refine gf_X5_59 (o := 1) (o2 := 2) C0 hb hP (isV_k v1) rfl dX5_steady_31 ?_
    refine lv_iload_n hx hb dX5_steady_34 rfl (lv_at hl 2 rfl) ?_
    obtain ⟨q_4, hq_5, h⟩ := bd_s h
    refine m_cVv (As := [.int x1]) (rest := []) (o := 2) (ci := 4) C0 hb hml hl.1 wm_X5_75 md_X4_openAll (k_X4_openAll l G a σ hj 2 (isV_w v1) x1 q_4 hq_5) rfl rfl ⟨(Nat.le_of_ble_eq_true rfl), (Nat.le_of_ble_eq_true rfl)⟩ hP hS (isW_k (isV_w v1)) (by decide) rfl rfl rfl (Nat.le_of_ble_eq_true rfl) dX5_steady_35 (fun H locs hP hS => ?_)
    refine lv_iload_n hx hb dX5_steady_38 rfl (lv_at hl 0 rfl) ?_
    exact m_ri hx hb hr hlk hP hS (Option.some.inj h) dX5_steady_39
  · rw [if_neg c_1] at h
    refine lv_aload_n hx hb dX5_steady_9 rfl (lv_at hl 0 rfl) ?_
    refine lv_ldc hx hb hown (hts _ wk_X5_54) dX5_steady_10 ?_
    obtain ⟨q_6, hq_7, h⟩ := bd_s h
    refine m_cVi (As := [.int (-1000001)]) (rest := []) (o := 0) (ci := 5) C0 hb hml hl.1 wm_X5_55 md_X5_finding (k_X5_finding l G a σ hj (-1000001) q_6 hq_7) rfl rfl ⟨(Nat.le_of_ble_eq_true rfl), (Nat.le_of_ble_eq_true rfl)⟩ hP hS (rfl : kR 0 = 5) (by decide) rfl rfl rfl (Nat.le_of_ble_eq_true rfl) dX5_steady_12 (fun H locs hP hS => ?_)
    exact m_ri hx hb hr hlk hP hS (Option.some.inj h) dX5_steady_15
def f_X2_isFull (b : Nat) (σ : Mem) : Int32 := (if (σ b 3) < 8 then 0 else 1)
theorem bz_X2_isFull (b : Nat) (σ : Mem) : f_X2_isFull b σ = 0 ∨ f_X2_isFull b σ = 1 := by
  unfold f_X2_isFull
  repeat' split
  all_goals first | exact Or.inl rfl | exact Or.inr rfl
set_option maxHeartbeats 4000000 in
set_option maxRecDepth 100000 in
theorem k_X2_isFull (l : Launch) (G : GG) (a : Nat → Nat) (σ : Mem) (hj : INJ nR a) (b : Nat) (hb0 : isV b) : Met l yX2_isFull (Cond.code yX2_isFull cX2_isFull 1 (some .boolean) :: TB) ({ frames := 0, cells := 0, slots := 0, locals := 0 } : Room) (PA G kR nR a σ [.ref (a b)]) (SI (f_X2_isFull b σ)) 0 0 NF := by
  generalize h : f_X2_isFull b σ = q
  refine M_ofW (by decide) hj kR_lt (Nat.le_of_ble_eq_true rfl) (fun p e s m below meth c ls C0 hb hml hr hlk hP hS hl => ?_)
  have C0 : CT p s _ m RX2 G kR nR a := C0
  have hx := C0.1
  have hts := C0.2.1
  have hown := C0.2.2.1
  have hl : lv_has ls 1 [(0, .ref (a b))] := hl
  unfold f_X2_isFull at h
  refine lv_aload_n hx hb dX2_isFull_0 rfl (lv_at hl 0 rfl) ?_
  refine gf_X2_28 (o := b) C0 hb hP (isV_k hb0) dX2_isFull_1 ?_
  refine lv_bipush (v := 8) hx hb dX2_isFull_4 (by decide) ?_
  refine lv_icmp_lt (tgt := 13) hx hb dX2_isFull_6 (by decide) (fun (c_1 : (σ b 3) < 8) => ?_) (fun (c_1 : ¬ (σ b 3) < 8) => ?_)
  · rw [if_pos c_1] at h
    refine lv_iconst (v := 0) hx hb dX2_isFull_13 (by decide) ?_
    exact m_sz hx hb hr hlk (Or.inl rfl) h dX2_isFull_14
  · rw [if_neg c_1] at h
    refine lv_iconst (v := 1) hx hb dX2_isFull_9 (by decide) ?_
    refine lv_goto (tgt := 14) hx hb dX2_isFull_10 (by decide) ?_
    exact m_sz hx hb hr hlk (Or.inr rfl) h dX2_isFull_14
def f_X3_begin (b : Nat) (x1 : Int32) (x2 : Int32) (σ : Mem) : Mem := mst (mst (mst (mst (mst σ b 0 x1) b 1 x2) b 2 5) b 3 50) b 4 0
set_option maxHeartbeats 4000000 in
set_option maxRecDepth 100000 in
theorem k_X3_begin (l : Launch) (G : GG) (a : Nat → Nat) (σ : Mem) (hj : INJ nR a) (b : Nat) (hb0 : kR b = 3) (x1 : Int32) (x2 : Int32) : Met l yX3_begin (Cond.code yX3_begin cX3_begin 3 none :: TB) ({ frames := 0, cells := 0, slots := 0, locals := 0 } : Room) (PA G kR nR a σ [.ref (a b), .int x1, .int x2]) (QV G kR nR a (f_X3_begin b x1 x2 σ)) 0 0 (AW nR a) := by
  generalize h : f_X3_begin b x1 x2 σ = q
  refine M_ofW (by decide) hj kR_lt (Nat.le_of_ble_eq_true rfl) (fun p e s m below meth c ls C0 hb hml hr hlk hP hS hl => ?_)
  have C0 : CT p s _ m RX3 G kR nR a := C0
  have hx := C0.1
  have hts := C0.2.1
  have hown := C0.2.2.1
  have hl : lv_has ls 3 [(0, .ref (a b)), (1, .int x1), (2, .int x2)] := hl
  unfold f_X3_begin at h
  refine lv_aload_n hx hb dX3_begin_0 rfl (lv_at hl 0 rfl) ?_
  refine lv_iload_n hx hb dX3_begin_1 rfl (lv_at hl 1 rfl) ?_
  refine pf_X3_11 (o := b) C0 hb hP hS hb0 dX3_begin_2 (fun H locs hP hS => ?_)
  refine lv_aload_n hx hb dX3_begin_5 rfl (lv_at hl 0 rfl) ?_
  refine lv_iload_n hx hb dX3_begin_6 rfl (lv_at hl 2 rfl) ?_
  refine pf_X3_15 (o := b) C0 hb hP hS hb0 dX3_begin_7 (fun H locs hP hS => ?_)
  refine lv_aload_n hx hb dX3_begin_10 rfl (lv_at hl 0 rfl) ?_
  refine lv_iconst (v := 5) hx hb dX3_begin_11 (by decide) ?_
  refine pf_X3_18 (o := b) C0 hb hP hS hb0 dX3_begin_12 (fun H locs hP hS => ?_)
  refine lv_aload_n hx hb dX3_begin_15 rfl (lv_at hl 0 rfl) ?_
  refine lv_bipush (v := 50) hx hb dX3_begin_16 (by decide) ?_
  refine pf_X3_21 (o := b) C0 hb hP hS hb0 dX3_begin_18 (fun H locs hP hS => ?_)
  refine lv_aload_n hx hb dX3_begin_21 rfl (lv_at hl 0 rfl) ?_
  refine lv_iconst (v := 0) hx hb dX3_begin_22 (by decide) ?_
  refine pf_X3_24 (o := b) C0 hb hP hS hb0 dX3_begin_23 (fun H locs hP hS => ?_)
  exact m_rv hx hb hr hlk hP hS h dX3_begin_26
def f_X2_settle (b : Nat) (x1 : Int32) (x2 : Int32) (σ : Mem) : Option (Int32 × Mem) := (chk (σ b 3) 8 (some (σ b 3, mst (f_X3_begin (b + 7 + (σ b 3).toNatClampNeg) x1 x2 σ) b 3 (((f_X3_begin (b + 7 + (σ b 3).toNatClampNeg) x1 x2 σ) b 3) + 1))))
set_option maxHeartbeats 4000000 in
set_option maxRecDepth 100000 in
theorem k_X2_settle (l : Launch) (G : GG) (a : Nat → Nat) (σ : Mem) (hj : INJ nR a) (b : Nat) (hb0 : isV b) (x1 : Int32) (x2 : Int32) (q : Int32 × Mem) (h : f_X2_settle b x1 x2 σ = some q) : Met l yX2_settle (Cond.code yX2_settle cX2_settle 4 (some .int) :: TB) ({ frames := 1, cells := 0, slots := 0, locals := 22 } : Room) (PA G kR nR a σ [.ref (a b), .int x1, .int x2]) (QI G kR nR a q) 0 0 (AW nR a) := by
  refine M_ofW (by decide) hj kR_lt (Nat.le_of_ble_eq_true rfl) (fun p e s m below meth c ls C0 hb hml hr hlk hP hS hl => ?_)
  have C0 : CT p s _ m RX2 G kR nR a := C0
  have hx := C0.1
  have hts := C0.2.1
  have hown := C0.2.2.1
  have hl : lv_has ls 4 [(0, .ref (a b)), (1, .int x1), (2, .int x2)] := hl
  unfold f_X2_settle at h
  refine lv_aload_n hx hb dX2_settle_0 rfl (lv_at hl 0 rfl) ?_
  refine gf_X2_28 (o := b) C0 hb hP (isV_k hb0) dX2_settle_1 ?_
  refine lv_istore_n (lv' := [(3, .int (σ b 3)), (0, .ref (a b)), (1, .int x1), (2, .int x2)]) hx hb dX2_settle_4 rfl hl (by decide) rfl (fun ls hl => ?_)
  refine lv_aload_n hx hb dX2_settle_5 rfl (lv_at hl 1 rfl) ?_
  refine gf_X2_20 (o := b) (o2 := (b + 5)) C0 hb hP (isV_k hb0) rfl dX2_settle_6 ?_
  refine lv_iload_n hx hb dX2_settle_9 rfl (lv_at hl 0 rfl) ?_
  obtain ⟨hi_1, h⟩ := chk_s h
  refine m_aldW (o := (b + 5)) (i := σ b 3) (o2 := (b + 7 + (σ b 3).toNatClampNeg)) C0 hb hP (isV_a hb0) hi_1 rfl dX2_settle_10 ?_
  refine lv_iload_n hx hb dX2_settle_11 rfl (lv_at hl 2 rfl) ?_
  refine lv_iload_n hx hb dX2_settle_12 rfl (lv_at hl 3 rfl) ?_
  refine m_cVv (As := [.int x1, .int x2]) (rest := []) (o := (b + 7 + (σ b 3).toNatClampNeg)) (ci := 3) C0 hb hml hl.1 wm_X2_49 md_X3_begin (k_X3_begin l G a σ hj (b + 7 + (σ b 3).toNatClampNeg) (isV_t hb0 (vp_lt hi_1)) x1 x2) rfl rfl ⟨(Nat.le_of_ble_eq_true rfl), (Nat.le_of_ble_eq_true rfl)⟩ hP hS (isV_t hb0 (vp_lt hi_1)) (by decide) rfl rfl rfl (Nat.le_of_ble_eq_true rfl) dX2_settle_13 (fun H locs hP hS => ?_)
  refine lv_aload_n hx hb dX2_settle_16 rfl (lv_at hl 1 rfl) ?_
  refine lv_dup hx hb dX2_settle_17 rfl ?_
  refine gf_X2_28 (o := b) C0 hb hP (isV_k hb0) dX2_settle_18 ?_
  refine lv_iconst (v := 1) hx hb dX2_settle_21 (by decide) ?_
  refine lv_iadd hx hb dX2_settle_22 ?_
  refine pf_X2_28 (o := b) C0 hb hP hS (isV_k hb0) dX2_settle_23 (fun H locs hP hS => ?_)
  refine lv_iload_n hx hb dX2_settle_26 rfl (lv_at hl 0 rfl) ?_
  exact m_ri hx hb hr hlk hP hS (Option.some.inj h) dX2_settle_27
def f_X5_watcher (x1 : Int32) (x2 : Int32) (σ : Mem) : Option (Int32 × Mem) := (if (f_X5_outside x1 6) = 0 then (if (f_X5_outside x2 11) = 0 then (if (f_X2_isFull 1 σ) = 0 then ((f_X2_settle 1 x1 x2 σ).bind fun q_6 => some (q_6.1, q_6.2)) else ((f_X5_finding (-1000002) σ).bind fun q_8 => some (q_8.1, q_8.2))) else ((f_X5_finding (-1000001) σ).bind fun q_10 => some (q_10.1, q_10.2))) else ((f_X5_finding (-1000001) σ).bind fun q_2 => some (q_2.1, q_2.2)))
set_option maxHeartbeats 4000000 in
set_option maxRecDepth 100000 in
theorem k_X5_watcher (l : Launch) (G : GG) (a : Nat → Nat) (σ : Mem) (hj : INJ nR a) (x1 : Int32) (x2 : Int32) (q : Int32 × Mem) (h : f_X5_watcher x1 x2 σ = some q) : Met l yX5_watcher (Cond.code yX5_watcher cX5_watcher 3 (some .int) :: TB) ({ frames := 2, cells := 0, slots := 0, locals := 45 } : Room) (PA G kR nR a σ [.ref (a 0), .int x1, .int x2]) (QI G kR nR a q) 0 0 (AW nR a) := by
  refine M_ofW (by decide) hj kR_lt (Nat.le_of_ble_eq_true rfl) (fun p e s m below meth c ls C0 hb hml hr hlk hP hS hl => ?_)
  have C0 : CT p s _ m RX5 G kR nR a := C0
  have hx := C0.1
  have hts := C0.2.1
  have hown := C0.2.2.1
  have hl : lv_has ls 3 [(0, .ref (a 0)), (1, .int x1), (2, .int x2)] := hl
  unfold f_X5_watcher at h
  refine lv_iload_n hx hb dX5_watcher_0 rfl (lv_at hl 1 rfl) ?_
  refine lv_bipush (v := 6) hx hb dX5_watcher_1 (by decide) ?_
  refine m_pSi (As := [.int x1, .int 6]) (rest := []) C0.z hb hml hl.1 wm_X5_50 md_X5_outside (k_X5_outside l x1 6) rfl rfl ⟨(Nat.le_of_ble_eq_true rfl), (Nat.le_of_ble_eq_true rfl)⟩ rfl rfl (Nat.le_of_ble_eq_true rfl) dX5_watcher_3 ?_
  refine lv_if_ne (tgt := 18) hx hb dX5_watcher_6 (by decide) (fun (c_1 : ¬ (f_X5_outside x1 6) = 0) => ?_) (fun (c_1 : (f_X5_outside x1 6) = 0) => ?_)
  · rw [if_neg c_1] at h
    refine lv_aload_n hx hb dX5_watcher_18 rfl (lv_at hl 0 rfl) ?_
    refine lv_ldc hx hb hown (hts _ wk_X5_54) dX5_watcher_19 ?_
    obtain ⟨q_2, hq_3, h⟩ := bd_s h
    refine m_cVi (As := [.int (-1000001)]) (rest := []) (o := 0) (ci := 5) C0 hb hml hl.1 wm_X5_55 md_X5_finding (k_X5_finding l G a σ hj (-1000001) q_2 hq_3) rfl rfl ⟨(Nat.le_of_ble_eq_true rfl), (Nat.le_of_ble_eq_true rfl)⟩ hP hS (rfl : kR 0 = 5) (by decide) rfl rfl rfl (Nat.le_of_ble_eq_true rfl) dX5_watcher_21 (fun H locs hP hS => ?_)
    exact m_ri hx hb hr hlk hP hS (Option.some.inj h) dX5_watcher_24
  · rw [if_pos c_1] at h
    refine lv_iload_n hx hb dX5_watcher_9 rfl (lv_at hl 2 rfl) ?_
    refine lv_bipush (v := 11) hx hb dX5_watcher_10 (by decide) ?_
    refine m_pSi (As := [.int x2, .int 11]) (rest := []) C0.z hb hml hl.1 wm_X5_50 md_X5_outside (k_X5_outside l x2 11) rfl rfl ⟨(Nat.le_of_ble_eq_true rfl), (Nat.le_of_ble_eq_true rfl)⟩ rfl rfl (Nat.le_of_ble_eq_true rfl) dX5_watcher_12 ?_
    refine lv_if_eq (tgt := 25) hx hb dX5_watcher_15 (by decide) (fun (c_4 : (f_X5_outside x2 11) = 0) => ?_) (fun (c_4 : ¬ (f_X5_outside x2 11) = 0) => ?_)
    · rw [if_pos c_4] at h
      refine lv_aload_n hx hb dX5_watcher_25 rfl (lv_at hl 0 rfl) ?_
      refine gf_X5_12 (o := 0) (o2 := 1) C0 hb hP (rfl : kR 0 = 5) rfl dX5_watcher_26 ?_
      refine m_rVi (As := []) (rest := []) (o := 1) (ci := 2) C0 hb hml hl.1 wm_X5_79 md_X2_isFull (k_X2_isFull l G a σ hj 1 v1) rfl rfl ⟨(Nat.le_of_ble_eq_true rfl), (Nat.le_of_ble_eq_true rfl)⟩ hP hS (isV_k v1) (by decide) rfl rfl rfl (Nat.le_of_ble_eq_true rfl) dX5_watcher_29 ?_
      refine lv_if_eq (tgt := 42) hx hb dX5_watcher_32 (by decide) (fun (c_5 : (f_X2_isFull 1 σ) = 0) => ?_) (fun (c_5 : ¬ (f_X2_isFull 1 σ) = 0) => ?_)
      · rw [if_pos c_5] at h
        refine lv_aload_n hx hb dX5_watcher_42 rfl (lv_at hl 0 rfl) ?_
        refine gf_X5_12 (o := 0) (o2 := 1) C0 hb hP (rfl : kR 0 = 5) rfl dX5_watcher_43 ?_
        refine lv_iload_n hx hb dX5_watcher_46 rfl (lv_at hl 1 rfl) ?_
        refine lv_iload_n hx hb dX5_watcher_47 rfl (lv_at hl 2 rfl) ?_
        obtain ⟨q_6, hq_7, h⟩ := bd_s h
        refine m_cVi (As := [.int x1, .int x2]) (rest := []) (o := 1) (ci := 2) C0 hb hml hl.1 wm_X5_84 md_X2_settle (k_X2_settle l G a σ hj 1 v1 x1 x2 q_6 hq_7) rfl rfl ⟨(Nat.le_of_ble_eq_true rfl), (Nat.le_of_ble_eq_true rfl)⟩ hP hS (isV_k v1) (by decide) rfl rfl rfl (Nat.le_of_ble_eq_true rfl) dX5_watcher_48 (fun H locs hP hS => ?_)
        exact m_ri hx hb hr hlk hP hS (Option.some.inj h) dX5_watcher_51
      · rw [if_neg c_5] at h
        refine lv_aload_n hx hb dX5_watcher_35 rfl (lv_at hl 0 rfl) ?_
        refine lv_ldc hx hb hown (hts _ wk_X5_83) dX5_watcher_36 ?_
        obtain ⟨q_8, hq_9, h⟩ := bd_s h
        refine m_cVi (As := [.int (-1000002)]) (rest := []) (o := 0) (ci := 5) C0 hb hml hl.1 wm_X5_55 md_X5_finding (k_X5_finding l G a σ hj (-1000002) q_8 hq_9) rfl rfl ⟨(Nat.le_of_ble_eq_true rfl), (Nat.le_of_ble_eq_true rfl)⟩ hP hS (rfl : kR 0 = 5) (by decide) rfl rfl rfl (Nat.le_of_ble_eq_true rfl) dX5_watcher_38 (fun H locs hP hS => ?_)
        exact m_ri hx hb hr hlk hP hS (Option.some.inj h) dX5_watcher_41
    · rw [if_neg c_4] at h
      refine lv_aload_n hx hb dX5_watcher_18 rfl (lv_at hl 0 rfl) ?_
      refine lv_ldc hx hb hown (hts _ wk_X5_54) dX5_watcher_19 ?_
      obtain ⟨q_10, hq_11, h⟩ := bd_s h
      refine m_cVi (As := [.int (-1000001)]) (rest := []) (o := 0) (ci := 5) C0 hb hml hl.1 wm_X5_55 md_X5_finding (k_X5_finding l G a σ hj (-1000001) q_10 hq_11) rfl rfl ⟨(Nat.le_of_ble_eq_true rfl), (Nat.le_of_ble_eq_true rfl)⟩ hP hS (rfl : kR 0 = 5) (by decide) rfl rfl rfl (Nat.le_of_ble_eq_true rfl) dX5_watcher_21 (fun H locs hP hS => ?_)
      exact m_ri hx hb hr hlk hP hS (Option.some.inj h) dX5_watcher_24
def f_X3_millBears (b : Nat) (σ : Mem) : Int32 := 5 + ((σ b 2) / 10)
set_option maxHeartbeats 4000000 in
set_option maxRecDepth 100000 in
theorem k_X3_millBears (l : Launch) (G : GG) (a : Nat → Nat) (σ : Mem) (hj : INJ nR a) (b : Nat) (hb0 : kR b = 3) : Met l yX3_millBears (Cond.code yX3_millBears cX3_millBears 1 (some .int) :: TB) ({ frames := 0, cells := 0, slots := 0, locals := 0 } : Room) (PA G kR nR a σ [.ref (a b)]) (SI (f_X3_millBears b σ)) 0 0 NF := by
  generalize h : f_X3_millBears b σ = q
  refine M_ofW (by decide) hj kR_lt (Nat.le_of_ble_eq_true rfl) (fun p e s m below meth c ls C0 hb hml hr hlk hP hS hl => ?_)
  have C0 : CT p s _ m RX3 G kR nR a := C0
  have hx := C0.1
  have hts := C0.2.1
  have hown := C0.2.2.1
  have hl : lv_has ls 1 [(0, .ref (a b))] := hl
  unfold f_X3_millBears at h
  refine lv_iconst (v := 5) hx hb dX3_millBears_0 (by decide) ?_
  refine lv_aload_n hx hb dX3_millBears_1 rfl (lv_at hl 0 rfl) ?_
  refine gf_X3_18 (o := b) C0 hb hP hb0 dX3_millBears_2 ?_
  refine lv_bipush (v := 10) hx hb dX3_millBears_5 (by decide) ?_
  refine lv_idiv hx hb dX3_millBears_7 (by decide) ?_
  refine lv_iadd hx hb dX3_millBears_8 ?_
  exact m_si hx hb hr hlk h dX3_millBears_9
def f_X3_bears (b : Nat) (σ : Mem) : Int32 := (if (σ b 0) = 1 then f_X3_millBears b σ else (if (σ b 0) = 2 then 3 else (if (σ b 0) = 3 then 2 else (if (σ b 0) = 4 then (if 20 ≤ (σ b 3) then 2 else 1) else (if (σ b 0) = 5 then 20 else (if (σ b 0) = 6 then 2 * (f_X3_millBears b σ) else 5))))))
set_option maxHeartbeats 4000000 in
set_option maxRecDepth 100000 in
theorem k_X3_bears (l : Launch) (G : GG) (a : Nat → Nat) (σ : Mem) (hj : INJ nR a) (b : Nat) (hb0 : kR b = 3) : Met l yX3_bears (Cond.code yX3_bears cX3_bears 1 (some .int) :: TB) ({ frames := 1, cells := 0, slots := 0, locals := 20 } : Room) (PA G kR nR a σ [.ref (a b)]) (SI (f_X3_bears b σ)) 0 0 NF := by
  generalize h : f_X3_bears b σ = q
  refine M_ofW (by decide) hj kR_lt (Nat.le_of_ble_eq_true rfl) (fun p e s m below meth c ls C0 hb hml hr hlk hP hS hl => ?_)
  have C0 : CT p s _ m RX3 G kR nR a := C0
  have hx := C0.1
  have hts := C0.2.1
  have hown := C0.2.2.1
  have hl : lv_has ls 1 [(0, .ref (a b))] := hl
  unfold f_X3_bears at h
  refine lv_aload_n hx hb dX3_bears_0 rfl (lv_at hl 0 rfl) ?_
  refine gf_X3_11 (o := b) C0 hb hP hb0 dX3_bears_1 ?_
  by_cases c_1 : (σ b 0) = 1
  · rw [if_pos c_1] at h
    refine lv_tableIn (off := 40) (tgt := 44) hx hb dX3_bears_4 (by rw [c_1]; decide) (by rw [c_1]; decide) (by rw [c_1]; rfl) (by decide) ?_
    refine lv_aload_n hx hb dX3_bears_44 rfl (lv_at hl 0 rfl) ?_
    refine m_rVi (As := []) (rest := []) (o := b) (ci := 3) C0 hb hml hl.1 wm_X3_58 md_X3_millBears (k_X3_millBears l G a σ hj b hb0) rfl rfl ⟨(Nat.le_of_ble_eq_true rfl), (Nat.le_of_ble_eq_true rfl)⟩ hP hS hb0 (by decide) rfl rfl rfl (Nat.le_of_ble_eq_true rfl) dX3_bears_45 ?_
    exact m_si hx hb hr hlk h dX3_bears_48
  · rw [if_neg c_1] at h
    by_cases c_2 : (σ b 0) = 2
    · rw [if_pos c_2] at h
      refine lv_tableIn (off := 52) (tgt := 56) hx hb dX3_bears_4 (by rw [c_2]; decide) (by rw [c_2]; decide) (by rw [c_2]; rfl) (by decide) ?_
      refine lv_iconst (v := 3) hx hb dX3_bears_56 (by decide) ?_
      exact m_si hx hb hr hlk h dX3_bears_57
    · rw [if_neg c_2] at h
      by_cases c_3 : (σ b 0) = 3
      · rw [if_pos c_3] at h
        refine lv_tableIn (off := 54) (tgt := 58) hx hb dX3_bears_4 (by rw [c_3]; decide) (by rw [c_3]; decide) (by rw [c_3]; rfl) (by decide) ?_
        refine lv_iconst (v := 2) hx hb dX3_bears_58 (by decide) ?_
        exact m_si hx hb hr hlk h dX3_bears_59
      · rw [if_neg c_3] at h
        by_cases c_4 : (σ b 0) = 4
        · rw [if_pos c_4] at h
          refine lv_tableIn (off := 56) (tgt := 60) hx hb dX3_bears_4 (by rw [c_4]; decide) (by rw [c_4]; decide) (by rw [c_4]; rfl) (by decide) ?_
          refine lv_aload_n hx hb dX3_bears_60 rfl (lv_at hl 0 rfl) ?_
          refine gf_X3_21 (o := b) C0 hb hP hb0 dX3_bears_61 ?_
          refine lv_bipush (v := 20) hx hb dX3_bears_64 (by decide) ?_
          refine lv_icmp_ge (tgt := 73) hx hb dX3_bears_66 (by decide) (fun (c_5 : 20 ≤ (σ b 3)) => ?_) (fun (c_5 : ¬ 20 ≤ (σ b 3)) => ?_)
          · rw [if_pos c_5] at h
            refine lv_iconst (v := 2) hx hb dX3_bears_73 (by decide) ?_
            exact m_si hx hb hr hlk h dX3_bears_74
          · rw [if_neg c_5] at h
            refine lv_iconst (v := 1) hx hb dX3_bears_69 (by decide) ?_
            refine lv_goto (tgt := 74) hx hb dX3_bears_70 (by decide) ?_
            exact m_si hx hb hr hlk h dX3_bears_74
        · rw [if_neg c_4] at h
          by_cases c_6 : (σ b 0) = 5
          · rw [if_pos c_6] at h
            refine lv_tableIn (off := 71) (tgt := 75) hx hb dX3_bears_4 (by rw [c_6]; decide) (by rw [c_6]; decide) (by rw [c_6]; rfl) (by decide) ?_
            refine lv_bipush (v := 20) hx hb dX3_bears_75 (by decide) ?_
            exact m_si hx hb hr hlk h dX3_bears_77
          · rw [if_neg c_6] at h
            by_cases c_7 : (σ b 0) = 6
            · rw [if_pos c_7] at h
              refine lv_tableIn (off := 45) (tgt := 49) hx hb dX3_bears_4 (by rw [c_7]; decide) (by rw [c_7]; decide) (by rw [c_7]; rfl) (by decide) ?_
              refine lv_iconst (v := 2) hx hb dX3_bears_49 (by decide) ?_
              refine lv_aload_n hx hb dX3_bears_50 rfl (lv_at hl 0 rfl) ?_
              refine m_rVi (As := []) (rest := [.int 2]) (o := b) (ci := 3) C0 hb hml hl.1 wm_X3_58 md_X3_millBears (k_X3_millBears l G a σ hj b hb0) rfl rfl ⟨(Nat.le_of_ble_eq_true rfl), (Nat.le_of_ble_eq_true rfl)⟩ hP hS hb0 (by decide) rfl rfl rfl (Nat.le_of_ble_eq_true rfl) dX3_bears_51 ?_
              refine lv_imul hx hb dX3_bears_54 ?_
              exact m_si hx hb hr hlk h dX3_bears_55
            · rw [if_neg c_7] at h
              refine lv_tableOut (tgt := 78) hx hb dX3_bears_4 (by have t0 := lv_neT c_1 (a := 1) rfl; have t1 := lv_neT c_2 (a := 2) rfl; have t2 := lv_neT c_3 (a := 3) rfl; have t3 := lv_neT c_4 (a := 4) rfl; have t4 := lv_neT c_6 (a := 5) rfl; have t5 := lv_neT c_7 (a := 6) rfl; omega) (by decide) ?_
              refine lv_iconst (v := 5) hx hb dX3_bears_78 (by decide) ?_
              exact m_si hx hb hr hlk h dX3_bears_79
def f_X3_doubts (b : Nat) (σ : Mem) : Int32 := (if (σ b 0) = 1 then 5 else (if (σ b 0) = 2 then 20 else (if (σ b 0) = 3 then 25 else (if (σ b 0) = 4 then 50 else (if (σ b 0) = 5 then 0 else (if (σ b 0) = 6 then 1 else 10))))))
set_option maxHeartbeats 4000000 in
set_option maxRecDepth 100000 in
theorem k_X3_doubts (l : Launch) (G : GG) (a : Nat → Nat) (σ : Mem) (hj : INJ nR a) (b : Nat) (hb0 : kR b = 3) : Met l yX3_doubts (Cond.code yX3_doubts cX3_doubts 1 (some .int) :: TB) ({ frames := 0, cells := 0, slots := 0, locals := 0 } : Room) (PA G kR nR a σ [.ref (a b)]) (SI (f_X3_doubts b σ)) 0 0 NF := by
  generalize h : f_X3_doubts b σ = q
  refine M_ofW (by decide) hj kR_lt (Nat.le_of_ble_eq_true rfl) (fun p e s m below meth c ls C0 hb hml hr hlk hP hS hl => ?_)
  have C0 : CT p s _ m RX3 G kR nR a := C0
  have hx := C0.1
  have hts := C0.2.1
  have hown := C0.2.2.1
  have hl : lv_has ls 1 [(0, .ref (a b))] := hl
  unfold f_X3_doubts at h
  refine lv_aload_n hx hb dX3_doubts_0 rfl (lv_at hl 0 rfl) ?_
  refine gf_X3_11 (o := b) C0 hb hP hb0 dX3_doubts_1 ?_
  by_cases c_1 : (σ b 0) = 1
  · rw [if_pos c_1] at h
    refine lv_tableIn (off := 40) (tgt := 44) hx hb dX3_doubts_4 (by rw [c_1]; decide) (by rw [c_1]; decide) (by rw [c_1]; rfl) (by decide) ?_
    refine lv_iconst (v := 5) hx hb dX3_doubts_44 (by decide) ?_
    exact m_si hx hb hr hlk h dX3_doubts_45
  · rw [if_neg c_1] at h
    by_cases c_2 : (σ b 0) = 2
    · rw [if_pos c_2] at h
      refine lv_tableIn (off := 44) (tgt := 48) hx hb dX3_doubts_4 (by rw [c_2]; decide) (by rw [c_2]; decide) (by rw [c_2]; rfl) (by decide) ?_
      refine lv_bipush (v := 20) hx hb dX3_doubts_48 (by decide) ?_
      exact m_si hx hb hr hlk h dX3_doubts_50
    · rw [if_neg c_2] at h
      by_cases c_3 : (σ b 0) = 3
      · rw [if_pos c_3] at h
        refine lv_tableIn (off := 47) (tgt := 51) hx hb dX3_doubts_4 (by rw [c_3]; decide) (by rw [c_3]; decide) (by rw [c_3]; rfl) (by decide) ?_
        refine lv_bipush (v := 25) hx hb dX3_doubts_51 (by decide) ?_
        exact m_si hx hb hr hlk h dX3_doubts_53
      · rw [if_neg c_3] at h
        by_cases c_4 : (σ b 0) = 4
        · rw [if_pos c_4] at h
          refine lv_tableIn (off := 50) (tgt := 54) hx hb dX3_doubts_4 (by rw [c_4]; decide) (by rw [c_4]; decide) (by rw [c_4]; rfl) (by decide) ?_
          refine lv_bipush (v := 50) hx hb dX3_doubts_54 (by decide) ?_
          exact m_si hx hb hr hlk h dX3_doubts_56
        · rw [if_neg c_4] at h
          by_cases c_5 : (σ b 0) = 5
          · rw [if_pos c_5] at h
            refine lv_tableIn (off := 53) (tgt := 57) hx hb dX3_doubts_4 (by rw [c_5]; decide) (by rw [c_5]; decide) (by rw [c_5]; rfl) (by decide) ?_
            refine lv_iconst (v := 0) hx hb dX3_doubts_57 (by decide) ?_
            exact m_si hx hb hr hlk h dX3_doubts_58
          · rw [if_neg c_5] at h
            by_cases c_6 : (σ b 0) = 6
            · rw [if_pos c_6] at h
              refine lv_tableIn (off := 42) (tgt := 46) hx hb dX3_doubts_4 (by rw [c_6]; decide) (by rw [c_6]; decide) (by rw [c_6]; rfl) (by decide) ?_
              refine lv_iconst (v := 1) hx hb dX3_doubts_46 (by decide) ?_
              exact m_si hx hb hr hlk h dX3_doubts_47
            · rw [if_neg c_6] at h
              refine lv_tableOut (tgt := 59) hx hb dX3_doubts_4 (by have t0 := lv_neT c_1 (a := 1) rfl; have t1 := lv_neT c_2 (a := 2) rfl; have t2 := lv_neT c_3 (a := 3) rfl; have t3 := lv_neT c_4 (a := 4) rfl; have t4 := lv_neT c_5 (a := 5) rfl; have t5 := lv_neT c_6 (a := 6) rfl; omega) (by decide) ?_
              refine lv_bipush (v := 10) hx hb dX3_doubts_59 (by decide) ?_
              exact m_si hx hb hr hlk h dX3_doubts_61
def f_X3_trusts (b : Nat) (σ : Mem) : Int32 := (if (σ b 0) = 1 then 2 else (if (σ b 0) = 2 then 1 else (if (σ b 0) = 3 then 0 else (if (σ b 0) = 4 then 0 else (if (σ b 0) = 5 then 3 else (if (σ b 0) = 6 then 2 else 1))))))
set_option maxHeartbeats 4000000 in
set_option maxRecDepth 100000 in
theorem k_X3_trusts (l : Launch) (G : GG) (a : Nat → Nat) (σ : Mem) (hj : INJ nR a) (b : Nat) (hb0 : kR b = 3) : Met l yX3_trusts (Cond.code yX3_trusts cX3_trusts 1 (some .int) :: TB) ({ frames := 0, cells := 0, slots := 0, locals := 0 } : Room) (PA G kR nR a σ [.ref (a b)]) (SI (f_X3_trusts b σ)) 0 0 NF := by
  generalize h : f_X3_trusts b σ = q
  refine M_ofW (by decide) hj kR_lt (Nat.le_of_ble_eq_true rfl) (fun p e s m below meth c ls C0 hb hml hr hlk hP hS hl => ?_)
  have C0 : CT p s _ m RX3 G kR nR a := C0
  have hx := C0.1
  have hts := C0.2.1
  have hown := C0.2.2.1
  have hl : lv_has ls 1 [(0, .ref (a b))] := hl
  unfold f_X3_trusts at h
  refine lv_aload_n hx hb dX3_trusts_0 rfl (lv_at hl 0 rfl) ?_
  refine gf_X3_11 (o := b) C0 hb hP hb0 dX3_trusts_1 ?_
  by_cases c_1 : (σ b 0) = 1
  · rw [if_pos c_1] at h
    refine lv_tableIn (off := 40) (tgt := 44) hx hb dX3_trusts_4 (by rw [c_1]; decide) (by rw [c_1]; decide) (by rw [c_1]; rfl) (by decide) ?_
    refine lv_iconst (v := 2) hx hb dX3_trusts_44 (by decide) ?_
    exact m_si hx hb hr hlk h dX3_trusts_45
  · rw [if_neg c_1] at h
    by_cases c_2 : (σ b 0) = 2
    · rw [if_pos c_2] at h
      refine lv_tableIn (off := 50) (tgt := 54) hx hb dX3_trusts_4 (by rw [c_2]; decide) (by rw [c_2]; decide) (by rw [c_2]; rfl) (by decide) ?_
      refine lv_iconst (v := 1) hx hb dX3_trusts_54 (by decide) ?_
      exact m_si hx hb hr hlk h dX3_trusts_55
    · rw [if_neg c_2] at h
      by_cases c_3 : (σ b 0) = 3
      · rw [if_pos c_3] at h
        refine lv_tableIn (off := 44) (tgt := 48) hx hb dX3_trusts_4 (by rw [c_3]; decide) (by rw [c_3]; decide) (by rw [c_3]; rfl) (by decide) ?_
        refine lv_iconst (v := 0) hx hb dX3_trusts_48 (by decide) ?_
        exact m_si hx hb hr hlk h dX3_trusts_49
      · rw [if_neg c_3] at h
        by_cases c_4 : (σ b 0) = 4
        · rw [if_pos c_4] at h
          refine lv_tableIn (off := 46) (tgt := 50) hx hb dX3_trusts_4 (by rw [c_4]; decide) (by rw [c_4]; decide) (by rw [c_4]; rfl) (by decide) ?_
          refine lv_iconst (v := 0) hx hb dX3_trusts_50 (by decide) ?_
          exact m_si hx hb hr hlk h dX3_trusts_51
        · rw [if_neg c_4] at h
          by_cases c_5 : (σ b 0) = 5
          · rw [if_pos c_5] at h
            refine lv_tableIn (off := 48) (tgt := 52) hx hb dX3_trusts_4 (by rw [c_5]; decide) (by rw [c_5]; decide) (by rw [c_5]; rfl) (by decide) ?_
            refine lv_iconst (v := 3) hx hb dX3_trusts_52 (by decide) ?_
            exact m_si hx hb hr hlk h dX3_trusts_53
          · rw [if_neg c_5] at h
            by_cases c_6 : (σ b 0) = 6
            · rw [if_pos c_6] at h
              refine lv_tableIn (off := 42) (tgt := 46) hx hb dX3_trusts_4 (by rw [c_6]; decide) (by rw [c_6]; decide) (by rw [c_6]; rfl) (by decide) ?_
              refine lv_iconst (v := 2) hx hb dX3_trusts_46 (by decide) ?_
              exact m_si hx hb hr hlk h dX3_trusts_47
            · rw [if_neg c_6] at h
              refine lv_tableOut (tgt := 54) hx hb dX3_trusts_4 (by have t0 := lv_neT c_1 (a := 1) rfl; have t1 := lv_neT c_2 (a := 2) rfl; have t2 := lv_neT c_3 (a := 3) rfl; have t3 := lv_neT c_4 (a := 4) rfl; have t4 := lv_neT c_5 (a := 5) rfl; have t5 := lv_neT c_6 (a := 6) rfl; omega) (by decide) ?_
              refine lv_iconst (v := 1) hx hb dX3_trusts_54 (by decide) ?_
              exact m_si hx hb hr hlk h dX3_trusts_55
def f_X5_noWatcher (x1 : Int32) (σ : Mem) : Int32 := f_X5_outside x1 ((σ 1 3) - 1)
theorem bz_X5_noWatcher (x1 : Int32) (σ : Mem) : f_X5_noWatcher x1 σ = 0 ∨ f_X5_noWatcher x1 σ = 1 := by
  unfold f_X5_noWatcher
  repeat' split
  all_goals first | exact Or.inl rfl | exact Or.inr rfl | exact (bz_X5_outside x1 ((σ 1 3) - 1))
set_option maxHeartbeats 4000000 in
set_option maxRecDepth 100000 in
theorem k_X5_noWatcher (l : Launch) (G : GG) (a : Nat → Nat) (σ : Mem) (hj : INJ nR a) (x1 : Int32) : Met l yX5_noWatcher (Cond.code yX5_noWatcher cX5_noWatcher 2 (some .boolean) :: TB) ({ frames := 1, cells := 0, slots := 0, locals := 21 } : Room) (PA G kR nR a σ [.ref (a 0), .int x1]) (SI (f_X5_noWatcher x1 σ)) 0 0 NF := by
  generalize h : f_X5_noWatcher x1 σ = q
  refine M_ofW (by decide) hj kR_lt (Nat.le_of_ble_eq_true rfl) (fun p e s m below meth c ls C0 hb hml hr hlk hP hS hl => ?_)
  have C0 : CT p s _ m RX5 G kR nR a := C0
  have hx := C0.1
  have hts := C0.2.1
  have hown := C0.2.2.1
  have hl : lv_has ls 2 [(0, .ref (a 0)), (1, .int x1)] := hl
  unfold f_X5_noWatcher at h
  refine lv_iload_n hx hb dX5_noWatcher_0 rfl (lv_at hl 1 rfl) ?_
  refine lv_aload_n hx hb dX5_noWatcher_1 rfl (lv_at hl 0 rfl) ?_
  refine gf_X5_12 (o := 0) (o2 := 1) C0 hb hP (rfl : kR 0 = 5) rfl dX5_noWatcher_2 ?_
  refine gf_X5_284 (o := 1) C0 hb hP (isV_k v1) dX5_noWatcher_5 ?_
  refine lv_iconst (v := 1) hx hb dX5_noWatcher_8 (by decide) ?_
  refine lv_isub hx hb dX5_noWatcher_9 ?_
  refine m_pSi (As := [.int x1, .int ((σ 1 3) - 1)]) (rest := []) C0.z hb hml hl.1 wm_X5_50 md_X5_outside (k_X5_outside l x1 ((σ 1 3) - 1)) rfl rfl ⟨(Nat.le_of_ble_eq_true rfl), (Nat.le_of_ble_eq_true rfl)⟩ rfl rfl (Nat.le_of_ble_eq_true rfl) dX5_noWatcher_10 ?_
  exact m_sz hx hb hr hlk (bz_X5_outside x1 ((σ 1 3) - 1)) h dX5_noWatcher_13
def f_X5_of (x1 : Int32) (x2 : Int32) (σ : Mem) : Option (Int32 × Mem) := (if (f_X5_noWatcher x1 σ) = 0 then (chk x1 8 (if x2 = 0 then some (σ (8 + x1.toNatClampNeg) 0, σ) else (if x2 = 1 then some (σ (8 + x1.toNatClampNeg) 1, σ) else (if x2 = 2 then some (σ (8 + x1.toNatClampNeg) 2, σ) else (if x2 = 3 then some (σ (8 + x1.toNatClampNeg) 3, σ) else (if x2 = 4 then some (σ (8 + x1.toNatClampNeg) 4, σ) else (if x2 = 5 then some (f_X3_bears (8 + x1.toNatClampNeg) σ, σ) else (if x2 = 6 then some (f_X3_doubts (8 + x1.toNatClampNeg) σ, σ) else (if x2 = 7 then some (f_X3_trusts (8 + x1.toNatClampNeg) σ, σ) else ((f_X5_finding (-1000001) σ).bind fun q_11 => some (q_11.1, q_11.2))))))))))) else ((f_X5_finding (-1000001) σ).bind fun q_13 => some (q_13.1, q_13.2)))
set_option maxHeartbeats 4000000 in
set_option maxRecDepth 100000 in
theorem k_X5_of (l : Launch) (G : GG) (a : Nat → Nat) (σ : Mem) (hj : INJ nR a) (x1 : Int32) (x2 : Int32) (q : Int32 × Mem) (h : f_X5_of x1 x2 σ = some q) : Met l yX5_of (Cond.code yX5_of cX5_of 4 (some .int) :: TB) ({ frames := 2, cells := 0, slots := 0, locals := 42 } : Room) (PA G kR nR a σ [.ref (a 0), .int x1, .int x2]) (QI G kR nR a q) 0 0 (AW nR a) := by
  refine M_ofW (by decide) hj kR_lt (Nat.le_of_ble_eq_true rfl) (fun p e s m below meth c ls C0 hb hml hr hlk hP hS hl => ?_)
  have C0 : CT p s _ m RX5 G kR nR a := C0
  have hx := C0.1
  have hts := C0.2.1
  have hown := C0.2.2.1
  have hl : lv_has ls 4 [(0, .ref (a 0)), (1, .int x1), (2, .int x2)] := hl
  unfold f_X5_of at h
  refine lv_aload_n hx hb dX5_of_0 rfl (lv_at hl 0 rfl) ?_
  refine lv_iload_n hx hb dX5_of_1 rfl (lv_at hl 1 rfl) ?_
  refine m_rVi (As := [.int x1]) (rest := []) (o := 0) (ci := 5) C0 hb hml hl.1 wm_X5_88 md_X5_noWatcher (k_X5_noWatcher l G a σ hj x1) rfl rfl ⟨(Nat.le_of_ble_eq_true rfl), (Nat.le_of_ble_eq_true rfl)⟩ hP hS (rfl : kR 0 = 5) (by decide) rfl rfl rfl (Nat.le_of_ble_eq_true rfl) dX5_of_2 ?_
  refine lv_if_eq (tgt := 15) hx hb dX5_of_5 (by decide) (fun (c_1 : (f_X5_noWatcher x1 σ) = 0) => ?_) (fun (c_1 : ¬ (f_X5_noWatcher x1 σ) = 0) => ?_)
  · rw [if_pos c_1] at h
    refine lv_aload_n hx hb dX5_of_15 rfl (lv_at hl 0 rfl) ?_
    refine gf_X5_12 (o := 0) (o2 := 1) C0 hb hP (rfl : kR 0 = 5) rfl dX5_of_16 ?_
    refine gf_X5_92 (o := 1) (o2 := 6) C0 hb hP (isV_k v1) rfl dX5_of_19 ?_
    refine lv_iload_n hx hb dX5_of_22 rfl (lv_at hl 1 rfl) ?_
    obtain ⟨hi_2, h⟩ := chk_s h
    refine m_aldW (o := 6) (i := x1) (o2 := (8 + x1.toNatClampNeg)) C0 hb hP (isV_a v1) hi_2 rfl dX5_of_23 ?_
    refine lv_astore_n (lv' := [(3, .ref (a (8 + x1.toNatClampNeg))), (0, .ref (a 0)), (1, .int x1), (2, .int x2)]) hx hb dX5_of_24 rfl hl (by decide) rfl (fun ls hl => ?_)
    refine lv_iload_n hx hb dX5_of_25 rfl (lv_at hl 3 rfl) ?_
    by_cases c_3 : x2 = 0
    · rw [if_pos c_3] at h
      refine lv_tableIn (off := 46) (tgt := 72) hx hb dX5_of_26 (by rw [c_3]; decide) (by rw [c_3]; decide) (by rw [c_3]; rfl) (by decide) ?_
      refine lv_aload_n hx hb dX5_of_72 rfl (lv_at hl 0 rfl) ?_
      refine gf_X5_96 (o := (8 + x1.toNatClampNeg)) C0 hb hP (isV_t v1 (vp_lt hi_2)) dX5_of_73 ?_
      exact m_ri hx hb hr hlk hP hS (Option.some.inj h) dX5_of_76
    · rw [if_neg c_3] at h
      by_cases c_4 : x2 = 1
      · rw [if_pos c_4] at h
        refine lv_tableIn (off := 51) (tgt := 77) hx hb dX5_of_26 (by rw [c_4]; decide) (by rw [c_4]; decide) (by rw [c_4]; rfl) (by decide) ?_
        refine lv_aload_n hx hb dX5_of_77 rfl (lv_at hl 0 rfl) ?_
        refine gf_X5_102 (o := (8 + x1.toNatClampNeg)) C0 hb hP (isV_t v1 (vp_lt hi_2)) dX5_of_78 ?_
        exact m_ri hx hb hr hlk hP hS (Option.some.inj h) dX5_of_81
      · rw [if_neg c_4] at h
        by_cases c_5 : x2 = 2
        · rw [if_pos c_5] at h
          refine lv_tableIn (off := 56) (tgt := 82) hx hb dX5_of_26 (by rw [c_5]; decide) (by rw [c_5]; decide) (by rw [c_5]; rfl) (by decide) ?_
          refine lv_aload_n hx hb dX5_of_82 rfl (lv_at hl 0 rfl) ?_
          refine gf_X5_105 (o := (8 + x1.toNatClampNeg)) C0 hb hP (isV_t v1 (vp_lt hi_2)) dX5_of_83 ?_
          exact m_ri hx hb hr hlk hP hS (Option.some.inj h) dX5_of_86
        · rw [if_neg c_5] at h
          by_cases c_6 : x2 = 3
          · rw [if_pos c_6] at h
            refine lv_tableIn (off := 61) (tgt := 87) hx hb dX5_of_26 (by rw [c_6]; decide) (by rw [c_6]; decide) (by rw [c_6]; rfl) (by decide) ?_
            refine lv_aload_n hx hb dX5_of_87 rfl (lv_at hl 0 rfl) ?_
            refine gf_X5_108 (o := (8 + x1.toNatClampNeg)) C0 hb hP (isV_t v1 (vp_lt hi_2)) dX5_of_88 ?_
            exact m_ri hx hb hr hlk hP hS (Option.some.inj h) dX5_of_91
          · rw [if_neg c_6] at h
            by_cases c_7 : x2 = 4
            · rw [if_pos c_7] at h
              refine lv_tableIn (off := 66) (tgt := 92) hx hb dX5_of_26 (by rw [c_7]; decide) (by rw [c_7]; decide) (by rw [c_7]; rfl) (by decide) ?_
              refine lv_aload_n hx hb dX5_of_92 rfl (lv_at hl 0 rfl) ?_
              refine gf_X5_111 (o := (8 + x1.toNatClampNeg)) C0 hb hP (isV_t v1 (vp_lt hi_2)) dX5_of_93 ?_
              exact m_ri hx hb hr hlk hP hS (Option.some.inj h) dX5_of_96
            · rw [if_neg c_7] at h
              by_cases c_8 : x2 = 5
              · rw [if_pos c_8] at h
                refine lv_tableIn (off := 71) (tgt := 97) hx hb dX5_of_26 (by rw [c_8]; decide) (by rw [c_8]; decide) (by rw [c_8]; rfl) (by decide) ?_
                refine lv_aload_n hx hb dX5_of_97 rfl (lv_at hl 0 rfl) ?_
                refine m_rVi (As := []) (rest := []) (o := (8 + x1.toNatClampNeg)) (ci := 3) C0 hb hml hl.1 wm_X5_114 md_X3_bears (k_X3_bears l G a σ hj (8 + x1.toNatClampNeg) (isV_t v1 (vp_lt hi_2))) rfl rfl ⟨(Nat.le_of_ble_eq_true rfl), (Nat.le_of_ble_eq_true rfl)⟩ hP hS (isV_t v1 (vp_lt hi_2)) (by decide) rfl rfl rfl (Nat.le_of_ble_eq_true rfl) dX5_of_98 ?_
                exact m_ri hx hb hr hlk hP hS (Option.some.inj h) dX5_of_101
              · rw [if_neg c_8] at h
                by_cases c_9 : x2 = 6
                · rw [if_pos c_9] at h
                  refine lv_tableIn (off := 76) (tgt := 102) hx hb dX5_of_26 (by rw [c_9]; decide) (by rw [c_9]; decide) (by rw [c_9]; rfl) (by decide) ?_
                  refine lv_aload_n hx hb dX5_of_102 rfl (lv_at hl 0 rfl) ?_
                  refine m_rVi (As := []) (rest := []) (o := (8 + x1.toNatClampNeg)) (ci := 3) C0 hb hml hl.1 wm_X5_117 md_X3_doubts (k_X3_doubts l G a σ hj (8 + x1.toNatClampNeg) (isV_t v1 (vp_lt hi_2))) rfl rfl ⟨(Nat.le_of_ble_eq_true rfl), (Nat.le_of_ble_eq_true rfl)⟩ hP hS (isV_t v1 (vp_lt hi_2)) (by decide) rfl rfl rfl (Nat.le_of_ble_eq_true rfl) dX5_of_103 ?_
                  exact m_ri hx hb hr hlk hP hS (Option.some.inj h) dX5_of_106
                · rw [if_neg c_9] at h
                  by_cases c_10 : x2 = 7
                  · rw [if_pos c_10] at h
                    refine lv_tableIn (off := 81) (tgt := 107) hx hb dX5_of_26 (by rw [c_10]; decide) (by rw [c_10]; decide) (by rw [c_10]; rfl) (by decide) ?_
                    refine lv_aload_n hx hb dX5_of_107 rfl (lv_at hl 0 rfl) ?_
                    refine m_rVi (As := []) (rest := []) (o := (8 + x1.toNatClampNeg)) (ci := 3) C0 hb hml hl.1 wm_X5_120 md_X3_trusts (k_X3_trusts l G a σ hj (8 + x1.toNatClampNeg) (isV_t v1 (vp_lt hi_2))) rfl rfl ⟨(Nat.le_of_ble_eq_true rfl), (Nat.le_of_ble_eq_true rfl)⟩ hP hS (isV_t v1 (vp_lt hi_2)) (by decide) rfl rfl rfl (Nat.le_of_ble_eq_true rfl) dX5_of_108 ?_
                    exact m_ri hx hb hr hlk hP hS (Option.some.inj h) dX5_of_111
                  · rw [if_neg c_10] at h
                    refine lv_tableOut (tgt := 112) hx hb dX5_of_26 (by have t0 := lv_neT c_3 (a := 0) rfl; have t1 := lv_neT c_4 (a := 1) rfl; have t2 := lv_neT c_5 (a := 2) rfl; have t3 := lv_neT c_6 (a := 3) rfl; have t4 := lv_neT c_7 (a := 4) rfl; have t5 := lv_neT c_8 (a := 5) rfl; have t6 := lv_neT c_9 (a := 6) rfl; have t7 := lv_neT c_10 (a := 7) rfl; omega) (by decide) ?_
                    refine lv_aload_n hx hb dX5_of_112 rfl (lv_at hl 1 rfl) ?_
                    refine lv_ldc hx hb hown (hts _ wk_X5_54) dX5_of_113 ?_
                    obtain ⟨q_11, hq_12, h⟩ := bd_s h
                    refine m_cVi (As := [.int (-1000001)]) (rest := []) (o := 0) (ci := 5) C0 hb hml hl.1 wm_X5_55 md_X5_finding (k_X5_finding l G a σ hj (-1000001) q_11 hq_12) rfl rfl ⟨(Nat.le_of_ble_eq_true rfl), (Nat.le_of_ble_eq_true rfl)⟩ hP hS (rfl : kR 0 = 5) (by decide) rfl rfl rfl (Nat.le_of_ble_eq_true rfl) dX5_of_115 (fun H locs hP hS => ?_)
                    exact m_ri hx hb hr hlk hP hS (Option.some.inj h) dX5_of_118
  · rw [if_neg c_1] at h
    refine lv_aload_n hx hb dX5_of_8 rfl (lv_at hl 0 rfl) ?_
    refine lv_ldc hx hb hown (hts _ wk_X5_54) dX5_of_9 ?_
    obtain ⟨q_13, hq_14, h⟩ := bd_s h
    refine m_cVi (As := [.int (-1000001)]) (rest := []) (o := 0) (ci := 5) C0 hb hml hl.1 wm_X5_55 md_X5_finding (k_X5_finding l G a σ hj (-1000001) q_13 hq_14) rfl rfl ⟨(Nat.le_of_ble_eq_true rfl), (Nat.le_of_ble_eq_true rfl)⟩ hP hS (rfl : kR 0 = 5) (by decide) rfl rfl rfl (Nat.le_of_ble_eq_true rfl) dX5_of_11 (fun H locs hP hS => ?_)
    exact m_ri hx hb hr hlk hP hS (Option.some.inj h) dX5_of_14
def f_X3_set (b : Nat) (x1 : Int32) (x2 : Int32) (σ : Mem) : Int32 × Mem := (if x1 = 0 then (σ b 0, mst σ b 0 x2) else (if x1 = 1 then (σ b 1, mst σ b 1 x2) else (if x1 = 2 then (σ b 2, mst σ b 2 x2) else (if x1 = 3 then (σ b 3, mst σ b 3 x2) else (σ b 4, mst σ b 4 x2)))))
set_option maxHeartbeats 4000000 in
set_option maxRecDepth 100000 in
theorem k_X3_set (l : Launch) (G : GG) (a : Nat → Nat) (σ : Mem) (hj : INJ nR a) (b : Nat) (hb0 : kR b = 3) (x1 : Int32) (x2 : Int32) : Met l yX3_set (Cond.code yX3_set cX3_set 4 (some .int) :: TB) ({ frames := 0, cells := 0, slots := 0, locals := 0 } : Room) (PA G kR nR a σ [.ref (a b), .int x1, .int x2]) (QI G kR nR a (f_X3_set b x1 x2 σ)) 0 0 (AW nR a) := by
  generalize h : f_X3_set b x1 x2 σ = q
  refine M_ofW (by decide) hj kR_lt (Nat.le_of_ble_eq_true rfl) (fun p e s m below meth c ls C0 hb hml hr hlk hP hS hl => ?_)
  have C0 : CT p s _ m RX3 G kR nR a := C0
  have hx := C0.1
  have hts := C0.2.1
  have hown := C0.2.2.1
  have hl : lv_has ls 4 [(0, .ref (a b)), (1, .int x1), (2, .int x2)] := hl
  unfold f_X3_set at h
  refine lv_iload_n hx hb dX3_set_0 rfl (lv_at hl 1 rfl) ?_
  by_cases c_1 : x1 = 0
  · rw [if_pos c_1] at h
    refine lv_tableIn (off := 31) (tgt := 32) hx hb dX3_set_1 (by rw [c_1]; decide) (by rw [c_1]; decide) (by rw [c_1]; rfl) (by decide) ?_
    refine lv_aload_n hx hb dX3_set_32 rfl (lv_at hl 0 rfl) ?_
    refine gf_X3_11 (o := b) C0 hb hP hb0 dX3_set_33 ?_
    refine lv_istore_n (lv' := [(3, .int (σ b 0)), (0, .ref (a b)), (1, .int x1), (2, .int x2)]) hx hb dX3_set_36 rfl hl (by decide) rfl (fun ls hl => ?_)
    refine lv_aload_n hx hb dX3_set_37 rfl (lv_at hl 1 rfl) ?_
    refine lv_iload_n hx hb dX3_set_38 rfl (lv_at hl 3 rfl) ?_
    refine pf_X3_11 (o := b) C0 hb hP hS hb0 dX3_set_39 (fun H locs hP hS => ?_)
    refine lv_iload_n hx hb dX3_set_42 rfl (lv_at hl 0 rfl) ?_
    exact m_ri hx hb hr hlk hP hS h dX3_set_43
  · rw [if_neg c_1] at h
    by_cases c_2 : x1 = 1
    · rw [if_pos c_2] at h
      refine lv_tableIn (off := 43) (tgt := 44) hx hb dX3_set_1 (by rw [c_2]; decide) (by rw [c_2]; decide) (by rw [c_2]; rfl) (by decide) ?_
      refine lv_aload_n hx hb dX3_set_44 rfl (lv_at hl 0 rfl) ?_
      refine gf_X3_15 (o := b) C0 hb hP hb0 dX3_set_45 ?_
      refine lv_istore_n (lv' := [(3, .int (σ b 1)), (0, .ref (a b)), (1, .int x1), (2, .int x2)]) hx hb dX3_set_48 rfl hl (by decide) rfl (fun ls hl => ?_)
      refine lv_aload_n hx hb dX3_set_49 rfl (lv_at hl 1 rfl) ?_
      refine lv_iload_n hx hb dX3_set_50 rfl (lv_at hl 3 rfl) ?_
      refine pf_X3_15 (o := b) C0 hb hP hS hb0 dX3_set_51 (fun H locs hP hS => ?_)
      refine lv_iload_n hx hb dX3_set_54 rfl (lv_at hl 0 rfl) ?_
      exact m_ri hx hb hr hlk hP hS h dX3_set_55
    · rw [if_neg c_2] at h
      by_cases c_3 : x1 = 2
      · rw [if_pos c_3] at h
        refine lv_tableIn (off := 55) (tgt := 56) hx hb dX3_set_1 (by rw [c_3]; decide) (by rw [c_3]; decide) (by rw [c_3]; rfl) (by decide) ?_
        refine lv_aload_n hx hb dX3_set_56 rfl (lv_at hl 0 rfl) ?_
        refine gf_X3_18 (o := b) C0 hb hP hb0 dX3_set_57 ?_
        refine lv_istore_n (lv' := [(3, .int (σ b 2)), (0, .ref (a b)), (1, .int x1), (2, .int x2)]) hx hb dX3_set_60 rfl hl (by decide) rfl (fun ls hl => ?_)
        refine lv_aload_n hx hb dX3_set_61 rfl (lv_at hl 1 rfl) ?_
        refine lv_iload_n hx hb dX3_set_62 rfl (lv_at hl 3 rfl) ?_
        refine pf_X3_18 (o := b) C0 hb hP hS hb0 dX3_set_63 (fun H locs hP hS => ?_)
        refine lv_iload_n hx hb dX3_set_66 rfl (lv_at hl 0 rfl) ?_
        exact m_ri hx hb hr hlk hP hS h dX3_set_67
      · rw [if_neg c_3] at h
        by_cases c_4 : x1 = 3
        · rw [if_pos c_4] at h
          refine lv_tableIn (off := 67) (tgt := 68) hx hb dX3_set_1 (by rw [c_4]; decide) (by rw [c_4]; decide) (by rw [c_4]; rfl) (by decide) ?_
          refine lv_aload_n hx hb dX3_set_68 rfl (lv_at hl 0 rfl) ?_
          refine gf_X3_21 (o := b) C0 hb hP hb0 dX3_set_69 ?_
          refine lv_istore_n (lv' := [(3, .int (σ b 3)), (0, .ref (a b)), (1, .int x1), (2, .int x2)]) hx hb dX3_set_72 rfl hl (by decide) rfl (fun ls hl => ?_)
          refine lv_aload_n hx hb dX3_set_73 rfl (lv_at hl 1 rfl) ?_
          refine lv_iload_n hx hb dX3_set_74 rfl (lv_at hl 3 rfl) ?_
          refine pf_X3_21 (o := b) C0 hb hP hS hb0 dX3_set_75 (fun H locs hP hS => ?_)
          refine lv_iload_n hx hb dX3_set_78 rfl (lv_at hl 0 rfl) ?_
          exact m_ri hx hb hr hlk hP hS h dX3_set_79
        · rw [if_neg c_4] at h
          refine lv_tableOut (tgt := 80) hx hb dX3_set_1 (by have t0 := lv_neT c_1 (a := 0) rfl; have t1 := lv_neT c_2 (a := 1) rfl; have t2 := lv_neT c_3 (a := 2) rfl; have t3 := lv_neT c_4 (a := 3) rfl; omega) (by decide) ?_
          refine lv_aload_n hx hb dX3_set_80 rfl (lv_at hl 0 rfl) ?_
          refine gf_X3_24 (o := b) C0 hb hP hb0 dX3_set_81 ?_
          refine lv_istore_n (lv' := [(3, .int (σ b 4)), (0, .ref (a b)), (1, .int x1), (2, .int x2)]) hx hb dX3_set_84 rfl hl (by decide) rfl (fun ls hl => ?_)
          refine lv_aload_n hx hb dX3_set_85 rfl (lv_at hl 1 rfl) ?_
          refine lv_iload_n hx hb dX3_set_86 rfl (lv_at hl 3 rfl) ?_
          refine pf_X3_24 (o := b) C0 hb hP hS hb0 dX3_set_87 (fun H locs hP hS => ?_)
          refine lv_iload_n hx hb dX3_set_90 rfl (lv_at hl 0 rfl) ?_
          exact m_ri hx hb hr hlk hP hS h dX3_set_91
def f_X5_change (x1 : Int32) (x2 : Int32) (x3 : Int32) (σ : Mem) : Option (Int32 × Mem) := (if (f_X5_noWatcher x1 σ) = 0 then (if (f_X5_outside x3 (f_X5_mostOf x2)) = 0 then (chk x1 8 (some ((f_X3_set (8 + x1.toNatClampNeg) x2 x3 σ).1, (f_X3_set (8 + x1.toNatClampNeg) x2 x3 σ).2))) else ((f_X5_finding (-1000001) σ).bind fun q_6 => some (q_6.1, q_6.2))) else ((f_X5_finding (-1000001) σ).bind fun q_2 => some (q_2.1, q_2.2)))
set_option maxHeartbeats 4000000 in
set_option maxRecDepth 100000 in
theorem k_X5_change (l : Launch) (G : GG) (a : Nat → Nat) (σ : Mem) (hj : INJ nR a) (x1 : Int32) (x2 : Int32) (x3 : Int32) (q : Int32 × Mem) (h : f_X5_change x1 x2 x3 σ = some q) : Met l yX5_change (Cond.code yX5_change cX5_change 4 (some .int) :: TB) ({ frames := 2, cells := 0, slots := 0, locals := 42 } : Room) (PA G kR nR a σ [.ref (a 0), .int x1, .int x2, .int x3]) (QI G kR nR a q) 0 0 (AW nR a) := by
  refine M_ofW (by decide) hj kR_lt (Nat.le_of_ble_eq_true rfl) (fun p e s m below meth c ls C0 hb hml hr hlk hP hS hl => ?_)
  have C0 : CT p s _ m RX5 G kR nR a := C0
  have hx := C0.1
  have hts := C0.2.1
  have hown := C0.2.2.1
  have hl : lv_has ls 4 [(0, .ref (a 0)), (1, .int x1), (2, .int x2), (3, .int x3)] := hl
  unfold f_X5_change at h
  refine lv_aload_n hx hb dX5_change_0 rfl (lv_at hl 0 rfl) ?_
  refine lv_iload_n hx hb dX5_change_1 rfl (lv_at hl 1 rfl) ?_
  refine m_rVi (As := [.int x1]) (rest := []) (o := 0) (ci := 5) C0 hb hml hl.1 wm_X5_88 md_X5_noWatcher (k_X5_noWatcher l G a σ hj x1) rfl rfl ⟨(Nat.le_of_ble_eq_true rfl), (Nat.le_of_ble_eq_true rfl)⟩ hP hS (rfl : kR 0 = 5) (by decide) rfl rfl rfl (Nat.le_of_ble_eq_true rfl) dX5_change_2 ?_
  refine lv_if_ne (tgt := 19) hx hb dX5_change_5 (by decide) (fun (c_1 : ¬ (f_X5_noWatcher x1 σ) = 0) => ?_) (fun (c_1 : (f_X5_noWatcher x1 σ) = 0) => ?_)
  · rw [if_neg c_1] at h
    refine lv_aload_n hx hb dX5_change_19 rfl (lv_at hl 0 rfl) ?_
    refine lv_ldc hx hb hown (hts _ wk_X5_54) dX5_change_20 ?_
    obtain ⟨q_2, hq_3, h⟩ := bd_s h
    refine m_cVi (As := [.int (-1000001)]) (rest := []) (o := 0) (ci := 5) C0 hb hml hl.1 wm_X5_55 md_X5_finding (k_X5_finding l G a σ hj (-1000001) q_2 hq_3) rfl rfl ⟨(Nat.le_of_ble_eq_true rfl), (Nat.le_of_ble_eq_true rfl)⟩ hP hS (rfl : kR 0 = 5) (by decide) rfl rfl rfl (Nat.le_of_ble_eq_true rfl) dX5_change_22 (fun H locs hP hS => ?_)
    exact m_ri hx hb hr hlk hP hS (Option.some.inj h) dX5_change_25
  · rw [if_pos c_1] at h
    refine lv_iload_n hx hb dX5_change_8 rfl (lv_at hl 3 rfl) ?_
    refine lv_iload_n hx hb dX5_change_9 rfl (lv_at hl 2 rfl) ?_
    refine m_pSi (As := [.int x2]) (rest := [.int x3]) C0.z hb hml hl.1 wm_X5_123 md_X5_mostOf (k_X5_mostOf l x2) rfl rfl ⟨(Nat.le_of_ble_eq_true rfl), (Nat.le_of_ble_eq_true rfl)⟩ rfl rfl (Nat.le_of_ble_eq_true rfl) dX5_change_10 ?_
    refine m_pSi (As := [.int x3, .int (f_X5_mostOf x2)]) (rest := []) C0.z hb hml hl.1 wm_X5_50 md_X5_outside (k_X5_outside l x3 (f_X5_mostOf x2)) rfl rfl ⟨(Nat.le_of_ble_eq_true rfl), (Nat.le_of_ble_eq_true rfl)⟩ rfl rfl (Nat.le_of_ble_eq_true rfl) dX5_change_13 ?_
    refine lv_if_eq (tgt := 26) hx hb dX5_change_16 (by decide) (fun (c_4 : (f_X5_outside x3 (f_X5_mostOf x2)) = 0) => ?_) (fun (c_4 : ¬ (f_X5_outside x3 (f_X5_mostOf x2)) = 0) => ?_)
    · rw [if_pos c_4] at h
      refine lv_aload_n hx hb dX5_change_26 rfl (lv_at hl 0 rfl) ?_
      refine gf_X5_12 (o := 0) (o2 := 1) C0 hb hP (rfl : kR 0 = 5) rfl dX5_change_27 ?_
      refine gf_X5_92 (o := 1) (o2 := 6) C0 hb hP (isV_k v1) rfl dX5_change_30 ?_
      refine lv_iload_n hx hb dX5_change_33 rfl (lv_at hl 1 rfl) ?_
      obtain ⟨hi_5, h⟩ := chk_s h
      refine m_aldW (o := 6) (i := x1) (o2 := (8 + x1.toNatClampNeg)) C0 hb hP (isV_a v1) hi_5 rfl dX5_change_34 ?_
      refine lv_iload_n hx hb dX5_change_35 rfl (lv_at hl 2 rfl) ?_
      refine lv_iload_n hx hb dX5_change_36 rfl (lv_at hl 3 rfl) ?_
      refine m_cVi (As := [.int x2, .int x3]) (rest := []) (o := (8 + x1.toNatClampNeg)) (ci := 3) C0 hb hml hl.1 wm_X5_126 md_X3_set (k_X3_set l G a σ hj (8 + x1.toNatClampNeg) (isV_t v1 (vp_lt hi_5)) x2 x3) rfl rfl ⟨(Nat.le_of_ble_eq_true rfl), (Nat.le_of_ble_eq_true rfl)⟩ hP hS (isV_t v1 (vp_lt hi_5)) (by decide) rfl rfl rfl (Nat.le_of_ble_eq_true rfl) dX5_change_37 (fun H locs hP hS => ?_)
      exact m_ri hx hb hr hlk hP hS (Option.some.inj h) dX5_change_40
    · rw [if_neg c_4] at h
      refine lv_aload_n hx hb dX5_change_19 rfl (lv_at hl 0 rfl) ?_
      refine lv_ldc hx hb hown (hts _ wk_X5_54) dX5_change_20 ?_
      obtain ⟨q_6, hq_7, h⟩ := bd_s h
      refine m_cVi (As := [.int (-1000001)]) (rest := []) (o := 0) (ci := 5) C0 hb hml hl.1 wm_X5_55 md_X5_finding (k_X5_finding l G a σ hj (-1000001) q_6 hq_7) rfl rfl ⟨(Nat.le_of_ble_eq_true rfl), (Nat.le_of_ble_eq_true rfl)⟩ hP hS (rfl : kR 0 = 5) (by decide) rfl rfl rfl (Nat.le_of_ble_eq_true rfl) dX5_change_22 (fun H locs hP hS => ?_)
      exact m_ri hx hb hr hlk hP hS (Option.some.inj h) dX5_change_25
def f_X3_knows (b : Nat) (σ : Mem) : Int32 := (if (σ b 3) = 0 then 1 else 0)
theorem bz_X3_knows (b : Nat) (σ : Mem) : f_X3_knows b σ = 0 ∨ f_X3_knows b σ = 1 := by
  unfold f_X3_knows
  repeat' split
  all_goals first | exact Or.inl rfl | exact Or.inr rfl
set_option maxHeartbeats 4000000 in
set_option maxRecDepth 100000 in
theorem k_X3_knows (l : Launch) (G : GG) (a : Nat → Nat) (σ : Mem) (hj : INJ nR a) (b : Nat) (hb0 : kR b = 3) : Met l yX3_knows (Cond.code yX3_knows cX3_knows 1 (some .boolean) :: TB) ({ frames := 0, cells := 0, slots := 0, locals := 0 } : Room) (PA G kR nR a σ [.ref (a b)]) (SI (f_X3_knows b σ)) 0 0 NF := by
  generalize h : f_X3_knows b σ = q
  refine M_ofW (by decide) hj kR_lt (Nat.le_of_ble_eq_true rfl) (fun p e s m below meth c ls C0 hb hml hr hlk hP hS hl => ?_)
  have C0 : CT p s _ m RX3 G kR nR a := C0
  have hx := C0.1
  have hts := C0.2.1
  have hown := C0.2.2.1
  have hl : lv_has ls 1 [(0, .ref (a b))] := hl
  unfold f_X3_knows at h
  refine lv_aload_n hx hb dX3_knows_0 rfl (lv_at hl 0 rfl) ?_
  refine gf_X3_21 (o := b) C0 hb hP hb0 dX3_knows_1 ?_
  refine lv_if_ne (tgt := 11) hx hb dX3_knows_4 (by decide) (fun (c_1 : ¬ (σ b 3) = 0) => ?_) (fun (c_1 : (σ b 3) = 0) => ?_)
  · rw [if_neg c_1] at h
    refine lv_iconst (v := 0) hx hb dX3_knows_11 (by decide) ?_
    exact m_sz hx hb hr hlk (Or.inl rfl) h dX3_knows_12
  · rw [if_pos c_1] at h
    refine lv_iconst (v := 1) hx hb dX3_knows_7 (by decide) ?_
    refine lv_goto (tgt := 12) hx hb dX3_knows_8 (by decide) ?_
    exact m_sz hx hb hr hlk (Or.inr rfl) h dX3_knows_12
def f_X2_knowing_J30 (x2_2 : Int32) (rec4 : Int32 → Int32 → Option (Int32)) (x1_5 : Int32) : Option (Int32) := (rec4 x1_5 (x2_2 + 1))
def f_X2_knowing_B4 (b : Nat) (σ : Mem) (rec4 : Int32 → Int32 → Option (Int32)) (x1_1 : Int32) (x2_2 : Int32) : Option (Int32) := (if (σ b 3) ≤ x2_2 then some x1_1 else (chk x2_2 8 (f_X2_knowing_J30 x2_2 rec4 (if (f_X3_knows (b + 7 + x2_2.toNatClampNeg) σ) = 0 then x1_1 else x1_1 ||| (1 <<< (x2_2 &&& 31))))))
def f_X2_knowing (b : Nat) (σ : Mem) : Option (Int32) := (it2 (f_X2_knowing_B4 b σ) FU 0 0)
set_option maxHeartbeats 4000000 in
set_option maxRecDepth 100000 in
theorem k_X2_knowing (l : Launch) (G : GG) (a : Nat → Nat) (σ : Mem) (hj : INJ nR a) (b : Nat) (hb0 : isV b) (q : Int32) (h : f_X2_knowing b σ = some q) : Met l yX2_knowing (Cond.code yX2_knowing cX2_knowing 3 (some .int) :: TB) ({ frames := 1, cells := 0, slots := 0, locals := 20 } : Room) (PA G kR nR a σ [.ref (a b)]) (SI q) 0 0 NF := by
  refine M_ofW (by decide) hj kR_lt (Nat.le_of_ble_eq_true rfl) (fun p e s m below meth c ls C0 hb hml hr hlk hP hS hl => ?_)
  have C0 : CT p s _ m RX2 G kR nR a := C0
  have hx := C0.1
  have hts := C0.2.1
  have hown := C0.2.2.1
  have hl : lv_has ls 3 [(0, .ref (a b))] := hl
  unfold f_X2_knowing at h
  refine lv_iconst (v := 0) hx hb dX2_knowing_0 (by decide) ?_
  refine lv_istore_n (lv' := [(1, .int 0), (0, .ref (a b))]) hx hb dX2_knowing_1 rfl hl (by decide) rfl (fun ls hl => ?_)
  refine lv_iconst (v := 0) hx hb dX2_knowing_2 (by decide) ?_
  refine lv_istore_n (lv' := [(2, .int 0), (1, .int 0), (0, .ref (a b))]) hx hb dX2_knowing_3 rfl hl (by decide) rfl (fun ls hl => ?_)
  have L_8 : ∀ (fu4 : Nat) (x1_1 : Int32) (x2_2 : Int32) (ls : Array Slot), it2 (f_X2_knowing_B4 b σ) fu4 x1_1 x2_2 = some q → lv_has ls 3 [(2, .int x2_2), (1, .int x1_1), (0, .ref (a b))] → W p l e ({ frames := 1, cells := 0, slots := 0, locals := 20 } : Room) s m ([.ref (a b)] : List Value).toArray below meth c s.heap [] 0 0 (MQ below (SI q) ([.ref (a b)] : List Value).toArray s 0 0 NF) (F0 m 4 ls []) := by
    intro fu4
    induction fu4 with
    | zero =>
      intro x1_1 x2_2 ls h
      cases h
    | succ fu4 ih4 =>
      intro x1_1 x2_2 ls h hl
      replace h : (f_X2_knowing_B4 b σ) (it2 (f_X2_knowing_B4 b σ) fu4) x1_1 x2_2 = some q := h
      generalize it2 (f_X2_knowing_B4 b σ) fu4 = rec4 at h ih4
      unfold f_X2_knowing_B4 at h
      refine lv_iload_n hx hb dX2_knowing_4 rfl (lv_at hl 0 rfl) ?_
      refine lv_aload_n hx hb dX2_knowing_5 rfl (lv_at hl 2 rfl) ?_
      refine gf_X2_28 (o := b) C0 hb hP (isV_k hb0) dX2_knowing_6 ?_
      refine lv_icmp_ge (tgt := 36) hx hb dX2_knowing_9 (by decide) (fun (c_3 : (σ b 3) ≤ x2_2) => ?_) (fun (c_3 : ¬ (σ b 3) ≤ x2_2) => ?_)
      · rw [if_pos c_3] at h
        refine lv_iload_n hx hb dX2_knowing_36 rfl (lv_at hl 1 rfl) ?_
        exact m_si hx hb hr hlk (Option.some.inj h) dX2_knowing_37
      · rw [if_neg c_3] at h
        refine lv_aload_n hx hb dX2_knowing_12 rfl (lv_at hl 2 rfl) ?_
        refine gf_X2_20 (o := b) (o2 := (b + 5)) C0 hb hP (isV_k hb0) rfl dX2_knowing_13 ?_
        refine lv_iload_n hx hb dX2_knowing_16 rfl (lv_at hl 0 rfl) ?_
        obtain ⟨hi_4, h⟩ := chk_s h
        refine m_aldW (o := (b + 5)) (i := x2_2) (o2 := (b + 7 + x2_2.toNatClampNeg)) C0 hb hP (isV_a hb0) hi_4 rfl dX2_knowing_17 ?_
        refine m_rVi (As := []) (rest := []) (o := (b + 7 + x2_2.toNatClampNeg)) (ci := 3) C0 hb hml hl.1 wm_X2_82 md_X3_knows (k_X3_knows l G a σ hj (b + 7 + x2_2.toNatClampNeg) (isV_t hb0 (vp_lt hi_4))) rfl rfl ⟨(Nat.le_of_ble_eq_true rfl), (Nat.le_of_ble_eq_true rfl)⟩ hP hS (isV_t hb0 (vp_lt hi_4)) (by decide) rfl rfl rfl (Nat.le_of_ble_eq_true rfl) dX2_knowing_18 ?_
        have J_6 : ∀ (x1_5 : Int32) (ls : Array Slot), f_X2_knowing_J30 x2_2 rec4 x1_5 = some q → lv_has ls 3 [(2, .int x2_2), (1, .int x1_5), (0, .ref (a b))] → W p l e ({ frames := 1, cells := 0, slots := 0, locals := 20 } : Room) s m ([.ref (a b)] : List Value).toArray below meth c s.heap [] 0 0 (MQ below (SI q) ([.ref (a b)] : List Value).toArray s 0 0 NF) (F0 m 30 ls []) := by
          intro x1_5 ls h hl
          unfold f_X2_knowing_J30 at h
          refine lv_iinc (v := x2_2 + 1) (lv' := [(2, .int (x2_2 + 1)), (1, .int x1_5), (0, .ref (a b))]) hx hb dX2_knowing_30 hl (k := 0) rfl rfl (by decide) rfl (fun ls hl => ?_)
          refine lv_goto (tgt := 4) hx hb dX2_knowing_33 (by decide) ?_
          exact ih4 x1_5 (x2_2 + 1) _ h (lv_sub hl [0, 1, 2] rfl)
        refine lv_if_eq (tgt := 30) hx hb dX2_knowing_21 (by decide) (fun (c_7 : (f_X3_knows (b + 7 + x2_2.toNatClampNeg) σ) = 0) => ?_) (fun (c_7 : ¬ (f_X3_knows (b + 7 + x2_2.toNatClampNeg) σ) = 0) => ?_)
        · rw [if_pos c_7] at h
          exact J_6 x1_1 _ h (lv_sub hl [0, 1, 2] rfl)
        · rw [if_neg c_7] at h
          refine lv_iload_n hx hb dX2_knowing_24 rfl (lv_at hl 1 rfl) ?_
          refine lv_iconst (v := 1) hx hb dX2_knowing_25 (by decide) ?_
          refine lv_iload_n hx hb dX2_knowing_26 rfl (lv_at hl 0 rfl) ?_
          refine lv_ishl hx hb dX2_knowing_27 ?_
          refine lv_ior hx hb dX2_knowing_28 ?_
          refine lv_istore_n (lv' := [(1, .int (x1_1 ||| (1 <<< (x2_2 &&& 31)))), (2, .int x2_2), (0, .ref (a b))]) hx hb dX2_knowing_29 rfl hl (by decide) rfl (fun ls hl => ?_)
          exact J_6 (x1_1 ||| (1 <<< (x2_2 &&& 31))) _ h (lv_sub hl [1, 0, 2] rfl)
  exact L_8 FU 0 0 _ h (lv_sub hl [0, 1, 2] rfl)
def f_X3_lacks (b : Nat) (x1 : Int32) (σ : Mem) : Int32 := (if (σ b 2) ≤ x1 then 0 else 1)
theorem bz_X3_lacks (b : Nat) (x1 : Int32) (σ : Mem) : f_X3_lacks b x1 σ = 0 ∨ f_X3_lacks b x1 σ = 1 := by
  unfold f_X3_lacks
  repeat' split
  all_goals first | exact Or.inl rfl | exact Or.inr rfl
set_option maxHeartbeats 4000000 in
set_option maxRecDepth 100000 in
theorem k_X3_lacks (l : Launch) (G : GG) (a : Nat → Nat) (σ : Mem) (hj : INJ nR a) (b : Nat) (hb0 : kR b = 3) (x1 : Int32) : Met l yX3_lacks (Cond.code yX3_lacks cX3_lacks 2 (some .boolean) :: TB) ({ frames := 0, cells := 0, slots := 0, locals := 0 } : Room) (PA G kR nR a σ [.ref (a b), .int x1]) (SI (f_X3_lacks b x1 σ)) 0 0 NF := by
  generalize h : f_X3_lacks b x1 σ = q
  refine M_ofW (by decide) hj kR_lt (Nat.le_of_ble_eq_true rfl) (fun p e s m below meth c ls C0 hb hml hr hlk hP hS hl => ?_)
  have C0 : CT p s _ m RX3 G kR nR a := C0
  have hx := C0.1
  have hts := C0.2.1
  have hown := C0.2.2.1
  have hl : lv_has ls 2 [(0, .ref (a b)), (1, .int x1)] := hl
  unfold f_X3_lacks at h
  refine lv_iload_n hx hb dX3_lacks_0 rfl (lv_at hl 1 rfl) ?_
  refine lv_aload_n hx hb dX3_lacks_1 rfl (lv_at hl 0 rfl) ?_
  refine gf_X3_18 (o := b) C0 hb hP hb0 dX3_lacks_2 ?_
  refine lv_icmp_ge (tgt := 12) hx hb dX3_lacks_5 (by decide) (fun (c_1 : (σ b 2) ≤ x1) => ?_) (fun (c_1 : ¬ (σ b 2) ≤ x1) => ?_)
  · rw [if_pos c_1] at h
    refine lv_iconst (v := 0) hx hb dX3_lacks_12 (by decide) ?_
    exact m_sz hx hb hr hlk (Or.inl rfl) h dX3_lacks_13
  · rw [if_neg c_1] at h
    refine lv_iconst (v := 1) hx hb dX3_lacks_8 (by decide) ?_
    refine lv_goto (tgt := 13) hx hb dX3_lacks_9 (by decide) ?_
    exact m_sz hx hb hr hlk (Or.inr rfl) h dX3_lacks_13
def f_X3_live_J66 (b : Nat) (x2 : Int32) (σ_1 : Mem) : Mem := (if (f_X3_lacks b x2 σ_1) = 0 then σ_1 else mst σ_1 b 4 (jmin 9999 ((σ_1 b 4) + 1)))
def f_X3_live (b : Nat) (x1 : Int32) (x2 : Int32) (σ : Mem) : Mem := (f_X3_live_J66 b x2 (if (f_X3_knows b σ) = 0 then (if (jabs (x2 - x1)) ≤ (f_X3_bears b σ) then (if (f_X3_lacks b x2 σ) = 0 then mst σ b 3 (jmin 99 ((σ b 3) + (f_X3_trusts b σ))) else σ) else mst σ b 3 (jmax 0 ((σ b 3) - (f_X3_doubts b σ)))) else σ))
set_option maxHeartbeats 4000000 in
set_option maxRecDepth 100000 in
theorem k_X3_live (l : Launch) (G : GG) (a : Nat → Nat) (σ : Mem) (hj : INJ nR a) (b : Nat) (hb0 : kR b = 3) (x1 : Int32) (x2 : Int32) : Met l yX3_live (Cond.code yX3_live cX3_live 3 none :: TB) ({ frames := 2, cells := 0, slots := 0, locals := 40 } : Room) (PA G kR nR a σ [.ref (a b), .int x1, .int x2]) (QV G kR nR a (f_X3_live b x1 x2 σ)) 0 0 (AW nR a) := by
  generalize h : f_X3_live b x1 x2 σ = q
  refine M_ofW (by decide) hj kR_lt (Nat.le_of_ble_eq_true rfl) (fun p e s m below meth c ls C0 hb hml hr hlk hP hS hl => ?_)
  have C0 : CT p s _ m RX3 G kR nR a := C0
  have hx := C0.1
  have hts := C0.2.1
  have hown := C0.2.2.1
  have hl : lv_has ls 3 [(0, .ref (a b)), (1, .int x1), (2, .int x2)] := hl
  unfold f_X3_live at h
  refine lv_aload_n hx hb dX3_live_0 rfl (lv_at hl 0 rfl) ?_
  refine m_rVi (As := []) (rest := []) (o := b) (ci := 3) C0 hb hml hl.1 wm_X3_27 md_X3_knows (k_X3_knows l G a σ hj b hb0) rfl rfl ⟨(Nat.le_of_ble_eq_true rfl), (Nat.le_of_ble_eq_true rfl)⟩ hP hS hb0 (by decide) rfl rfl rfl (Nat.le_of_ble_eq_true rfl) dX3_live_1 ?_
  have J_3 : ∀ (σ_1 : Mem) (H : Heap) (locs : List Loc) (ls : Array Slot), f_X3_live_J66 b x2 σ_1 = q → HP G kR nR a σ_1 H → va_S (AW nR a) s.heap H locs → lv_has ls 3 [(0, .ref (a b)), (2, .int x2)] → W p l e ({ frames := 2, cells := 0, slots := 0, locals := 40 } : Room) s m ([.ref (a b), .int x1, .int x2] : List Value).toArray below meth c H locs 0 0 (MQ below (QV G kR nR a q) ([.ref (a b), .int x1, .int x2] : List Value).toArray s 0 0 (AW nR a)) (F0 m 66 ls []) := by
    intro σ_1 H locs ls h hP hS hl
    unfold f_X3_live_J66 at h
    refine lv_aload_n hx hb dX3_live_66 rfl (lv_at hl 0 rfl) ?_
    refine lv_iload_n hx hb dX3_live_67 rfl (lv_at hl 1 rfl) ?_
    refine m_rVi (As := [.int x2]) (rest := []) (o := b) (ci := 3) C0 hb hml hl.1 wm_X3_48 md_X3_lacks (k_X3_lacks l G a σ_1 hj b hb0 x2) rfl rfl ⟨(Nat.le_of_ble_eq_true rfl), (Nat.le_of_ble_eq_true rfl)⟩ hP hS hb0 (by decide) rfl rfl rfl (Nat.le_of_ble_eq_true rfl) dX3_live_68 ?_
    refine lv_if_eq (tgt := 90) hx hb dX3_live_71 (by decide) (fun (c_2 : (f_X3_lacks b x2 σ_1) = 0) => ?_) (fun (c_2 : ¬ (f_X3_lacks b x2 σ_1) = 0) => ?_)
    · rw [if_pos c_2] at h
      exact m_rv hx hb hr hlk hP hS h dX3_live_90
    · rw [if_neg c_2] at h
      refine lv_aload_n hx hb dX3_live_74 rfl (lv_at hl 0 rfl) ?_
      refine lv_sipush (v := 9999) hx hb dX3_live_75 (by decide) ?_
      refine lv_aload_n hx hb dX3_live_78 rfl (lv_at hl 0 rfl) ?_
      refine gf_X3_24 (o := b) C0 hb hP hb0 dX3_live_79 ?_
      refine lv_iconst (v := 1) hx hb dX3_live_82 (by decide) ?_
      refine lv_iadd hx hb dX3_live_83 ?_
      refine m_min (rest := [.ref (a b)]) C0 hb hml hl.1 wm_X3_55 (Nat.le_of_ble_eq_true rfl) (Nat.le_of_ble_eq_true rfl) (Nat.zero_le _) (Nat.zero_le _) dX3_live_84 ?_
      refine pf_X3_24 (o := b) C0 hb hP hS hb0 dX3_live_87 (fun H locs hP hS => ?_)
      exact m_rv hx hb hr hlk hP hS h dX3_live_90
  refine lv_if_ne (tgt := 66) hx hb dX3_live_4 (by decide) (fun (c_4 : ¬ (f_X3_knows b σ) = 0) => ?_) (fun (c_4 : (f_X3_knows b σ) = 0) => ?_)
  · rw [if_neg c_4] at h
    exact J_3 σ _ _ _ h hP hS (lv_sub hl [0, 2] rfl)
  · rw [if_pos c_4] at h
    refine lv_iload_n hx hb dX3_live_7 rfl (lv_at hl 2 rfl) ?_
    refine lv_iload_n hx hb dX3_live_8 rfl (lv_at hl 1 rfl) ?_
    refine lv_isub hx hb dX3_live_9 ?_
    refine m_abs (rest := []) C0 hb hml hl.1 wm_X3_31 (Nat.le_of_ble_eq_true rfl) (Nat.le_of_ble_eq_true rfl) (Nat.zero_le _) (Nat.zero_le _) dX3_live_10 ?_
    refine lv_aload_n hx hb dX3_live_13 rfl (lv_at hl 0 rfl) ?_
    refine m_rVi (As := []) (rest := [.int (jabs (x2 - x1))]) (o := b) (ci := 3) C0 hb hml hl.1 wm_X3_37 md_X3_bears (k_X3_bears l G a σ hj b hb0) rfl rfl ⟨(Nat.le_of_ble_eq_true rfl), (Nat.le_of_ble_eq_true rfl)⟩ hP hS hb0 (by decide) rfl rfl rfl (Nat.le_of_ble_eq_true rfl) dX3_live_14 ?_
    refine lv_icmp_le (tgt := 40) hx hb dX3_live_17 (by decide) (fun (c_5 : (jabs (x2 - x1)) ≤ (f_X3_bears b σ)) => ?_) (fun (c_5 : ¬ (jabs (x2 - x1)) ≤ (f_X3_bears b σ)) => ?_)
    · rw [if_pos c_5] at h
      refine lv_aload_n hx hb dX3_live_40 rfl (lv_at hl 0 rfl) ?_
      refine lv_iload_n hx hb dX3_live_41 rfl (lv_at hl 2 rfl) ?_
      refine m_rVi (As := [.int x2]) (rest := []) (o := b) (ci := 3) C0 hb hml hl.1 wm_X3_48 md_X3_lacks (k_X3_lacks l G a σ hj b hb0 x2) rfl rfl ⟨(Nat.le_of_ble_eq_true rfl), (Nat.le_of_ble_eq_true rfl)⟩ hP hS hb0 (by decide) rfl rfl rfl (Nat.le_of_ble_eq_true rfl) dX3_live_42 ?_
      refine lv_if_ne (tgt := 66) hx hb dX3_live_45 (by decide) (fun (c_6 : ¬ (f_X3_lacks b x2 σ) = 0) => ?_) (fun (c_6 : (f_X3_lacks b x2 σ) = 0) => ?_)
      · rw [if_neg c_6] at h
        exact J_3 σ _ _ _ h hP hS (lv_sub hl [0, 2] rfl)
      · rw [if_pos c_6] at h
        refine lv_aload_n hx hb dX3_live_48 rfl (lv_at hl 0 rfl) ?_
        refine lv_bipush (v := 99) hx hb dX3_live_49 (by decide) ?_
        refine lv_aload_n hx hb dX3_live_51 rfl (lv_at hl 0 rfl) ?_
        refine gf_X3_21 (o := b) C0 hb hP hb0 dX3_live_52 ?_
        refine lv_aload_n hx hb dX3_live_55 rfl (lv_at hl 0 rfl) ?_
        refine m_rVi (As := []) (rest := [.int (σ b 3), .int 99, .ref (a b)]) (o := b) (ci := 3) C0 hb hml hl.1 wm_X3_52 md_X3_trusts (k_X3_trusts l G a σ hj b hb0) rfl rfl ⟨(Nat.le_of_ble_eq_true rfl), (Nat.le_of_ble_eq_true rfl)⟩ hP hS hb0 (by decide) rfl rfl rfl (Nat.le_of_ble_eq_true rfl) dX3_live_56 ?_
        refine lv_iadd hx hb dX3_live_59 ?_
        refine m_min (rest := [.ref (a b)]) C0 hb hml hl.1 wm_X3_55 (Nat.le_of_ble_eq_true rfl) (Nat.le_of_ble_eq_true rfl) (Nat.zero_le _) (Nat.zero_le _) dX3_live_60 ?_
        refine pf_X3_21 (o := b) C0 hb hP hS hb0 dX3_live_63 (fun H locs hP hS => ?_)
        exact J_3 (mst σ b 3 (jmin 99 ((σ b 3) + (f_X3_trusts b σ)))) _ _ _ h hP hS (lv_sub hl [0, 2] rfl)
    · rw [if_neg c_5] at h
      refine lv_aload_n hx hb dX3_live_20 rfl (lv_at hl 0 rfl) ?_
      refine lv_iconst (v := 0) hx hb dX3_live_21 (by decide) ?_
      refine lv_aload_n hx hb dX3_live_22 rfl (lv_at hl 0 rfl) ?_
      refine gf_X3_21 (o := b) C0 hb hP hb0 dX3_live_23 ?_
      refine lv_aload_n hx hb dX3_live_26 rfl (lv_at hl 0 rfl) ?_
      refine m_rVi (As := []) (rest := [.int (σ b 3), .int 0, .ref (a b)]) (o := b) (ci := 3) C0 hb hml hl.1 wm_X3_41 md_X3_doubts (k_X3_doubts l G a σ hj b hb0) rfl rfl ⟨(Nat.le_of_ble_eq_true rfl), (Nat.le_of_ble_eq_true rfl)⟩ hP hS hb0 (by decide) rfl rfl rfl (Nat.le_of_ble_eq_true rfl) dX3_live_27 ?_
      refine lv_isub hx hb dX3_live_30 ?_
      refine m_max (rest := [.ref (a b)]) C0 hb hml hl.1 wm_X3_44 (Nat.le_of_ble_eq_true rfl) (Nat.le_of_ble_eq_true rfl) (Nat.zero_le _) (Nat.zero_le _) dX3_live_31 ?_
      refine pf_X3_21 (o := b) C0 hb hP hS hb0 dX3_live_34 (fun H locs hP hS => ?_)
      refine lv_goto (tgt := 66) hx hb dX3_live_37 (by decide) ?_
      exact J_3 (mst σ b 3 (jmax 0 ((σ b 3) - (f_X3_doubts b σ)))) _ _ _ h hP hS (lv_sub hl [0, 2] rfl)
def f_X2_liveAll_B2 (b : Nat) (rec2 : Int32 → Mem → Option (Mem)) (x1_1 : Int32) (σ_2 : Mem) : Option (Mem) := (if (σ_2 b 3) ≤ x1_1 then some σ_2 else (chk x1_1 8 (chk (σ_2 (b + 7 + x1_1.toNatClampNeg) 1) 12 (chk (σ_2 (b + 7 + x1_1.toNatClampNeg) 1) 12 (rec2 (x1_1 + 1) (f_X3_live (b + 7 + x1_1.toNatClampNeg) (σ_2 (b + 3) ((σ_2 (b + 7 + x1_1.toNatClampNeg) 1).toNatClampNeg)) (σ_2 (b + 2) ((σ_2 (b + 7 + x1_1.toNatClampNeg) 1).toNatClampNeg)) σ_2))))))
def f_X2_liveAll (b : Nat) (σ : Mem) : Option (Mem) := (it2 (f_X2_liveAll_B2 b) FU 0 σ)
set_option maxHeartbeats 4000000 in
set_option maxRecDepth 100000 in
theorem k_X2_liveAll (l : Launch) (G : GG) (a : Nat → Nat) (σ : Mem) (hj : INJ nR a) (b : Nat) (hb0 : isV b) (q : Mem) (h : f_X2_liveAll b σ = some q) : Met l yX2_liveAll (Cond.code yX2_liveAll cX2_liveAll 3 none :: TB) ({ frames := 3, cells := 0, slots := 0, locals := 62 } : Room) (PA G kR nR a σ [.ref (a b)]) (QV G kR nR a q) 0 0 (AW nR a) := by
  refine M_ofW (by decide) hj kR_lt (Nat.le_of_ble_eq_true rfl) (fun p e s m below meth c ls C0 hb hml hr hlk hP hS hl => ?_)
  have C0 : CT p s _ m RX2 G kR nR a := C0
  have hx := C0.1
  have hts := C0.2.1
  have hown := C0.2.2.1
  have hl : lv_has ls 3 [(0, .ref (a b))] := hl
  unfold f_X2_liveAll at h
  refine lv_iconst (v := 0) hx hb dX2_liveAll_0 (by decide) ?_
  refine lv_istore_n (lv' := [(1, .int 0), (0, .ref (a b))]) hx hb dX2_liveAll_1 rfl hl (by decide) rfl (fun ls hl => ?_)
  have L_7 : ∀ (fu2 : Nat) (x1_1 : Int32) (σ_2 : Mem) (H : Heap) (locs : List Loc) (ls : Array Slot), it2 (f_X2_liveAll_B2 b) fu2 x1_1 σ_2 = some q → HP G kR nR a σ_2 H → va_S (AW nR a) s.heap H locs → lv_has ls 3 [(1, .int x1_1), (0, .ref (a b))] → W p l e ({ frames := 3, cells := 0, slots := 0, locals := 62 } : Room) s m ([.ref (a b)] : List Value).toArray below meth c H locs 0 0 (MQ below (QV G kR nR a q) ([.ref (a b)] : List Value).toArray s 0 0 (AW nR a)) (F0 m 2 ls []) := by
    intro fu2
    induction fu2 with
    | zero =>
      intro x1_1 σ_2 H locs ls h
      cases h
    | succ fu2 ih2 =>
      intro x1_1 σ_2 H locs ls h hP hS hl
      replace h : (f_X2_liveAll_B2 b) (it2 (f_X2_liveAll_B2 b) fu2) x1_1 σ_2 = some q := h
      generalize it2 (f_X2_liveAll_B2 b) fu2 = rec2 at h ih2
      unfold f_X2_liveAll_B2 at h
      refine lv_iload_n hx hb dX2_liveAll_2 rfl (lv_at hl 0 rfl) ?_
      refine lv_aload_n hx hb dX2_liveAll_3 rfl (lv_at hl 1 rfl) ?_
      refine gf_X2_28 (o := b) C0 hb hP (isV_k hb0) dX2_liveAll_4 ?_
      refine lv_icmp_ge (tgt := 51) hx hb dX2_liveAll_7 (by decide) (fun (c_3 : (σ_2 b 3) ≤ x1_1) => ?_) (fun (c_3 : ¬ (σ_2 b 3) ≤ x1_1) => ?_)
      · rw [if_pos c_3] at h
        exact m_rv hx hb hr hlk hP hS (Option.some.inj h) dX2_liveAll_51
      · rw [if_neg c_3] at h
        refine lv_aload_n hx hb dX2_liveAll_10 rfl (lv_at hl 1 rfl) ?_
        refine gf_X2_20 (o := b) (o2 := (b + 5)) C0 hb hP (isV_k hb0) rfl dX2_liveAll_11 ?_
        refine lv_iload_n hx hb dX2_liveAll_14 rfl (lv_at hl 0 rfl) ?_
        obtain ⟨hi_4, h⟩ := chk_s h
        refine m_aldW (o := (b + 5)) (i := x1_1) (o2 := (b + 7 + x1_1.toNatClampNeg)) C0 hb hP (isV_a hb0) hi_4 rfl dX2_liveAll_15 ?_
        refine lv_astore_n (lv' := [(2, .ref (a (b + 7 + x1_1.toNatClampNeg))), (1, .int x1_1), (0, .ref (a b))]) hx hb dX2_liveAll_16 rfl hl (by decide) rfl (fun ls hl => ?_)
        refine lv_aload_n hx hb dX2_liveAll_17 rfl (lv_at hl 0 rfl) ?_
        refine lv_aload_n hx hb dX2_liveAll_18 rfl (lv_at hl 2 rfl) ?_
        refine gf_X2_12 (o := b) (o2 := (b + 1)) C0 hb hP (isV_k hb0) rfl dX2_liveAll_19 ?_
        refine gf_X2_63 (o := (b + 1)) (o2 := (b + 3)) C0 hb hP (isW_k (isV_w hb0)) rfl dX2_liveAll_22 ?_
        refine lv_aload_n hx hb dX2_liveAll_25 rfl (lv_at hl 0 rfl) ?_
        refine gf_X2_66 (o := (b + 7 + x1_1.toNatClampNeg)) C0 hb hP (isV_t hb0 (vp_lt hi_4)) dX2_liveAll_26 ?_
        obtain ⟨hi_5, h⟩ := chk_s h
        refine m_iald (o := (b + 3)) (N := 12) (i := σ_2 (b + 7 + x1_1.toNatClampNeg) 1) (j := (σ_2 (b + 7 + x1_1.toNatClampNeg) 1).toNatClampNeg) C0 hb hP (isW_2 (isV_w hb0)) (by decide) hi_5 rfl dX2_liveAll_29 ?_
        refine lv_aload_n hx hb dX2_liveAll_30 rfl (lv_at hl 2 rfl) ?_
        refine gf_X2_12 (o := b) (o2 := (b + 1)) C0 hb hP (isV_k hb0) rfl dX2_liveAll_31 ?_
        refine gf_X2_69 (o := (b + 1)) (o2 := (b + 2)) C0 hb hP (isW_k (isV_w hb0)) rfl dX2_liveAll_34 ?_
        refine lv_aload_n hx hb dX2_liveAll_37 rfl (lv_at hl 0 rfl) ?_
        refine gf_X2_66 (o := (b + 7 + x1_1.toNatClampNeg)) C0 hb hP (isV_t hb0 (vp_lt hi_4)) dX2_liveAll_38 ?_
        obtain ⟨hi_6, h⟩ := chk_s h
        refine m_iald (o := (b + 2)) (N := 12) (i := σ_2 (b + 7 + x1_1.toNatClampNeg) 1) (j := (σ_2 (b + 7 + x1_1.toNatClampNeg) 1).toNatClampNeg) C0 hb hP (isW_1 (isV_w hb0)) (by decide) hi_6 rfl dX2_liveAll_41 ?_
        refine m_cVv (As := [.int (σ_2 (b + 3) ((σ_2 (b + 7 + x1_1.toNatClampNeg) 1).toNatClampNeg)), .int (σ_2 (b + 2) ((σ_2 (b + 7 + x1_1.toNatClampNeg) 1).toNatClampNeg))]) (rest := []) (o := (b + 7 + x1_1.toNatClampNeg)) (ci := 3) C0 hb hml hl.1 wm_X2_72 md_X3_live (k_X3_live l G a σ_2 hj (b + 7 + x1_1.toNatClampNeg) (isV_t hb0 (vp_lt hi_4)) (σ_2 (b + 3) ((σ_2 (b + 7 + x1_1.toNatClampNeg) 1).toNatClampNeg)) (σ_2 (b + 2) ((σ_2 (b + 7 + x1_1.toNatClampNeg) 1).toNatClampNeg))) rfl rfl ⟨(Nat.le_of_ble_eq_true rfl), (Nat.le_of_ble_eq_true rfl)⟩ hP hS (isV_t hb0 (vp_lt hi_4)) (by decide) rfl rfl rfl (Nat.le_of_ble_eq_true rfl) dX2_liveAll_42 (fun H locs hP hS => ?_)
        refine lv_iinc (v := x1_1 + 1) (lv' := [(1, .int (x1_1 + 1)), (2, .ref (a (b + 7 + x1_1.toNatClampNeg))), (0, .ref (a b))]) hx hb dX2_liveAll_45 hl (k := 1) rfl rfl (by decide) rfl (fun ls hl => ?_)
        refine lv_goto (tgt := 2) hx hb dX2_liveAll_48 (by decide) ?_
        exact ih2 (x1_1 + 1) (f_X3_live (b + 7 + x1_1.toNatClampNeg) (σ_2 (b + 3) ((σ_2 (b + 7 + x1_1.toNatClampNeg) 1).toNatClampNeg)) (σ_2 (b + 2) ((σ_2 (b + 7 + x1_1.toNatClampNeg) 1).toNatClampNeg)) σ_2) _ _ _ h hP hS (lv_sub hl [0, 2] rfl)
  exact L_7 FU 0 σ _ _ _ h hP hS (lv_sub hl [0, 1] rfl)
def f_X4_flow_J64 (b : Nat) (x2_1 : Int32) (σ_2 : Mem) (rec40 : Int32 → Mem → Option (Mem)) (t_4 : Int32) : Option (Mem) := (chk x2_1 12 (chk x2_1 12 (chk x2_1 12 (rec40 (x2_1 + 1) (mst σ_2 (b + 1) x2_1.toNatClampNeg (jmin 9999 (((σ_2 (b + 2) x2_1.toNatClampNeg) - ((σ_2 (b + 2) x2_1.toNatClampNeg) / 2)) + t_4)))))))
def f_X4_flow_B40 (b : Nat) (x1 : Int32) (rec40 : Int32 → Mem → Option (Mem)) (x2_1 : Int32) (σ_2 : Mem) : Option (Mem) := (if 12 ≤ x2_1 then some (mst σ_2 b 4 (jmin 99999 ((σ_2 b 4) + 1))) else (if x2_1 = 0 then (f_X4_flow_J64 b x2_1 σ_2 rec40 x1) else (chk (x2_1 - 1) 12 (f_X4_flow_J64 b x2_1 σ_2 rec40 ((σ_2 (b + 2) ((x2_1 - 1).toNatClampNeg)) / 2)))))
def f_X4_flow (b : Nat) (x1 : Int32) (σ : Mem) : Option (Mem) := (it2 (f_X4_flow_B40 b x1) FU 0 (mst (mcp σ (b + 2) (va_cpy (σ (b + 1)) (σ (b + 2)) 0 0 12)) b 3 (jmin 999999 (((mcp σ (b + 2) (va_cpy (σ (b + 1)) (σ (b + 2)) 0 0 12)) b 3) + (((mcp σ (b + 2) (va_cpy (σ (b + 1)) (σ (b + 2)) 0 0 12)) (b + 2) 11) / 2)))))
set_option maxHeartbeats 4000000 in
set_option maxRecDepth 100000 in
theorem k_X4_flow (l : Launch) (G : GG) (a : Nat → Nat) (σ : Mem) (hj : INJ nR a) (b : Nat) (hb0 : isW b) (x1 : Int32) (q : Mem) (h : f_X4_flow b x1 σ = some q) : Met l yX4_flow (Cond.code yX4_flow cX4_flow 4 none :: TB) ({ frames := 1, cells := 0, slots := 0, locals := 26 } : Room) (PA G kR nR a σ [.ref (a b), .int x1]) (QV G kR nR a q) 0 0 (AW nR a) := by
  refine M_ofW (by decide) hj kR_lt (Nat.le_of_ble_eq_true rfl) (fun p e s m below meth c ls C0 hb hml hr hlk hP hS hl => ?_)
  have C0 : CT p s _ m RX4 G kR nR a := C0
  have hx := C0.1
  have hts := C0.2.1
  have hown := C0.2.2.1
  have hl : lv_has ls 4 [(0, .ref (a b)), (1, .int x1)] := hl
  unfold f_X4_flow at h
  refine lv_aload_n hx hb dX4_flow_0 rfl (lv_at hl 0 rfl) ?_
  refine gf_X4_9 (o := b) (o2 := (b + 1)) C0 hb hP (isW_k hb0) rfl dX4_flow_1 ?_
  refine lv_iconst (v := 0) hx hb dX4_flow_4 (by decide) ?_
  refine lv_aload_n hx hb dX4_flow_5 rfl (lv_at hl 0 rfl) ?_
  refine gf_X4_15 (o := b) (o2 := (b + 2)) C0 hb hP (isW_k hb0) rfl dX4_flow_6 ?_
  refine lv_iconst (v := 0) hx hb dX4_flow_9 (by decide) ?_
  refine lv_bipush (v := 12) hx hb dX4_flow_10 (by decide) ?_
  refine m_copy (o := (b + 1)) (o1 := (b + 2)) (N := 12) (N1 := 12) (sp := 0) (dp := 0) (z := 12) (sp' := 0) (dp' := 0) (z' := 12) (rest := []) C0 hb hml hl.1 wm_X4_28 hP hS (isW_1 hb0) (by decide) (isW_2 hb0) (by decide) ⟨by decide, by decide, by decide, by decide, by decide⟩ (by decide) (by decide) (by decide) (Nat.le_of_ble_eq_true rfl) (Nat.le_of_ble_eq_true rfl) dX4_flow_12 (fun H locs hP hS => ?_)
  refine lv_aload_n hx hb dX4_flow_15 rfl (lv_at hl 0 rfl) ?_
  refine lv_ldc hx hb hown (hts _ wk_X4_38) dX4_flow_16 ?_
  refine lv_aload_n hx hb dX4_flow_18 rfl (lv_at hl 0 rfl) ?_
  refine gf_X4_21 (o := b) C0 hb hP (isW_k hb0) dX4_flow_19 ?_
  refine lv_aload_n hx hb dX4_flow_22 rfl (lv_at hl 0 rfl) ?_
  refine gf_X4_15 (o := b) (o2 := (b + 2)) C0 hb hP (isW_k hb0) rfl dX4_flow_23 ?_
  refine lv_bipush (v := 11) hx hb dX4_flow_26 (by decide) ?_
  refine m_iald (o := (b + 2)) (N := 12) (i := 11) (j := 11) C0 hb hP (isW_2 hb0) (by decide) (show vp_in 11 12 by unfold vp_in; decide) (by decide) dX4_flow_28 ?_
  refine lv_iconst (v := 2) hx hb dX4_flow_29 (by decide) ?_
  refine lv_idiv hx hb dX4_flow_30 (by decide) ?_
  refine lv_iadd hx hb dX4_flow_31 ?_
  refine m_min (rest := [.ref (a b)]) C0 hb hml hl.1 wm_X4_39 (Nat.le_of_ble_eq_true rfl) (Nat.le_of_ble_eq_true rfl) (Nat.zero_le _) (Nat.zero_le _) dX4_flow_32 ?_
  refine pf_X4_21 (o := b) C0 hb hP hS (isW_k hb0) dX4_flow_35 (fun H locs hP hS => ?_)
  refine lv_iconst (v := 0) hx hb dX4_flow_38 (by decide) ?_
  refine lv_istore_n (lv' := [(2, .int 0), (0, .ref (a b)), (1, .int x1)]) hx hb dX4_flow_39 rfl hl (by decide) rfl (fun ls hl => ?_)
  have L_11 : ∀ (fu40 : Nat) (x2_1 : Int32) (σ_2 : Mem) (H : Heap) (locs : List Loc) (ls : Array Slot), it2 (f_X4_flow_B40 b x1) fu40 x2_1 σ_2 = some q → HP G kR nR a σ_2 H → va_S (AW nR a) s.heap H locs → lv_has ls 4 [(2, .int x2_1), (0, .ref (a b)), (1, .int x1)] → W p l e ({ frames := 1, cells := 0, slots := 0, locals := 26 } : Room) s m ([.ref (a b), .int x1] : List Value).toArray below meth c H locs 0 0 (MQ below (QV G kR nR a q) ([.ref (a b), .int x1] : List Value).toArray s 0 0 (AW nR a)) (F0 m 40 ls []) := by
    intro fu40
    induction fu40 with
    | zero =>
      intro x2_1 σ_2 H locs ls h
      cases h
    | succ fu40 ih40 =>
      intro x2_1 σ_2 H locs ls h hP hS hl
      replace h : (f_X4_flow_B40 b x1) (it2 (f_X4_flow_B40 b x1) fu40) x2_1 σ_2 = some q := h
      generalize it2 (f_X4_flow_B40 b x1) fu40 = rec40 at h ih40
      unfold f_X4_flow_B40 at h
      refine lv_iload_n hx hb dX4_flow_40 rfl (lv_at hl 0 rfl) ?_
      refine lv_bipush (v := 12) hx hb dX4_flow_41 (by decide) ?_
      refine lv_icmp_ge (tgt := 100) hx hb dX4_flow_43 (by decide) (fun (c_3 : 12 ≤ x2_1) => ?_) (fun (c_3 : ¬ 12 ≤ x2_1) => ?_)
      · rw [if_pos c_3] at h
        refine lv_aload_n hx hb dX4_flow_100 rfl (lv_at hl 1 rfl) ?_
        refine lv_ldc hx hb hown (hts _ wk_X4_45) dX4_flow_101 ?_
        refine lv_aload_n hx hb dX4_flow_103 rfl (lv_at hl 1 rfl) ?_
        refine gf_X4_25 (o := b) C0 hb hP (isW_k hb0) dX4_flow_104 ?_
        refine lv_iconst (v := 1) hx hb dX4_flow_107 (by decide) ?_
        refine lv_iadd hx hb dX4_flow_108 ?_
        refine m_min (rest := [.ref (a b)]) C0 hb hml hl.1 wm_X4_39 (Nat.le_of_ble_eq_true rfl) (Nat.le_of_ble_eq_true rfl) (Nat.zero_le _) (Nat.zero_le _) dX4_flow_109 ?_
        refine pf_X4_25 (o := b) C0 hb hP hS (isW_k hb0) dX4_flow_112 (fun H locs hP hS => ?_)
        exact m_rv hx hb hr hlk hP hS (Option.some.inj h) dX4_flow_115
      · rw [if_neg c_3] at h
        refine lv_iload_n hx hb dX4_flow_46 rfl (lv_at hl 0 rfl) ?_
        have J_8 : ∀ (t_4 : Int32) (H : Heap) (locs : List Loc) (ls : Array Slot), f_X4_flow_J64 b x2_1 σ_2 rec40 t_4 = some q → HP G kR nR a σ_2 H → va_S (AW nR a) s.heap H locs → lv_has ls 4 [(2, .int x2_1), (0, .ref (a b)), (1, .int x1)] → W p l e ({ frames := 1, cells := 0, slots := 0, locals := 26 } : Room) s m ([.ref (a b), .int x1] : List Value).toArray below meth c H locs 0 0 (MQ below (QV G kR nR a q) ([.ref (a b), .int x1] : List Value).toArray s 0 0 (AW nR a)) (F0 m 64 ls [.int t_4]) := by
          intro t_4 H locs ls h hP hS hl
          unfold f_X4_flow_J64 at h
          refine lv_istore_n (lv' := [(3, .int t_4), (2, .int x2_1), (0, .ref (a b)), (1, .int x1)]) hx hb dX4_flow_64 rfl hl (by decide) rfl (fun ls hl => ?_)
          refine lv_aload_n hx hb dX4_flow_65 rfl (lv_at hl 2 rfl) ?_
          refine gf_X4_9 (o := b) (o2 := (b + 1)) C0 hb hP (isW_k hb0) rfl dX4_flow_66 ?_
          refine lv_iload_n hx hb dX4_flow_69 rfl (lv_at hl 1 rfl) ?_
          refine lv_sipush (v := 9999) hx hb dX4_flow_70 (by decide) ?_
          refine lv_aload_n hx hb dX4_flow_73 rfl (lv_at hl 2 rfl) ?_
          refine gf_X4_15 (o := b) (o2 := (b + 2)) C0 hb hP (isW_k hb0) rfl dX4_flow_74 ?_
          refine lv_iload_n hx hb dX4_flow_77 rfl (lv_at hl 1 rfl) ?_
          obtain ⟨hi_5, h⟩ := chk_s h
          refine m_iald (o := (b + 2)) (N := 12) (i := x2_1) (j := x2_1.toNatClampNeg) C0 hb hP (isW_2 hb0) (by decide) hi_5 rfl dX4_flow_78 ?_
          refine lv_aload_n hx hb dX4_flow_79 rfl (lv_at hl 2 rfl) ?_
          refine gf_X4_15 (o := b) (o2 := (b + 2)) C0 hb hP (isW_k hb0) rfl dX4_flow_80 ?_
          refine lv_iload_n hx hb dX4_flow_83 rfl (lv_at hl 1 rfl) ?_
          obtain ⟨hi_6, h⟩ := chk_s h
          refine m_iald (o := (b + 2)) (N := 12) (i := x2_1) (j := x2_1.toNatClampNeg) C0 hb hP (isW_2 hb0) (by decide) hi_6 rfl dX4_flow_84 ?_
          refine lv_iconst (v := 2) hx hb dX4_flow_85 (by decide) ?_
          refine lv_idiv hx hb dX4_flow_86 (by decide) ?_
          refine lv_isub hx hb dX4_flow_87 ?_
          refine lv_iload_n hx hb dX4_flow_88 rfl (lv_at hl 0 rfl) ?_
          refine lv_iadd hx hb dX4_flow_89 ?_
          refine m_min (rest := [.int x2_1, .ref (a (b + 1))]) C0 hb hml hl.1 wm_X4_39 (Nat.le_of_ble_eq_true rfl) (Nat.le_of_ble_eq_true rfl) (Nat.zero_le _) (Nat.zero_le _) dX4_flow_90 ?_
          obtain ⟨hi_7, h⟩ := chk_s h
          refine m_iast (o := (b + 1)) (N := 12) (i := x2_1) (j := x2_1.toNatClampNeg) C0 hb hP hS (isW_1 hb0) (by decide) hi_7 rfl dX4_flow_93 (fun H locs hP hS => ?_)
          refine lv_iinc (v := x2_1 + 1) (lv' := [(2, .int (x2_1 + 1)), (3, .int t_4), (0, .ref (a b)), (1, .int x1)]) hx hb dX4_flow_94 hl (k := 1) rfl rfl (by decide) rfl (fun ls hl => ?_)
          refine lv_goto (tgt := 40) hx hb dX4_flow_97 (by decide) ?_
          exact ih40 (x2_1 + 1) (mst σ_2 (b + 1) x2_1.toNatClampNeg (jmin 9999 (((σ_2 (b + 2) x2_1.toNatClampNeg) - ((σ_2 (b + 2) x2_1.toNatClampNeg) / 2)) + t_4))) _ _ _ h hP hS (lv_sub hl [0, 2, 3] rfl)
        refine lv_if_ne (tgt := 54) hx hb dX4_flow_47 (by decide) (fun (c_9 : ¬ x2_1 = 0) => ?_) (fun (c_9 : x2_1 = 0) => ?_)
        · rw [if_neg c_9] at h
          refine lv_aload_n hx hb dX4_flow_54 rfl (lv_at hl 1 rfl) ?_
          refine gf_X4_15 (o := b) (o2 := (b + 2)) C0 hb hP (isW_k hb0) rfl dX4_flow_55 ?_
          refine lv_iload_n hx hb dX4_flow_58 rfl (lv_at hl 0 rfl) ?_
          refine lv_iconst (v := 1) hx hb dX4_flow_59 (by decide) ?_
          refine lv_isub hx hb dX4_flow_60 ?_
          obtain ⟨hi_10, h⟩ := chk_s h
          refine m_iald (o := (b + 2)) (N := 12) (i := x2_1 - 1) (j := (x2_1 - 1).toNatClampNeg) C0 hb hP (isW_2 hb0) (by decide) hi_10 rfl dX4_flow_61 ?_
          refine lv_iconst (v := 2) hx hb dX4_flow_62 (by decide) ?_
          refine lv_idiv hx hb dX4_flow_63 (by decide) ?_
          exact J_8 ((σ_2 (b + 2) ((x2_1 - 1).toNatClampNeg)) / 2) _ _ _ h hP hS (lv_sub hl [0, 1, 2] rfl)
        · rw [if_pos c_9] at h
          refine lv_iload_n hx hb dX4_flow_50 rfl (lv_at hl 2 rfl) ?_
          refine lv_goto (tgt := 64) hx hb dX4_flow_51 (by decide) ?_
          exact J_8 x1 _ _ _ h hP hS (lv_sub hl [0, 1, 2] rfl)
  exact L_11 FU 0 (mst (mcp σ (b + 2) (va_cpy (σ (b + 1)) (σ (b + 2)) 0 0 12)) b 3 (jmin 999999 (((mcp σ (b + 2) (va_cpy (σ (b + 1)) (σ (b + 2)) 0 0 12)) b 3) + (((mcp σ (b + 2) (va_cpy (σ (b + 1)) (σ (b + 2)) 0 0 12)) (b + 2) 11) / 2)))) _ _ _ h hP hS (lv_sub hl [0, 1, 2] rfl)
def f_X4_run_B2 (b : Nat) (x1 : Int32) (rec2 : Int32 → Mem → Option (Mem)) (x2_1 : Int32) (σ_2 : Mem) : Option (Mem) := (if x1 ≤ x2_1 then some σ_2 else (chk (jrem (σ_2 b 4) 8) 8 ((f_X4_flow b (σ_2 (b + 3) ((jrem (σ_2 b 4) 8).toNatClampNeg)) σ_2).bind fun q_5 => (rec2 (x2_1 + 1) q_5))))
def f_X4_run (b : Nat) (x1 : Int32) (σ : Mem) : Option (Mem) := (it2 (f_X4_run_B2 b x1) FU 0 σ)
set_option maxHeartbeats 4000000 in
set_option maxRecDepth 100000 in
theorem k_X4_run (l : Launch) (G : GG) (a : Nat → Nat) (σ : Mem) (hj : INJ nR a) (b : Nat) (hb0 : isW b) (x1 : Int32) (q : Mem) (h : f_X4_run b x1 σ = some q) : Met l yX4_run (Cond.code yX4_run cX4_run 3 none :: TB) ({ frames := 2, cells := 0, slots := 0, locals := 49 } : Room) (PA G kR nR a σ [.ref (a b), .int x1]) (QV G kR nR a q) 0 0 (AW nR a) := by
  refine M_ofW (by decide) hj kR_lt (Nat.le_of_ble_eq_true rfl) (fun p e s m below meth c ls C0 hb hml hr hlk hP hS hl => ?_)
  have C0 : CT p s _ m RX4 G kR nR a := C0
  have hx := C0.1
  have hts := C0.2.1
  have hown := C0.2.2.1
  have hl : lv_has ls 3 [(0, .ref (a b)), (1, .int x1)] := hl
  unfold f_X4_run at h
  refine lv_iconst (v := 0) hx hb dX4_run_0 (by decide) ?_
  refine lv_istore_n (lv' := [(2, .int 0), (0, .ref (a b)), (1, .int x1)]) hx hb dX4_run_1 rfl hl (by decide) rfl (fun ls hl => ?_)
  have L_7 : ∀ (fu2 : Nat) (x2_1 : Int32) (σ_2 : Mem) (H : Heap) (locs : List Loc) (ls : Array Slot), it2 (f_X4_run_B2 b x1) fu2 x2_1 σ_2 = some q → HP G kR nR a σ_2 H → va_S (AW nR a) s.heap H locs → lv_has ls 3 [(2, .int x2_1), (0, .ref (a b)), (1, .int x1)] → W p l e ({ frames := 2, cells := 0, slots := 0, locals := 49 } : Room) s m ([.ref (a b), .int x1] : List Value).toArray below meth c H locs 0 0 (MQ below (QV G kR nR a q) ([.ref (a b), .int x1] : List Value).toArray s 0 0 (AW nR a)) (F0 m 2 ls []) := by
    intro fu2
    induction fu2 with
    | zero =>
      intro x2_1 σ_2 H locs ls h
      cases h
    | succ fu2 ih2 =>
      intro x2_1 σ_2 H locs ls h hP hS hl
      replace h : (f_X4_run_B2 b x1) (it2 (f_X4_run_B2 b x1) fu2) x2_1 σ_2 = some q := h
      generalize it2 (f_X4_run_B2 b x1) fu2 = rec2 at h ih2
      unfold f_X4_run_B2 at h
      refine lv_iload_n hx hb dX4_run_2 rfl (lv_at hl 0 rfl) ?_
      refine lv_iload_n hx hb dX4_run_3 rfl (lv_at hl 2 rfl) ?_
      refine lv_icmp_ge (tgt := 29) hx hb dX4_run_4 (by decide) (fun (c_3 : x1 ≤ x2_1) => ?_) (fun (c_3 : ¬ x1 ≤ x2_1) => ?_)
      · rw [if_pos c_3] at h
        exact m_rv hx hb hr hlk hP hS (Option.some.inj h) dX4_run_29
      · rw [if_neg c_3] at h
        refine lv_aload_n hx hb dX4_run_7 rfl (lv_at hl 1 rfl) ?_
        refine lv_aload_n hx hb dX4_run_8 rfl (lv_at hl 1 rfl) ?_
        refine gf_X4_18 (o := b) (o2 := (b + 3)) C0 hb hP (isW_k hb0) rfl dX4_run_9 ?_
        refine lv_aload_n hx hb dX4_run_12 rfl (lv_at hl 1 rfl) ?_
        refine gf_X4_25 (o := b) C0 hb hP (isW_k hb0) dX4_run_13 ?_
        refine lv_bipush (v := 8) hx hb dX4_run_16 (by decide) ?_
        refine lv_irem hx hb dX4_run_18 (by decide) ?_
        obtain ⟨hi_4, h⟩ := chk_s h
        refine m_iald (o := (b + 3)) (N := 8) (i := jrem (σ_2 b 4) 8) (j := (jrem (σ_2 b 4) 8).toNatClampNeg) C0 hb hP (isW_3 hb0) (by decide) hi_4 rfl dX4_run_19 ?_
        obtain ⟨q_5, hq_6, h⟩ := bd_s h
        refine m_cVv (As := [.int (σ_2 (b + 3) ((jrem (σ_2 b 4) 8).toNatClampNeg))]) (rest := []) (o := b) (ci := 4) C0 hb hml hl.1 wm_X4_34 md_X4_flow (k_X4_flow l G a σ_2 hj b hb0 (σ_2 (b + 3) ((jrem (σ_2 b 4) 8).toNatClampNeg)) q_5 hq_6) rfl rfl ⟨(Nat.le_of_ble_eq_true rfl), (Nat.le_of_ble_eq_true rfl)⟩ hP hS (isW_k hb0) (by decide) rfl rfl rfl (Nat.le_of_ble_eq_true rfl) dX4_run_20 (fun H locs hP hS => ?_)
        refine lv_iinc (v := x2_1 + 1) (lv' := [(2, .int (x2_1 + 1)), (0, .ref (a b)), (1, .int x1)]) hx hb dX4_run_23 hl (k := 0) rfl rfl (by decide) rfl (fun ls hl => ?_)
        refine lv_goto (tgt := 2) hx hb dX4_run_26 (by decide) ?_
        exact ih2 (x2_1 + 1) q_5 _ _ _ h hP hS (lv_sub hl [0, 1, 2] rfl)
  exact L_7 FU 0 σ _ _ _ h hP hS (lv_sub hl [0, 1, 2] rfl)
def f_X2_pass_B2 (b : Nat) (x1 : Int32) (rec2 : Int32 → Mem → Option (Mem)) (x2_1 : Int32) (σ_2 : Mem) : Option (Mem) := (if x1 ≤ x2_1 then some σ_2 else ((f_X4_run (b + 1) 1 σ_2).bind fun q_4 => ((f_X2_liveAll b q_4).bind fun q_6 => (rec2 (x2_1 + 1) q_6))))
def f_X2_pass (b : Nat) (x1 : Int32) (σ : Mem) : Option (Mem) := (it2 (f_X2_pass_B2 b x1) FU 0 σ)
set_option maxHeartbeats 4000000 in
set_option maxRecDepth 100000 in
theorem k_X2_pass (l : Launch) (G : GG) (a : Nat → Nat) (σ : Mem) (hj : INJ nR a) (b : Nat) (hb0 : isV b) (x1 : Int32) (q : Mem) (h : f_X2_pass b x1 σ = some q) : Met l yX2_pass (Cond.code yX2_pass cX2_pass 3 none :: TB) ({ frames := 4, cells := 0, slots := 0, locals := 84 } : Room) (PA G kR nR a σ [.ref (a b), .int x1]) (QV G kR nR a q) 0 0 (AW nR a) := by
  refine M_ofW (by decide) hj kR_lt (Nat.le_of_ble_eq_true rfl) (fun p e s m below meth c ls C0 hb hml hr hlk hP hS hl => ?_)
  have C0 : CT p s _ m RX2 G kR nR a := C0
  have hx := C0.1
  have hts := C0.2.1
  have hown := C0.2.2.1
  have hl : lv_has ls 3 [(0, .ref (a b)), (1, .int x1)] := hl
  unfold f_X2_pass at h
  refine lv_iconst (v := 0) hx hb dX2_pass_0 (by decide) ?_
  refine lv_istore_n (lv' := [(2, .int 0), (0, .ref (a b)), (1, .int x1)]) hx hb dX2_pass_1 rfl hl (by decide) rfl (fun ls hl => ?_)
  have L_8 : ∀ (fu2 : Nat) (x2_1 : Int32) (σ_2 : Mem) (H : Heap) (locs : List Loc) (ls : Array Slot), it2 (f_X2_pass_B2 b x1) fu2 x2_1 σ_2 = some q → HP G kR nR a σ_2 H → va_S (AW nR a) s.heap H locs → lv_has ls 3 [(2, .int x2_1), (0, .ref (a b)), (1, .int x1)] → W p l e ({ frames := 4, cells := 0, slots := 0, locals := 84 } : Room) s m ([.ref (a b), .int x1] : List Value).toArray below meth c H locs 0 0 (MQ below (QV G kR nR a q) ([.ref (a b), .int x1] : List Value).toArray s 0 0 (AW nR a)) (F0 m 2 ls []) := by
    intro fu2
    induction fu2 with
    | zero =>
      intro x2_1 σ_2 H locs ls h
      cases h
    | succ fu2 ih2 =>
      intro x2_1 σ_2 H locs ls h hP hS hl
      replace h : (f_X2_pass_B2 b x1) (it2 (f_X2_pass_B2 b x1) fu2) x2_1 σ_2 = some q := h
      generalize it2 (f_X2_pass_B2 b x1) fu2 = rec2 at h ih2
      unfold f_X2_pass_B2 at h
      refine lv_iload_n hx hb dX2_pass_2 rfl (lv_at hl 0 rfl) ?_
      refine lv_iload_n hx hb dX2_pass_3 rfl (lv_at hl 2 rfl) ?_
      refine lv_icmp_ge (tgt := 25) hx hb dX2_pass_4 (by decide) (fun (c_3 : x1 ≤ x2_1) => ?_) (fun (c_3 : ¬ x1 ≤ x2_1) => ?_)
      · rw [if_pos c_3] at h
        exact m_rv hx hb hr hlk hP hS (Option.some.inj h) dX2_pass_25
      · rw [if_neg c_3] at h
        refine lv_aload_n hx hb dX2_pass_7 rfl (lv_at hl 1 rfl) ?_
        refine gf_X2_12 (o := b) (o2 := (b + 1)) C0 hb hP (isV_k hb0) rfl dX2_pass_8 ?_
        refine lv_iconst (v := 1) hx hb dX2_pass_11 (by decide) ?_
        obtain ⟨q_4, hq_5, h⟩ := bd_s h
        refine m_cVv (As := [.int 1]) (rest := []) (o := (b + 1)) (ci := 4) C0 hb hml hl.1 wm_X2_53 md_X4_run (k_X4_run l G a σ_2 hj (b + 1) (isV_w hb0) 1 q_4 hq_5) rfl rfl ⟨(Nat.le_of_ble_eq_true rfl), (Nat.le_of_ble_eq_true rfl)⟩ hP hS (isW_k (isV_w hb0)) (by decide) rfl rfl rfl (Nat.le_of_ble_eq_true rfl) dX2_pass_12 (fun H locs hP hS => ?_)
        refine lv_aload_n hx hb dX2_pass_15 rfl (lv_at hl 1 rfl) ?_
        obtain ⟨q_6, hq_7, h⟩ := bd_s h
        refine m_cVv (As := []) (rest := []) (o := b) (ci := 2) C0 hb hml hl.1 wm_X2_57 md_X2_liveAll (k_X2_liveAll l G a q_4 hj b hb0 q_6 hq_7) rfl rfl ⟨(Nat.le_of_ble_eq_true rfl), (Nat.le_of_ble_eq_true rfl)⟩ hP hS (isV_k hb0) (by decide) rfl rfl rfl (Nat.le_of_ble_eq_true rfl) dX2_pass_16 (fun H locs hP hS => ?_)
        refine lv_iinc (v := x2_1 + 1) (lv' := [(2, .int (x2_1 + 1)), (0, .ref (a b)), (1, .int x1)]) hx hb dX2_pass_19 hl (k := 0) rfl rfl (by decide) rfl (fun ls hl => ?_)
        refine lv_goto (tgt := 2) hx hb dX2_pass_22 (by decide) ?_
        exact ih2 (x2_1 + 1) q_6 _ _ _ h hP hS (lv_sub hl [0, 1, 2] rfl)
  exact L_8 FU 0 σ _ _ _ h hP hS (lv_sub hl [0, 1, 2] rfl)
def f_X5_go (x1 : Int32) (σ : Mem) : Option (Int32 × Mem) := (if x1 < 1 then ((f_X5_finding (-1000001) σ).bind fun q_2 => some (q_2.1, q_2.2)) else (if x1 ≤ 80 then (if ((σ 2 4) + x1) ≤ 99999 then ((f_X2_pass 1 x1 σ).bind fun q_6 => ((f_X2_knowing 1 q_6).bind fun q_8 => some (q_8, q_6))) else ((f_X5_finding (-1000005) σ).bind fun q_10 => some (q_10.1, q_10.2))) else ((f_X5_finding (-1000001) σ).bind fun q_12 => some (q_12.1, q_12.2))))
set_option maxHeartbeats 4000000 in
set_option maxRecDepth 100000 in
theorem k_X5_go (l : Launch) (G : GG) (a : Nat → Nat) (σ : Mem) (hj : INJ nR a) (x1 : Int32) (q : Int32 × Mem) (h : f_X5_go x1 σ = some q) : Met l yX5_go (Cond.code yX5_go cX5_go 2 (some .int) :: TB) ({ frames := 5, cells := 0, slots := 0, locals := 106 } : Room) (PA G kR nR a σ [.ref (a 0), .int x1]) (QI G kR nR a q) 0 0 (AW nR a) := by
  refine M_ofW (by decide) hj kR_lt (Nat.le_of_ble_eq_true rfl) (fun p e s m below meth c ls C0 hb hml hr hlk hP hS hl => ?_)
  have C0 : CT p s _ m RX5 G kR nR a := C0
  have hx := C0.1
  have hts := C0.2.1
  have hown := C0.2.2.1
  have hl : lv_has ls 2 [(0, .ref (a 0)), (1, .int x1)] := hl
  unfold f_X5_go at h
  refine lv_iload_n hx hb dX5_go_0 rfl (lv_at hl 1 rfl) ?_
  refine lv_iconst (v := 1) hx hb dX5_go_1 (by decide) ?_
  refine lv_icmp_lt (tgt := 11) hx hb dX5_go_2 (by decide) (fun (c_1 : x1 < 1) => ?_) (fun (c_1 : ¬ x1 < 1) => ?_)
  · rw [if_pos c_1] at h
    refine lv_aload_n hx hb dX5_go_11 rfl (lv_at hl 0 rfl) ?_
    refine lv_ldc hx hb hown (hts _ wk_X5_54) dX5_go_12 ?_
    obtain ⟨q_2, hq_3, h⟩ := bd_s h
    refine m_cVi (As := [.int (-1000001)]) (rest := []) (o := 0) (ci := 5) C0 hb hml hl.1 wm_X5_55 md_X5_finding (k_X5_finding l G a σ hj (-1000001) q_2 hq_3) rfl rfl ⟨(Nat.le_of_ble_eq_true rfl), (Nat.le_of_ble_eq_true rfl)⟩ hP hS (rfl : kR 0 = 5) (by decide) rfl rfl rfl (Nat.le_of_ble_eq_true rfl) dX5_go_14 (fun H locs hP hS => ?_)
    exact m_ri hx hb hr hlk hP hS (Option.some.inj h) dX5_go_17
  · rw [if_neg c_1] at h
    refine lv_iload_n hx hb dX5_go_5 rfl (lv_at hl 1 rfl) ?_
    refine lv_bipush (v := 80) hx hb dX5_go_6 (by decide) ?_
    refine lv_icmp_le (tgt := 18) hx hb dX5_go_8 (by decide) (fun (c_4 : x1 ≤ 80) => ?_) (fun (c_4 : ¬ x1 ≤ 80) => ?_)
    · rw [if_pos c_4] at h
      refine lv_aload_n hx hb dX5_go_18 rfl (lv_at hl 0 rfl) ?_
      refine gf_X5_12 (o := 0) (o2 := 1) C0 hb hP (rfl : kR 0 = 5) rfl dX5_go_19 ?_
      refine gf_X5_59 (o := 1) (o2 := 2) C0 hb hP (isV_k v1) rfl dX5_go_22 ?_
      refine gf_X5_129 (o := 2) C0 hb hP (isW_k (isV_w v1)) dX5_go_25 ?_
      refine lv_iload_n hx hb dX5_go_28 rfl (lv_at hl 1 rfl) ?_
      refine lv_iadd hx hb dX5_go_29 ?_
      refine lv_ldc hx hb hown (hts _ wk_X5_132) dX5_go_30 ?_
      refine lv_icmp_le (tgt := 42) hx hb dX5_go_32 (by decide) (fun (c_5 : ((σ 2 4) + x1) ≤ 99999) => ?_) (fun (c_5 : ¬ ((σ 2 4) + x1) ≤ 99999) => ?_)
      · rw [if_pos c_5] at h
        refine lv_aload_n hx hb dX5_go_42 rfl (lv_at hl 0 rfl) ?_
        refine gf_X5_12 (o := 0) (o2 := 1) C0 hb hP (rfl : kR 0 = 5) rfl dX5_go_43 ?_
        refine lv_iload_n hx hb dX5_go_46 rfl (lv_at hl 1 rfl) ?_
        obtain ⟨q_6, hq_7, h⟩ := bd_s h
        refine m_cVv (As := [.int x1]) (rest := []) (o := 1) (ci := 2) C0 hb hml hl.1 wm_X5_134 md_X2_pass (k_X2_pass l G a σ hj 1 v1 x1 q_6 hq_7) rfl rfl ⟨(Nat.le_of_ble_eq_true rfl), (Nat.le_of_ble_eq_true rfl)⟩ hP hS (isV_k v1) (by decide) rfl rfl rfl (Nat.le_of_ble_eq_true rfl) dX5_go_47 (fun H locs hP hS => ?_)
        refine lv_aload_n hx hb dX5_go_50 rfl (lv_at hl 0 rfl) ?_
        refine gf_X5_12 (o := 0) (o2 := 1) C0 hb hP (rfl : kR 0 = 5) rfl dX5_go_51 ?_
        obtain ⟨q_8, hq_9, h⟩ := bd_s h
        refine m_rVi (As := []) (rest := []) (o := 1) (ci := 2) C0 hb hml hl.1 wm_X5_137 md_X2_knowing (k_X2_knowing l G a q_6 hj 1 v1 q_8 hq_9) rfl rfl ⟨(Nat.le_of_ble_eq_true rfl), (Nat.le_of_ble_eq_true rfl)⟩ hP hS (isV_k v1) (by decide) rfl rfl rfl (Nat.le_of_ble_eq_true rfl) dX5_go_54 ?_
        exact m_ri hx hb hr hlk hP hS (Option.some.inj h) dX5_go_57
      · rw [if_neg c_5] at h
        refine lv_aload_n hx hb dX5_go_35 rfl (lv_at hl 0 rfl) ?_
        refine lv_ldc hx hb hown (hts _ wk_X5_133) dX5_go_36 ?_
        obtain ⟨q_10, hq_11, h⟩ := bd_s h
        refine m_cVi (As := [.int (-1000005)]) (rest := []) (o := 0) (ci := 5) C0 hb hml hl.1 wm_X5_55 md_X5_finding (k_X5_finding l G a σ hj (-1000005) q_10 hq_11) rfl rfl ⟨(Nat.le_of_ble_eq_true rfl), (Nat.le_of_ble_eq_true rfl)⟩ hP hS (rfl : kR 0 = 5) (by decide) rfl rfl rfl (Nat.le_of_ble_eq_true rfl) dX5_go_38 (fun H locs hP hS => ?_)
        exact m_ri hx hb hr hlk hP hS (Option.some.inj h) dX5_go_41
    · rw [if_neg c_4] at h
      refine lv_aload_n hx hb dX5_go_11 rfl (lv_at hl 0 rfl) ?_
      refine lv_ldc hx hb hown (hts _ wk_X5_54) dX5_go_12 ?_
      obtain ⟨q_12, hq_13, h⟩ := bd_s h
      refine m_cVi (As := [.int (-1000001)]) (rest := []) (o := 0) (ci := 5) C0 hb hml hl.1 wm_X5_55 md_X5_finding (k_X5_finding l G a σ hj (-1000001) q_12 hq_13) rfl rfl ⟨(Nat.le_of_ble_eq_true rfl), (Nat.le_of_ble_eq_true rfl)⟩ hP hS (rfl : kR 0 = 5) (by decide) rfl rfl rfl (Nat.le_of_ble_eq_true rfl) dX5_go_14 (fun H locs hP hS => ?_)
      exact m_ri hx hb hr hlk hP hS (Option.some.inj h) dX5_go_17
def f_X2_beliefsTogether_B4 (b : Nat) (σ : Mem) (rec4 : Int32 → Int32 → Option (Int32)) (x1_1 : Int32) (x2_2 : Int32) : Option (Int32) := (if (σ b 3) ≤ x2_2 then some x1_1 else (chk x2_2 8 (rec4 (x1_1 + (σ (b + 7 + x2_2.toNatClampNeg) 3)) (x2_2 + 1))))
def f_X2_beliefsTogether (b : Nat) (σ : Mem) : Option (Int32) := (it2 (f_X2_beliefsTogether_B4 b σ) FU 0 0)
set_option maxHeartbeats 4000000 in
set_option maxRecDepth 100000 in
theorem k_X2_beliefsTogether (l : Launch) (G : GG) (a : Nat → Nat) (σ : Mem) (hj : INJ nR a) (b : Nat) (hb0 : isV b) (q : Int32) (h : f_X2_beliefsTogether b σ = some q) : Met l yX2_beliefsTogether (Cond.code yX2_beliefsTogether cX2_beliefsTogether 3 (some .int) :: TB) ({ frames := 0, cells := 0, slots := 0, locals := 0 } : Room) (PA G kR nR a σ [.ref (a b)]) (SI q) 0 0 NF := by
  refine M_ofW (by decide) hj kR_lt (Nat.le_of_ble_eq_true rfl) (fun p e s m below meth c ls C0 hb hml hr hlk hP hS hl => ?_)
  have C0 : CT p s _ m RX2 G kR nR a := C0
  have hx := C0.1
  have hts := C0.2.1
  have hown := C0.2.2.1
  have hl : lv_has ls 3 [(0, .ref (a b))] := hl
  unfold f_X2_beliefsTogether at h
  refine lv_iconst (v := 0) hx hb dX2_beliefsTogether_0 (by decide) ?_
  refine lv_istore_n (lv' := [(1, .int 0), (0, .ref (a b))]) hx hb dX2_beliefsTogether_1 rfl hl (by decide) rfl (fun ls hl => ?_)
  refine lv_iconst (v := 0) hx hb dX2_beliefsTogether_2 (by decide) ?_
  refine lv_istore_n (lv' := [(2, .int 0), (1, .int 0), (0, .ref (a b))]) hx hb dX2_beliefsTogether_3 rfl hl (by decide) rfl (fun ls hl => ?_)
  have L_5 : ∀ (fu4 : Nat) (x1_1 : Int32) (x2_2 : Int32) (ls : Array Slot), it2 (f_X2_beliefsTogether_B4 b σ) fu4 x1_1 x2_2 = some q → lv_has ls 3 [(2, .int x2_2), (1, .int x1_1), (0, .ref (a b))] → W p l e ({ frames := 0, cells := 0, slots := 0, locals := 0 } : Room) s m ([.ref (a b)] : List Value).toArray below meth c s.heap [] 0 0 (MQ below (SI q) ([.ref (a b)] : List Value).toArray s 0 0 NF) (F0 m 4 ls []) := by
    intro fu4
    induction fu4 with
    | zero =>
      intro x1_1 x2_2 ls h
      cases h
    | succ fu4 ih4 =>
      intro x1_1 x2_2 ls h hl
      replace h : (f_X2_beliefsTogether_B4 b σ) (it2 (f_X2_beliefsTogether_B4 b σ) fu4) x1_1 x2_2 = some q := h
      generalize it2 (f_X2_beliefsTogether_B4 b σ) fu4 = rec4 at h ih4
      unfold f_X2_beliefsTogether_B4 at h
      refine lv_iload_n hx hb dX2_beliefsTogether_4 rfl (lv_at hl 0 rfl) ?_
      refine lv_aload_n hx hb dX2_beliefsTogether_5 rfl (lv_at hl 2 rfl) ?_
      refine gf_X2_28 (o := b) C0 hb hP (isV_k hb0) dX2_beliefsTogether_6 ?_
      refine lv_icmp_ge (tgt := 30) hx hb dX2_beliefsTogether_9 (by decide) (fun (c_3 : (σ b 3) ≤ x2_2) => ?_) (fun (c_3 : ¬ (σ b 3) ≤ x2_2) => ?_)
      · rw [if_pos c_3] at h
        refine lv_iload_n hx hb dX2_beliefsTogether_30 rfl (lv_at hl 1 rfl) ?_
        exact m_si hx hb hr hlk (Option.some.inj h) dX2_beliefsTogether_31
      · rw [if_neg c_3] at h
        refine lv_iload_n hx hb dX2_beliefsTogether_12 rfl (lv_at hl 1 rfl) ?_
        refine lv_aload_n hx hb dX2_beliefsTogether_13 rfl (lv_at hl 2 rfl) ?_
        refine gf_X2_20 (o := b) (o2 := (b + 5)) C0 hb hP (isV_k hb0) rfl dX2_beliefsTogether_14 ?_
        refine lv_iload_n hx hb dX2_beliefsTogether_17 rfl (lv_at hl 0 rfl) ?_
        obtain ⟨hi_4, h⟩ := chk_s h
        refine m_aldW (o := (b + 5)) (i := x2_2) (o2 := (b + 7 + x2_2.toNatClampNeg)) C0 hb hP (isV_a hb0) hi_4 rfl dX2_beliefsTogether_18 ?_
        refine gf_X2_90 (o := (b + 7 + x2_2.toNatClampNeg)) C0 hb hP (isV_t hb0 (vp_lt hi_4)) dX2_beliefsTogether_19 ?_
        refine lv_iadd hx hb dX2_beliefsTogether_22 ?_
        refine lv_istore_n (lv' := [(1, .int (x1_1 + (σ (b + 7 + x2_2.toNatClampNeg) 3))), (2, .int x2_2), (0, .ref (a b))]) hx hb dX2_beliefsTogether_23 rfl hl (by decide) rfl (fun ls hl => ?_)
        refine lv_iinc (v := x2_2 + 1) (lv' := [(2, .int (x2_2 + 1)), (1, .int (x1_1 + (σ (b + 7 + x2_2.toNatClampNeg) 3))), (0, .ref (a b))]) hx hb dX2_beliefsTogether_24 hl (k := 1) rfl rfl (by decide) rfl (fun ls hl => ?_)
        refine lv_goto (tgt := 4) hx hb dX2_beliefsTogether_27 (by decide) ?_
        exact ih4 (x1_1 + (σ (b + 7 + x2_2.toNatClampNeg) 3)) (x2_2 + 1) _ h (lv_sub hl [0, 1, 2] rfl)
  exact L_5 FU 0 0 _ h (lv_sub hl [0, 1, 2] rfl)
def f_X2_lacking_J47 (x2_2 : Int32) (rec4 : Int32 → Int32 → Option (Int32)) (x1_7 : Int32) : Option (Int32) := (rec4 x1_7 (x2_2 + 1))
def f_X2_lacking_B4 (b : Nat) (σ : Mem) (rec4 : Int32 → Int32 → Option (Int32)) (x1_1 : Int32) (x2_2 : Int32) : Option (Int32) := (if (σ b 3) ≤ x2_2 then some x1_1 else (chk x2_2 8 (chk x2_2 8 (chk (σ (b + 7 + x2_2.toNatClampNeg) 1) 12 (f_X2_lacking_J47 x2_2 rec4 (if (f_X3_lacks (b + 7 + x2_2.toNatClampNeg) (σ (b + 2) ((σ (b + 7 + x2_2.toNatClampNeg) 1).toNatClampNeg)) σ) = 0 then x1_1 else x1_1 ||| (1 <<< (x2_2 &&& 31))))))))
def f_X2_lacking (b : Nat) (σ : Mem) : Option (Int32) := (it2 (f_X2_lacking_B4 b σ) FU 0 0)
set_option maxHeartbeats 4000000 in
set_option maxRecDepth 100000 in
theorem k_X2_lacking (l : Launch) (G : GG) (a : Nat → Nat) (σ : Mem) (hj : INJ nR a) (b : Nat) (hb0 : isV b) (q : Int32) (h : f_X2_lacking b σ = some q) : Met l yX2_lacking (Cond.code yX2_lacking cX2_lacking 3 (some .int) :: TB) ({ frames := 1, cells := 0, slots := 0, locals := 21 } : Room) (PA G kR nR a σ [.ref (a b)]) (SI q) 0 0 NF := by
  refine M_ofW (by decide) hj kR_lt (Nat.le_of_ble_eq_true rfl) (fun p e s m below meth c ls C0 hb hml hr hlk hP hS hl => ?_)
  have C0 : CT p s _ m RX2 G kR nR a := C0
  have hx := C0.1
  have hts := C0.2.1
  have hown := C0.2.2.1
  have hl : lv_has ls 3 [(0, .ref (a b))] := hl
  unfold f_X2_lacking at h
  refine lv_iconst (v := 0) hx hb dX2_lacking_0 (by decide) ?_
  refine lv_istore_n (lv' := [(1, .int 0), (0, .ref (a b))]) hx hb dX2_lacking_1 rfl hl (by decide) rfl (fun ls hl => ?_)
  refine lv_iconst (v := 0) hx hb dX2_lacking_2 (by decide) ?_
  refine lv_istore_n (lv' := [(2, .int 0), (1, .int 0), (0, .ref (a b))]) hx hb dX2_lacking_3 rfl hl (by decide) rfl (fun ls hl => ?_)
  have L_10 : ∀ (fu4 : Nat) (x1_1 : Int32) (x2_2 : Int32) (ls : Array Slot), it2 (f_X2_lacking_B4 b σ) fu4 x1_1 x2_2 = some q → lv_has ls 3 [(2, .int x2_2), (1, .int x1_1), (0, .ref (a b))] → W p l e ({ frames := 1, cells := 0, slots := 0, locals := 21 } : Room) s m ([.ref (a b)] : List Value).toArray below meth c s.heap [] 0 0 (MQ below (SI q) ([.ref (a b)] : List Value).toArray s 0 0 NF) (F0 m 4 ls []) := by
    intro fu4
    induction fu4 with
    | zero =>
      intro x1_1 x2_2 ls h
      cases h
    | succ fu4 ih4 =>
      intro x1_1 x2_2 ls h hl
      replace h : (f_X2_lacking_B4 b σ) (it2 (f_X2_lacking_B4 b σ) fu4) x1_1 x2_2 = some q := h
      generalize it2 (f_X2_lacking_B4 b σ) fu4 = rec4 at h ih4
      unfold f_X2_lacking_B4 at h
      refine lv_iload_n hx hb dX2_lacking_4 rfl (lv_at hl 0 rfl) ?_
      refine lv_aload_n hx hb dX2_lacking_5 rfl (lv_at hl 2 rfl) ?_
      refine gf_X2_28 (o := b) C0 hb hP (isV_k hb0) dX2_lacking_6 ?_
      refine lv_icmp_ge (tgt := 53) hx hb dX2_lacking_9 (by decide) (fun (c_3 : (σ b 3) ≤ x2_2) => ?_) (fun (c_3 : ¬ (σ b 3) ≤ x2_2) => ?_)
      · rw [if_pos c_3] at h
        refine lv_iload_n hx hb dX2_lacking_53 rfl (lv_at hl 1 rfl) ?_
        exact m_si hx hb hr hlk (Option.some.inj h) dX2_lacking_54
      · rw [if_neg c_3] at h
        refine lv_aload_n hx hb dX2_lacking_12 rfl (lv_at hl 2 rfl) ?_
        refine gf_X2_20 (o := b) (o2 := (b + 5)) C0 hb hP (isV_k hb0) rfl dX2_lacking_13 ?_
        refine lv_iload_n hx hb dX2_lacking_16 rfl (lv_at hl 0 rfl) ?_
        obtain ⟨hi_4, h⟩ := chk_s h
        refine m_aldW (o := (b + 5)) (i := x2_2) (o2 := (b + 7 + x2_2.toNatClampNeg)) C0 hb hP (isV_a hb0) hi_4 rfl dX2_lacking_17 ?_
        refine lv_aload_n hx hb dX2_lacking_18 rfl (lv_at hl 2 rfl) ?_
        refine gf_X2_12 (o := b) (o2 := (b + 1)) C0 hb hP (isV_k hb0) rfl dX2_lacking_19 ?_
        refine gf_X2_69 (o := (b + 1)) (o2 := (b + 2)) C0 hb hP (isW_k (isV_w hb0)) rfl dX2_lacking_22 ?_
        refine lv_aload_n hx hb dX2_lacking_25 rfl (lv_at hl 2 rfl) ?_
        refine gf_X2_20 (o := b) (o2 := (b + 5)) C0 hb hP (isV_k hb0) rfl dX2_lacking_26 ?_
        refine lv_iload_n hx hb dX2_lacking_29 rfl (lv_at hl 0 rfl) ?_
        obtain ⟨hi_5, h⟩ := chk_s h
        refine m_aldW (o := (b + 5)) (i := x2_2) (o2 := (b + 7 + x2_2.toNatClampNeg)) C0 hb hP (isV_a hb0) hi_5 rfl dX2_lacking_30 ?_
        refine gf_X2_66 (o := (b + 7 + x2_2.toNatClampNeg)) C0 hb hP (isV_t hb0 (vp_lt hi_5)) dX2_lacking_31 ?_
        obtain ⟨hi_6, h⟩ := chk_s h
        refine m_iald (o := (b + 2)) (N := 12) (i := σ (b + 7 + x2_2.toNatClampNeg) 1) (j := (σ (b + 7 + x2_2.toNatClampNeg) 1).toNatClampNeg) C0 hb hP (isW_1 (isV_w hb0)) (by decide) hi_6 rfl dX2_lacking_34 ?_
        refine m_rVi (As := [.int (σ (b + 2) ((σ (b + 7 + x2_2.toNatClampNeg) 1).toNatClampNeg))]) (rest := []) (o := (b + 7 + x2_2.toNatClampNeg)) (ci := 3) C0 hb hml hl.1 wm_X2_86 md_X3_lacks (k_X3_lacks l G a σ hj (b + 7 + x2_2.toNatClampNeg) (isV_t hb0 (vp_lt hi_4)) (σ (b + 2) ((σ (b + 7 + x2_2.toNatClampNeg) 1).toNatClampNeg))) rfl rfl ⟨(Nat.le_of_ble_eq_true rfl), (Nat.le_of_ble_eq_true rfl)⟩ hP hS (isV_t hb0 (vp_lt hi_4)) (by decide) rfl rfl rfl (Nat.le_of_ble_eq_true rfl) dX2_lacking_35 ?_
        have J_8 : ∀ (x1_7 : Int32) (ls : Array Slot), f_X2_lacking_J47 x2_2 rec4 x1_7 = some q → lv_has ls 3 [(2, .int x2_2), (1, .int x1_7), (0, .ref (a b))] → W p l e ({ frames := 1, cells := 0, slots := 0, locals := 21 } : Room) s m ([.ref (a b)] : List Value).toArray below meth c s.heap [] 0 0 (MQ below (SI q) ([.ref (a b)] : List Value).toArray s 0 0 NF) (F0 m 47 ls []) := by
          intro x1_7 ls h hl
          unfold f_X2_lacking_J47 at h
          refine lv_iinc (v := x2_2 + 1) (lv' := [(2, .int (x2_2 + 1)), (1, .int x1_7), (0, .ref (a b))]) hx hb dX2_lacking_47 hl (k := 0) rfl rfl (by decide) rfl (fun ls hl => ?_)
          refine lv_goto (tgt := 4) hx hb dX2_lacking_50 (by decide) ?_
          exact ih4 x1_7 (x2_2 + 1) _ h (lv_sub hl [0, 1, 2] rfl)
        refine lv_if_eq (tgt := 47) hx hb dX2_lacking_38 (by decide) (fun (c_9 : (f_X3_lacks (b + 7 + x2_2.toNatClampNeg) (σ (b + 2) ((σ (b + 7 + x2_2.toNatClampNeg) 1).toNatClampNeg)) σ) = 0) => ?_) (fun (c_9 : ¬ (f_X3_lacks (b + 7 + x2_2.toNatClampNeg) (σ (b + 2) ((σ (b + 7 + x2_2.toNatClampNeg) 1).toNatClampNeg)) σ) = 0) => ?_)
        · rw [if_pos c_9] at h
          exact J_8 x1_1 _ h (lv_sub hl [0, 1, 2] rfl)
        · rw [if_neg c_9] at h
          refine lv_iload_n hx hb dX2_lacking_41 rfl (lv_at hl 1 rfl) ?_
          refine lv_iconst (v := 1) hx hb dX2_lacking_42 (by decide) ?_
          refine lv_iload_n hx hb dX2_lacking_43 rfl (lv_at hl 0 rfl) ?_
          refine lv_ishl hx hb dX2_lacking_44 ?_
          refine lv_ior hx hb dX2_lacking_45 ?_
          refine lv_istore_n (lv' := [(1, .int (x1_1 ||| (1 <<< (x2_2 &&& 31)))), (2, .int x2_2), (0, .ref (a b))]) hx hb dX2_lacking_46 rfl hl (by decide) rfl (fun ls hl => ?_)
          exact J_8 (x1_1 ||| (1 <<< (x2_2 &&& 31))) _ h (lv_sub hl [1, 0, 2] rfl)
  exact L_10 FU 0 0 _ h (lv_sub hl [0, 1, 2] rfl)
def f_X4_levelsTogether (b : Nat) (σ : Mem) : Option (Int32) := ((f_X5_together (b + 1) 12 σ).bind fun q_1 => some q_1)
set_option maxHeartbeats 4000000 in
set_option maxRecDepth 100000 in
theorem k_X4_levelsTogether (l : Launch) (G : GG) (a : Nat → Nat) (σ : Mem) (hj : INJ nR a) (b : Nat) (hb0 : isW b) (q : Int32) (h : f_X4_levelsTogether b σ = some q) : Met l yX4_levelsTogether (Cond.code yX4_levelsTogether cX4_levelsTogether 1 (some .int) :: TB) ({ frames := 1, cells := 0, slots := 0, locals := 22 } : Room) (PA G kR nR a σ [.ref (a b)]) (SI q) 0 0 NF := by
  refine M_ofW (by decide) hj kR_lt (Nat.le_of_ble_eq_true rfl) (fun p e s m below meth c ls C0 hb hml hr hlk hP hS hl => ?_)
  have C0 : CT p s _ m RX4 G kR nR a := C0
  have hx := C0.1
  have hts := C0.2.1
  have hown := C0.2.2.1
  have hl : lv_has ls 1 [(0, .ref (a b))] := hl
  unfold f_X4_levelsTogether at h
  refine lv_aload_n hx hb dX4_levelsTogether_0 rfl (lv_at hl 0 rfl) ?_
  refine gf_X4_9 (o := b) (o2 := (b + 1)) C0 hb hP (isW_k hb0) rfl dX4_levelsTogether_1 ?_
  obtain ⟨q_1, hq_2, h⟩ := bd_s h
  refine m_rNi (As := [.ref (a (b + 1))]) (rest := []) C0 hb hml hl.1 (C0.2.2.2.1.2.1.1) md_X5_together (k_X5_together l G a σ hj (b + 1) 12 (isW_1 hb0) (by decide) q_1 hq_2) rfl rfl ⟨(Nat.le_of_ble_eq_true rfl), (Nat.le_of_ble_eq_true rfl)⟩ hP hS rfl rfl (Nat.le_of_ble_eq_true rfl) dX4_levelsTogether_4 ?_
  exact m_si hx hb hr hlk (Option.some.inj h) dX4_levelsTogether_7
def f_X5_now (x1 : Int32) (σ : Mem) : Option (Int32 × Mem) := (if x1 = 0 then some (σ 2 4, σ) else (if x1 = 1 then ((f_X4_levelsTogether 2 σ).bind fun q_3 => some (q_3, σ)) else (if x1 = 2 then some (σ 2 3, σ) else (if x1 = 3 then ((f_X2_knowing 1 σ).bind fun q_7 => some (q_7, σ)) else (if x1 = 4 then ((f_X2_lacking 1 σ).bind fun q_10 => some (q_10, σ)) else (if x1 = 5 then ((f_X2_beliefsTogether 1 σ).bind fun q_13 => some (q_13, σ)) else (if x1 = 6 then ((f_X4_openingsTogether 2 σ).bind fun q_16 => some (q_16, σ)) else ((f_X5_finding (-1000001) σ).bind fun q_18 => some (q_18.1, q_18.2)))))))))
set_option maxHeartbeats 4000000 in
set_option maxRecDepth 100000 in
theorem k_X5_now (l : Launch) (G : GG) (a : Nat → Nat) (σ : Mem) (hj : INJ nR a) (x1 : Int32) (q : Int32 × Mem) (h : f_X5_now x1 σ = some q) : Met l yX5_now (Cond.code yX5_now cX5_now 2 (some .int) :: TB) ({ frames := 2, cells := 0, slots := 0, locals := 43 } : Room) (PA G kR nR a σ [.ref (a 0), .int x1]) (QI G kR nR a q) 0 0 (AW nR a) := by
  refine M_ofW (by decide) hj kR_lt (Nat.le_of_ble_eq_true rfl) (fun p e s m below meth c ls C0 hb hml hr hlk hP hS hl => ?_)
  have C0 : CT p s _ m RX5 G kR nR a := C0
  have hx := C0.1
  have hts := C0.2.1
  have hown := C0.2.2.1
  have hl : lv_has ls 2 [(0, .ref (a 0)), (1, .int x1)] := hl
  unfold f_X5_now at h
  refine lv_iload_n hx hb dX5_now_0 rfl (lv_at hl 1 rfl) ?_
  by_cases c_1 : x1 = 0
  · rw [if_pos c_1] at h
    refine lv_tableIn (off := 43) (tgt := 44) hx hb dX5_now_1 (by rw [c_1]; decide) (by rw [c_1]; decide) (by rw [c_1]; rfl) (by decide) ?_
    refine lv_aload_n hx hb dX5_now_44 rfl (lv_at hl 0 rfl) ?_
    refine gf_X5_12 (o := 0) (o2 := 1) C0 hb hP (rfl : kR 0 = 5) rfl dX5_now_45 ?_
    refine gf_X5_59 (o := 1) (o2 := 2) C0 hb hP (isV_k v1) rfl dX5_now_48 ?_
    refine gf_X5_129 (o := 2) C0 hb hP (isW_k (isV_w v1)) dX5_now_51 ?_
    exact m_ri hx hb hr hlk hP hS (Option.some.inj h) dX5_now_54
  · rw [if_neg c_1] at h
    by_cases c_2 : x1 = 1
    · rw [if_pos c_2] at h
      refine lv_tableIn (off := 54) (tgt := 55) hx hb dX5_now_1 (by rw [c_2]; decide) (by rw [c_2]; decide) (by rw [c_2]; rfl) (by decide) ?_
      refine lv_aload_n hx hb dX5_now_55 rfl (lv_at hl 0 rfl) ?_
      refine gf_X5_12 (o := 0) (o2 := 1) C0 hb hP (rfl : kR 0 = 5) rfl dX5_now_56 ?_
      refine gf_X5_59 (o := 1) (o2 := 2) C0 hb hP (isV_k v1) rfl dX5_now_59 ?_
      obtain ⟨q_3, hq_4, h⟩ := bd_s h
      refine m_rVi (As := []) (rest := []) (o := 2) (ci := 4) C0 hb hml hl.1 wm_X5_140 md_X4_levelsTogether (k_X4_levelsTogether l G a σ hj 2 (isV_w v1) q_3 hq_4) rfl rfl ⟨(Nat.le_of_ble_eq_true rfl), (Nat.le_of_ble_eq_true rfl)⟩ hP hS (isW_k (isV_w v1)) (by decide) rfl rfl rfl (Nat.le_of_ble_eq_true rfl) dX5_now_62 ?_
      exact m_ri hx hb hr hlk hP hS (Option.some.inj h) dX5_now_65
    · rw [if_neg c_2] at h
      by_cases c_5 : x1 = 2
      · rw [if_pos c_5] at h
        refine lv_tableIn (off := 65) (tgt := 66) hx hb dX5_now_1 (by rw [c_5]; decide) (by rw [c_5]; decide) (by rw [c_5]; rfl) (by decide) ?_
        refine lv_aload_n hx hb dX5_now_66 rfl (lv_at hl 0 rfl) ?_
        refine gf_X5_12 (o := 0) (o2 := 1) C0 hb hP (rfl : kR 0 = 5) rfl dX5_now_67 ?_
        refine gf_X5_59 (o := 1) (o2 := 2) C0 hb hP (isV_k v1) rfl dX5_now_70 ?_
        refine gf_X5_143 (o := 2) C0 hb hP (isW_k (isV_w v1)) dX5_now_73 ?_
        exact m_ri hx hb hr hlk hP hS (Option.some.inj h) dX5_now_76
      · rw [if_neg c_5] at h
        by_cases c_6 : x1 = 3
        · rw [if_pos c_6] at h
          refine lv_tableIn (off := 76) (tgt := 77) hx hb dX5_now_1 (by rw [c_6]; decide) (by rw [c_6]; decide) (by rw [c_6]; rfl) (by decide) ?_
          refine lv_aload_n hx hb dX5_now_77 rfl (lv_at hl 0 rfl) ?_
          refine gf_X5_12 (o := 0) (o2 := 1) C0 hb hP (rfl : kR 0 = 5) rfl dX5_now_78 ?_
          obtain ⟨q_7, hq_8, h⟩ := bd_s h
          refine m_rVi (As := []) (rest := []) (o := 1) (ci := 2) C0 hb hml hl.1 wm_X5_137 md_X2_knowing (k_X2_knowing l G a σ hj 1 v1 q_7 hq_8) rfl rfl ⟨(Nat.le_of_ble_eq_true rfl), (Nat.le_of_ble_eq_true rfl)⟩ hP hS (isV_k v1) (by decide) rfl rfl rfl (Nat.le_of_ble_eq_true rfl) dX5_now_81 ?_
          exact m_ri hx hb hr hlk hP hS (Option.some.inj h) dX5_now_84
        · rw [if_neg c_6] at h
          by_cases c_9 : x1 = 4
          · rw [if_pos c_9] at h
            refine lv_tableIn (off := 84) (tgt := 85) hx hb dX5_now_1 (by rw [c_9]; decide) (by rw [c_9]; decide) (by rw [c_9]; rfl) (by decide) ?_
            refine lv_aload_n hx hb dX5_now_85 rfl (lv_at hl 0 rfl) ?_
            refine gf_X5_12 (o := 0) (o2 := 1) C0 hb hP (rfl : kR 0 = 5) rfl dX5_now_86 ?_
            obtain ⟨q_10, hq_11, h⟩ := bd_s h
            refine m_rVi (As := []) (rest := []) (o := 1) (ci := 2) C0 hb hml hl.1 wm_X5_146 md_X2_lacking (k_X2_lacking l G a σ hj 1 v1 q_10 hq_11) rfl rfl ⟨(Nat.le_of_ble_eq_true rfl), (Nat.le_of_ble_eq_true rfl)⟩ hP hS (isV_k v1) (by decide) rfl rfl rfl (Nat.le_of_ble_eq_true rfl) dX5_now_89 ?_
            exact m_ri hx hb hr hlk hP hS (Option.some.inj h) dX5_now_92
          · rw [if_neg c_9] at h
            by_cases c_12 : x1 = 5
            · rw [if_pos c_12] at h
              refine lv_tableIn (off := 92) (tgt := 93) hx hb dX5_now_1 (by rw [c_12]; decide) (by rw [c_12]; decide) (by rw [c_12]; rfl) (by decide) ?_
              refine lv_aload_n hx hb dX5_now_93 rfl (lv_at hl 0 rfl) ?_
              refine gf_X5_12 (o := 0) (o2 := 1) C0 hb hP (rfl : kR 0 = 5) rfl dX5_now_94 ?_
              obtain ⟨q_13, hq_14, h⟩ := bd_s h
              refine m_rVi (As := []) (rest := []) (o := 1) (ci := 2) C0 hb hml hl.1 wm_X5_149 md_X2_beliefsTogether (k_X2_beliefsTogether l G a σ hj 1 v1 q_13 hq_14) rfl rfl ⟨(Nat.le_of_ble_eq_true rfl), (Nat.le_of_ble_eq_true rfl)⟩ hP hS (isV_k v1) (by decide) rfl rfl rfl (Nat.le_of_ble_eq_true rfl) dX5_now_97 ?_
              exact m_ri hx hb hr hlk hP hS (Option.some.inj h) dX5_now_100
            · rw [if_neg c_12] at h
              by_cases c_15 : x1 = 6
              · rw [if_pos c_15] at h
                refine lv_tableIn (off := 100) (tgt := 101) hx hb dX5_now_1 (by rw [c_15]; decide) (by rw [c_15]; decide) (by rw [c_15]; rfl) (by decide) ?_
                refine lv_aload_n hx hb dX5_now_101 rfl (lv_at hl 0 rfl) ?_
                refine gf_X5_12 (o := 0) (o2 := 1) C0 hb hP (rfl : kR 0 = 5) rfl dX5_now_102 ?_
                refine gf_X5_59 (o := 1) (o2 := 2) C0 hb hP (isV_k v1) rfl dX5_now_105 ?_
                obtain ⟨q_16, hq_17, h⟩ := bd_s h
                refine m_rVi (As := []) (rest := []) (o := 2) (ci := 4) C0 hb hml hl.1 wm_X5_71 md_X4_openingsTogether (k_X4_openingsTogether l G a σ hj 2 (isV_w v1) q_16 hq_17) rfl rfl ⟨(Nat.le_of_ble_eq_true rfl), (Nat.le_of_ble_eq_true rfl)⟩ hP hS (isW_k (isV_w v1)) (by decide) rfl rfl rfl (Nat.le_of_ble_eq_true rfl) dX5_now_108 ?_
                exact m_ri hx hb hr hlk hP hS (Option.some.inj h) dX5_now_111
              · rw [if_neg c_15] at h
                refine lv_tableOut (tgt := 112) hx hb dX5_now_1 (by have t0 := lv_neT c_1 (a := 0) rfl; have t1 := lv_neT c_2 (a := 1) rfl; have t2 := lv_neT c_5 (a := 2) rfl; have t3 := lv_neT c_6 (a := 3) rfl; have t4 := lv_neT c_9 (a := 4) rfl; have t5 := lv_neT c_12 (a := 5) rfl; have t6 := lv_neT c_15 (a := 6) rfl; omega) (by decide) ?_
                refine lv_aload_n hx hb dX5_now_112 rfl (lv_at hl 0 rfl) ?_
                refine lv_ldc hx hb hown (hts _ wk_X5_54) dX5_now_113 ?_
                obtain ⟨q_18, hq_19, h⟩ := bd_s h
                refine m_cVi (As := [.int (-1000001)]) (rest := []) (o := 0) (ci := 5) C0 hb hml hl.1 wm_X5_55 md_X5_finding (k_X5_finding l G a σ hj (-1000001) q_18 hq_19) rfl rfl ⟨(Nat.le_of_ble_eq_true rfl), (Nat.le_of_ble_eq_true rfl)⟩ hP hS (rfl : kR 0 = 5) (by decide) rfl rfl rfl (Nat.le_of_ble_eq_true rfl) dX5_now_115 (fun H locs hP hS => ?_)
                exact m_ri hx hb hr hlk hP hS (Option.some.inj h) dX5_now_118
def f_X4_become (b : Nat) (c1 : Nat) (σ : Mem) : Mem := mst (mst (mcp (mcp σ (b + 1) (va_cpy (σ (c1 + 1)) (σ (b + 1)) 0 0 12)) (b + 3) (va_cpy ((mcp σ (b + 1) (va_cpy (σ (c1 + 1)) (σ (b + 1)) 0 0 12)) (c1 + 3)) ((mcp σ (b + 1) (va_cpy (σ (c1 + 1)) (σ (b + 1)) 0 0 12)) (b + 3)) 0 0 8)) b 3 ((mcp (mcp σ (b + 1) (va_cpy (σ (c1 + 1)) (σ (b + 1)) 0 0 12)) (b + 3) (va_cpy ((mcp σ (b + 1) (va_cpy (σ (c1 + 1)) (σ (b + 1)) 0 0 12)) (c1 + 3)) ((mcp σ (b + 1) (va_cpy (σ (c1 + 1)) (σ (b + 1)) 0 0 12)) (b + 3)) 0 0 8)) c1 3)) b 4 ((mst (mcp (mcp σ (b + 1) (va_cpy (σ (c1 + 1)) (σ (b + 1)) 0 0 12)) (b + 3) (va_cpy ((mcp σ (b + 1) (va_cpy (σ (c1 + 1)) (σ (b + 1)) 0 0 12)) (c1 + 3)) ((mcp σ (b + 1) (va_cpy (σ (c1 + 1)) (σ (b + 1)) 0 0 12)) (b + 3)) 0 0 8)) b 3 ((mcp (mcp σ (b + 1) (va_cpy (σ (c1 + 1)) (σ (b + 1)) 0 0 12)) (b + 3) (va_cpy ((mcp σ (b + 1) (va_cpy (σ (c1 + 1)) (σ (b + 1)) 0 0 12)) (c1 + 3)) ((mcp σ (b + 1) (va_cpy (σ (c1 + 1)) (σ (b + 1)) 0 0 12)) (b + 3)) 0 0 8)) c1 3)) c1 4)
set_option maxHeartbeats 4000000 in
set_option maxRecDepth 100000 in
theorem k_X4_become (l : Launch) (G : GG) (a : Nat → Nat) (σ : Mem) (hj : INJ nR a) (b : Nat) (hb0 : isW b) (c1 : Nat) (hk1 : isW c1) : Met l yX4_become (Cond.code yX4_become cX4_become 2 none :: TB) ({ frames := 1, cells := 0, slots := 0, locals := 26 } : Room) (PA G kR nR a σ [.ref (a b), .ref (a c1)]) (QV G kR nR a (f_X4_become b c1 σ)) 0 0 (AW nR a) := by
  generalize h : f_X4_become b c1 σ = q
  refine M_ofW (by decide) hj kR_lt (Nat.le_of_ble_eq_true rfl) (fun p e s m below meth c ls C0 hb hml hr hlk hP hS hl => ?_)
  have C0 : CT p s _ m RX4 G kR nR a := C0
  have hx := C0.1
  have hts := C0.2.1
  have hown := C0.2.2.1
  have hl : lv_has ls 2 [(0, .ref (a b)), (1, .ref (a c1))] := hl
  unfold f_X4_become at h
  refine lv_aload_n hx hb dX4_become_0 rfl (lv_at hl 1 rfl) ?_
  refine gf_X4_9 (o := c1) (o2 := (c1 + 1)) C0 hb hP (isW_k hk1) rfl dX4_become_1 ?_
  refine lv_iconst (v := 0) hx hb dX4_become_4 (by decide) ?_
  refine lv_aload_n hx hb dX4_become_5 rfl (lv_at hl 0 rfl) ?_
  refine gf_X4_9 (o := b) (o2 := (b + 1)) C0 hb hP (isW_k hb0) rfl dX4_become_6 ?_
  refine lv_iconst (v := 0) hx hb dX4_become_9 (by decide) ?_
  refine lv_bipush (v := 12) hx hb dX4_become_10 (by decide) ?_
  refine m_copy (o := (c1 + 1)) (o1 := (b + 1)) (N := 12) (N1 := 12) (sp := 0) (dp := 0) (z := 12) (sp' := 0) (dp' := 0) (z' := 12) (rest := []) C0 hb hml hl.1 wm_X4_28 hP hS (isW_1 hk1) (by decide) (isW_1 hb0) (by decide) ⟨by decide, by decide, by decide, by decide, by decide⟩ (by decide) (by decide) (by decide) (Nat.le_of_ble_eq_true rfl) (Nat.le_of_ble_eq_true rfl) dX4_become_12 (fun H locs hP hS => ?_)
  refine lv_aload_n hx hb dX4_become_15 rfl (lv_at hl 1 rfl) ?_
  refine gf_X4_18 (o := c1) (o2 := (c1 + 3)) C0 hb hP (isW_k hk1) rfl dX4_become_16 ?_
  refine lv_iconst (v := 0) hx hb dX4_become_19 (by decide) ?_
  refine lv_aload_n hx hb dX4_become_20 rfl (lv_at hl 0 rfl) ?_
  refine gf_X4_18 (o := b) (o2 := (b + 3)) C0 hb hP (isW_k hb0) rfl dX4_become_21 ?_
  refine lv_iconst (v := 0) hx hb dX4_become_24 (by decide) ?_
  refine lv_bipush (v := 8) hx hb dX4_become_25 (by decide) ?_
  refine m_copy (o := (c1 + 3)) (o1 := (b + 3)) (N := 8) (N1 := 8) (sp := 0) (dp := 0) (z := 8) (sp' := 0) (dp' := 0) (z' := 8) (rest := []) C0 hb hml hl.1 wm_X4_28 hP hS (isW_3 hk1) (by decide) (isW_3 hb0) (by decide) ⟨by decide, by decide, by decide, by decide, by decide⟩ (by decide) (by decide) (by decide) (Nat.le_of_ble_eq_true rfl) (Nat.le_of_ble_eq_true rfl) dX4_become_27 (fun H locs hP hS => ?_)
  refine lv_aload_n hx hb dX4_become_30 rfl (lv_at hl 0 rfl) ?_
  refine lv_aload_n hx hb dX4_become_31 rfl (lv_at hl 1 rfl) ?_
  refine gf_X4_21 (o := c1) C0 hb hP (isW_k hk1) dX4_become_32 ?_
  refine pf_X4_21 (o := b) C0 hb hP hS (isW_k hb0) dX4_become_35 (fun H locs hP hS => ?_)
  refine lv_aload_n hx hb dX4_become_38 rfl (lv_at hl 0 rfl) ?_
  refine lv_aload_n hx hb dX4_become_39 rfl (lv_at hl 1 rfl) ?_
  refine gf_X4_25 (o := c1) C0 hb hP (isW_k hk1) dX4_become_40 ?_
  refine pf_X4_25 (o := b) C0 hb hP hS (isW_k hb0) dX4_become_43 (fun H locs hP hS => ?_)
  exact m_rv hx hb hr hlk hP hS h dX4_become_46
def f_X5_waterTried (σ : Mem) : Mem := (f_X4_become 32 2 σ)
set_option maxHeartbeats 4000000 in
set_option maxRecDepth 100000 in
theorem k_X5_waterTried (l : Launch) (G : GG) (a : Nat → Nat) (σ : Mem) (hj : INJ nR a)  : Met l yX5_waterTried (Cond.code yX5_waterTried cX5_waterTried 1 (some (.object "ValveRiver$Water")) :: TB) ({ frames := 2, cells := 0, slots := 0, locals := 47 } : Room) (PA G kR nR a σ [.ref (a 0)]) (QR G kR nR a 32 (f_X5_waterTried σ)) 0 0 (AW nR a) := by
  generalize h : f_X5_waterTried σ = q
  refine M_ofW (by decide) hj kR_lt (Nat.le_of_ble_eq_true rfl) (fun p e s m below meth c ls C0 hb hml hr hlk hP hS hl => ?_)
  have C0 : CT p s _ m RX5 G kR nR a := C0
  have hx := C0.1
  have hts := C0.2.1
  have hown := C0.2.2.1
  have hl : lv_has ls 1 [(0, .ref (a 0))] := hl
  unfold f_X5_waterTried at h
  refine lv_aload_n hx hb dX5_waterTried_0 rfl (lv_at hl 0 rfl) ?_
  refine gf_X5_19 (o := 0) (o2 := 31) C0 hb hP (rfl : kR 0 = 5) rfl dX5_waterTried_1 ?_
  refine gf_X5_59 (o := 31) (o2 := 32) C0 hb hP (isV_k v31) rfl dX5_waterTried_4 ?_
  refine lv_aload_n hx hb dX5_waterTried_7 rfl (lv_at hl 0 rfl) ?_
  refine gf_X5_12 (o := 0) (o2 := 1) C0 hb hP (rfl : kR 0 = 5) rfl dX5_waterTried_8 ?_
  refine gf_X5_59 (o := 1) (o2 := 2) C0 hb hP (isV_k v1) rfl dX5_waterTried_11 ?_
  refine m_cVv (As := [.ref (a 2)]) (rest := []) (o := 32) (ci := 4) C0 hb hml hl.1 wm_X5_294 md_X4_become (k_X4_become l G a σ hj 32 (isV_w v31) 2 (isV_w v1)) rfl rfl ⟨(Nat.le_of_ble_eq_true rfl), (Nat.le_of_ble_eq_true rfl)⟩ hP hS (isW_k (isV_w v31)) (by decide) rfl rfl rfl (Nat.le_of_ble_eq_true rfl) dX5_waterTried_14 (fun H locs hP hS => ?_)
  refine lv_aload_n hx hb dX5_waterTried_17 rfl (lv_at hl 0 rfl) ?_
  refine gf_X5_19 (o := 0) (o2 := 31) C0 hb hP (rfl : kR 0 = 5) rfl dX5_waterTried_18 ?_
  refine gf_X5_59 (o := 31) (o2 := 32) C0 hb hP (isV_k v31) rfl dX5_waterTried_21 ?_
  exact m_rr hx hb hr hlk hP hS h dX5_waterTried_24
def f_X5_ahead (x1 : Int32) (x2 : Int32) (σ : Mem) : Option (Int32 × Mem) := (if (f_X5_outside x1 11) = 0 then (if (f_X5_outside x2 100) = 0 then ((f_X4_run 32 x2 (f_X5_waterTried σ)).bind fun q_5 => (chk x1 12 (some (q_5 33 x1.toNatClampNeg, q_5)))) else ((f_X5_finding (-1000001) σ).bind fun q_8 => some (q_8.1, q_8.2))) else ((f_X5_finding (-1000001) σ).bind fun q_2 => some (q_2.1, q_2.2)))
set_option maxHeartbeats 4000000 in
set_option maxRecDepth 100000 in
theorem k_X5_ahead (l : Launch) (G : GG) (a : Nat → Nat) (σ : Mem) (hj : INJ nR a) (x1 : Int32) (x2 : Int32) (q : Int32 × Mem) (h : f_X5_ahead x1 x2 σ = some q) : Met l yX5_ahead (Cond.code yX5_ahead cX5_ahead 4 (some .int) :: TB) ({ frames := 3, cells := 0, slots := 0, locals := 71 } : Room) (PA G kR nR a σ [.ref (a 0), .int x1, .int x2]) (QI G kR nR a q) 0 0 (AW nR a) := by
  refine M_ofW (by decide) hj kR_lt (Nat.le_of_ble_eq_true rfl) (fun p e s m below meth c ls C0 hb hml hr hlk hP hS hl => ?_)
  have C0 : CT p s _ m RX5 G kR nR a := C0
  have hx := C0.1
  have hts := C0.2.1
  have hown := C0.2.2.1
  have hl : lv_has ls 4 [(0, .ref (a 0)), (1, .int x1), (2, .int x2)] := hl
  unfold f_X5_ahead at h
  refine lv_iload_n hx hb dX5_ahead_0 rfl (lv_at hl 1 rfl) ?_
  refine lv_bipush (v := 11) hx hb dX5_ahead_1 (by decide) ?_
  refine m_pSi (As := [.int x1, .int 11]) (rest := []) C0.z hb hml hl.1 wm_X5_50 md_X5_outside (k_X5_outside l x1 11) rfl rfl ⟨(Nat.le_of_ble_eq_true rfl), (Nat.le_of_ble_eq_true rfl)⟩ rfl rfl (Nat.le_of_ble_eq_true rfl) dX5_ahead_3 ?_
  refine lv_if_ne (tgt := 18) hx hb dX5_ahead_6 (by decide) (fun (c_1 : ¬ (f_X5_outside x1 11) = 0) => ?_) (fun (c_1 : (f_X5_outside x1 11) = 0) => ?_)
  · rw [if_neg c_1] at h
    refine lv_aload_n hx hb dX5_ahead_18 rfl (lv_at hl 0 rfl) ?_
    refine lv_ldc hx hb hown (hts _ wk_X5_54) dX5_ahead_19 ?_
    obtain ⟨q_2, hq_3, h⟩ := bd_s h
    refine m_cVi (As := [.int (-1000001)]) (rest := []) (o := 0) (ci := 5) C0 hb hml hl.1 wm_X5_55 md_X5_finding (k_X5_finding l G a σ hj (-1000001) q_2 hq_3) rfl rfl ⟨(Nat.le_of_ble_eq_true rfl), (Nat.le_of_ble_eq_true rfl)⟩ hP hS (rfl : kR 0 = 5) (by decide) rfl rfl rfl (Nat.le_of_ble_eq_true rfl) dX5_ahead_21 (fun H locs hP hS => ?_)
    exact m_ri hx hb hr hlk hP hS (Option.some.inj h) dX5_ahead_24
  · rw [if_pos c_1] at h
    refine lv_iload_n hx hb dX5_ahead_9 rfl (lv_at hl 2 rfl) ?_
    refine lv_bipush (v := 100) hx hb dX5_ahead_10 (by decide) ?_
    refine m_pSi (As := [.int x2, .int 100]) (rest := []) C0.z hb hml hl.1 wm_X5_50 md_X5_outside (k_X5_outside l x2 100) rfl rfl ⟨(Nat.le_of_ble_eq_true rfl), (Nat.le_of_ble_eq_true rfl)⟩ rfl rfl (Nat.le_of_ble_eq_true rfl) dX5_ahead_12 ?_
    refine lv_if_eq (tgt := 25) hx hb dX5_ahead_15 (by decide) (fun (c_4 : (f_X5_outside x2 100) = 0) => ?_) (fun (c_4 : ¬ (f_X5_outside x2 100) = 0) => ?_)
    · rw [if_pos c_4] at h
      refine lv_aload_n hx hb dX5_ahead_25 rfl (lv_at hl 0 rfl) ?_
      refine m_cVr (As := []) (rest := []) (o := 0) (ci := 5) C0 hb hml hl.1 wm_X5_152 md_X5_waterTried (k_X5_waterTried l G a σ hj) rfl rfl ⟨(Nat.le_of_ble_eq_true rfl), (Nat.le_of_ble_eq_true rfl)⟩ hP hS (rfl : kR 0 = 5) (by decide) rfl rfl rfl (Nat.le_of_ble_eq_true rfl) dX5_ahead_26 (fun H locs hP hS => ?_)
      refine lv_astore_n (lv' := [(3, .ref (a 32)), (0, .ref (a 0)), (1, .int x1), (2, .int x2)]) hx hb dX5_ahead_29 rfl hl (by decide) rfl (fun ls hl => ?_)
      refine lv_aload_n hx hb dX5_ahead_30 rfl (lv_at hl 0 rfl) ?_
      refine lv_iload_n hx hb dX5_ahead_31 rfl (lv_at hl 3 rfl) ?_
      obtain ⟨q_5, hq_6, h⟩ := bd_s h
      refine m_cVv (As := [.int x2]) (rest := []) (o := 32) (ci := 4) C0 hb hml hl.1 wm_X5_156 md_X4_run (k_X4_run l G a (f_X5_waterTried σ) hj 32 (isV_w v31) x2 q_5 hq_6) rfl rfl ⟨(Nat.le_of_ble_eq_true rfl), (Nat.le_of_ble_eq_true rfl)⟩ hP hS (isW_k (isV_w v31)) (by decide) rfl rfl rfl (Nat.le_of_ble_eq_true rfl) dX5_ahead_32 (fun H locs hP hS => ?_)
      refine lv_aload_n hx hb dX5_ahead_35 rfl (lv_at hl 0 rfl) ?_
      refine gf_X5_63 (o := 32) (o2 := 33) C0 hb hP (isW_k (isV_w v31)) rfl dX5_ahead_36 ?_
      refine lv_iload_n hx hb dX5_ahead_39 rfl (lv_at hl 2 rfl) ?_
      obtain ⟨hi_7, h⟩ := chk_s h
      refine m_iald (o := 33) (N := 12) (i := x1) (j := x1.toNatClampNeg) C0 hb hP (isW_1 (isV_w v31)) (by decide) hi_7 rfl dX5_ahead_40 ?_
      exact m_ri hx hb hr hlk hP hS (Option.some.inj h) dX5_ahead_41
    · rw [if_neg c_4] at h
      refine lv_aload_n hx hb dX5_ahead_18 rfl (lv_at hl 0 rfl) ?_
      refine lv_ldc hx hb hown (hts _ wk_X5_54) dX5_ahead_19 ?_
      obtain ⟨q_8, hq_9, h⟩ := bd_s h
      refine m_cVi (As := [.int (-1000001)]) (rest := []) (o := 0) (ci := 5) C0 hb hml hl.1 wm_X5_55 md_X5_finding (k_X5_finding l G a σ hj (-1000001) q_8 hq_9) rfl rfl ⟨(Nat.le_of_ble_eq_true rfl), (Nat.le_of_ble_eq_true rfl)⟩ hP hS (rfl : kR 0 = 5) (by decide) rfl rfl rfl (Nat.le_of_ble_eq_true rfl) dX5_ahead_21 (fun H locs hP hS => ?_)
      exact m_ri hx hb hr hlk hP hS (Option.some.inj h) dX5_ahead_24
def f_X3_become (b : Nat) (c1 : Nat) (σ : Mem) : Mem := mst (mst (mst (mst (mst σ b 0 (σ c1 0)) b 1 ((mst σ b 0 (σ c1 0)) c1 1)) b 2 ((mst (mst σ b 0 (σ c1 0)) b 1 ((mst σ b 0 (σ c1 0)) c1 1)) c1 2)) b 3 ((mst (mst (mst σ b 0 (σ c1 0)) b 1 ((mst σ b 0 (σ c1 0)) c1 1)) b 2 ((mst (mst σ b 0 (σ c1 0)) b 1 ((mst σ b 0 (σ c1 0)) c1 1)) c1 2)) c1 3)) b 4 ((mst (mst (mst (mst σ b 0 (σ c1 0)) b 1 ((mst σ b 0 (σ c1 0)) c1 1)) b 2 ((mst (mst σ b 0 (σ c1 0)) b 1 ((mst σ b 0 (σ c1 0)) c1 1)) c1 2)) b 3 ((mst (mst (mst σ b 0 (σ c1 0)) b 1 ((mst σ b 0 (σ c1 0)) c1 1)) b 2 ((mst (mst σ b 0 (σ c1 0)) b 1 ((mst σ b 0 (σ c1 0)) c1 1)) c1 2)) c1 3)) c1 4)
set_option maxHeartbeats 4000000 in
set_option maxRecDepth 100000 in
theorem k_X3_become (l : Launch) (G : GG) (a : Nat → Nat) (σ : Mem) (hj : INJ nR a) (b : Nat) (hb0 : kR b = 3) (c1 : Nat) (hk1 : kR c1 = 3) : Met l yX3_become (Cond.code yX3_become cX3_become 2 none :: TB) ({ frames := 0, cells := 0, slots := 0, locals := 0 } : Room) (PA G kR nR a σ [.ref (a b), .ref (a c1)]) (QV G kR nR a (f_X3_become b c1 σ)) 0 0 (AW nR a) := by
  generalize h : f_X3_become b c1 σ = q
  refine M_ofW (by decide) hj kR_lt (Nat.le_of_ble_eq_true rfl) (fun p e s m below meth c ls C0 hb hml hr hlk hP hS hl => ?_)
  have C0 : CT p s _ m RX3 G kR nR a := C0
  have hx := C0.1
  have hts := C0.2.1
  have hown := C0.2.2.1
  have hl : lv_has ls 2 [(0, .ref (a b)), (1, .ref (a c1))] := hl
  unfold f_X3_become at h
  refine lv_aload_n hx hb dX3_become_0 rfl (lv_at hl 0 rfl) ?_
  refine lv_aload_n hx hb dX3_become_1 rfl (lv_at hl 1 rfl) ?_
  refine gf_X3_11 (o := c1) C0 hb hP hk1 dX3_become_2 ?_
  refine pf_X3_11 (o := b) C0 hb hP hS hb0 dX3_become_5 (fun H locs hP hS => ?_)
  refine lv_aload_n hx hb dX3_become_8 rfl (lv_at hl 0 rfl) ?_
  refine lv_aload_n hx hb dX3_become_9 rfl (lv_at hl 1 rfl) ?_
  refine gf_X3_15 (o := c1) C0 hb hP hk1 dX3_become_10 ?_
  refine pf_X3_15 (o := b) C0 hb hP hS hb0 dX3_become_13 (fun H locs hP hS => ?_)
  refine lv_aload_n hx hb dX3_become_16 rfl (lv_at hl 0 rfl) ?_
  refine lv_aload_n hx hb dX3_become_17 rfl (lv_at hl 1 rfl) ?_
  refine gf_X3_18 (o := c1) C0 hb hP hk1 dX3_become_18 ?_
  refine pf_X3_18 (o := b) C0 hb hP hS hb0 dX3_become_21 (fun H locs hP hS => ?_)
  refine lv_aload_n hx hb dX3_become_24 rfl (lv_at hl 0 rfl) ?_
  refine lv_aload_n hx hb dX3_become_25 rfl (lv_at hl 1 rfl) ?_
  refine gf_X3_21 (o := c1) C0 hb hP hk1 dX3_become_26 ?_
  refine pf_X3_21 (o := b) C0 hb hP hS hb0 dX3_become_29 (fun H locs hP hS => ?_)
  refine lv_aload_n hx hb dX3_become_32 rfl (lv_at hl 0 rfl) ?_
  refine lv_aload_n hx hb dX3_become_33 rfl (lv_at hl 1 rfl) ?_
  refine gf_X3_24 (o := c1) C0 hb hP hk1 dX3_become_34 ?_
  refine pf_X3_24 (o := b) C0 hb hP hS hb0 dX3_become_37 (fun H locs hP hS => ?_)
  exact m_rv hx hb hr hlk hP hS h dX3_become_40

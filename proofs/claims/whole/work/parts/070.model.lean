def f_X6_becomes (x1 : Int32) (x2 : Int32) (σ : Mem) : Option (Int32 × Mem) := (chk x1 74 (chk x1 74 (some (σ 1 x1.toNatClampNeg, mst σ 1 x1.toNatClampNeg x2))))
set_option maxHeartbeats 4000000 in
set_option maxRecDepth 100000 in
theorem k_X6_becomes (l : Launch) (G : GG) (a : Nat → Nat) (σ : Mem) (hj : INJ nM a) (x1 : Int32) (x2 : Int32) (q : Int32 × Mem) (h : f_X6_becomes x1 x2 σ = some q) : Met l yX6_becomes (Cond.code yX6_becomes cX6_becomes 4 (some .int) :: TB) ({ frames := 0, cells := 0, slots := 0, locals := 0 } : Room) (PA G kM nM a σ [.ref (a 0), .int x1, .int x2]) (QI G kM nM a q) 0 0 (AW nM a) := by
  refine M_ofW (by decide) hj kM_lt (Nat.le_of_ble_eq_true rfl) (fun p e s m below meth c ls C0 hb hml hr hlk hP hS hl => ?_)
  have C0 : CT p s _ m RX6 G kM nM a := C0
  have hx := C0.1
  have hts := C0.2.1
  have hown := C0.2.2.1
  have hl : lv_has ls 4 [(0, .ref (a 0)), (1, .int x1), (2, .int x2)] := hl
  unfold f_X6_becomes at h
  refine lv_aload_n hx hb dX6_becomes_0 rfl (lv_at hl 0 rfl) ?_
  refine gf_X6_7 (o := 0) (o2 := 1) C0 hb hP (rfl : kM 0 = 6) rfl dX6_becomes_1 ?_
  refine lv_iload_n hx hb dX6_becomes_4 rfl (lv_at hl 1 rfl) ?_
  obtain ⟨hi_1, h⟩ := chk_s h
  refine m_iald (o := 1) (N := 74) (i := x1) (j := x1.toNatClampNeg) C0 hb hP (rfl : kM 1 = 100 + 74) (by decide) hi_1 rfl dX6_becomes_5 ?_
  refine lv_istore_n (lv' := [(3, .int (σ 1 x1.toNatClampNeg)), (0, .ref (a 0)), (1, .int x1), (2, .int x2)]) hx hb dX6_becomes_6 rfl hl (by decide) rfl (fun ls hl => ?_)
  refine lv_aload_n hx hb dX6_becomes_7 rfl (lv_at hl 1 rfl) ?_
  refine gf_X6_7 (o := 0) (o2 := 1) C0 hb hP (rfl : kM 0 = 6) rfl dX6_becomes_8 ?_
  refine lv_iload_n hx hb dX6_becomes_11 rfl (lv_at hl 2 rfl) ?_
  refine lv_iload_n hx hb dX6_becomes_12 rfl (lv_at hl 3 rfl) ?_
  obtain ⟨hi_2, h⟩ := chk_s h
  refine m_iast (o := 1) (N := 74) (i := x1) (j := x1.toNatClampNeg) C0 hb hP hS (rfl : kM 1 = 100 + 74) (by decide) hi_2 rfl dX6_becomes_13 (fun H locs hP hS => ?_)
  refine lv_iload_n hx hb dX6_becomes_14 rfl (lv_at hl 0 rfl) ?_
  exact m_ri hx hb hr hlk hP hS (Option.some.inj h) dX6_becomes_15
def f_X6_finds (x1 : Int32) (σ : Mem) : Option (Int32 × Mem) := (chk ((-1000001) - x1) 7 (chk ((-1000001) - x1) 7 (some (x1, mst σ 5 (((-1000001) - x1).toNatClampNeg) ((σ 5 (((-1000001) - x1).toNatClampNeg)) + 1)))))
set_option maxHeartbeats 4000000 in
set_option maxRecDepth 100000 in
theorem k_X6_finds (l : Launch) (G : GG) (a : Nat → Nat) (σ : Mem) (hj : INJ nM a) (x1 : Int32) (q : Int32 × Mem) (h : f_X6_finds x1 σ = some q) : Met l yX6_finds (Cond.code yX6_finds cX6_finds 2 (some .int) :: TB) ({ frames := 0, cells := 0, slots := 0, locals := 0 } : Room) (PA G kM nM a σ [.ref (a 0), .int x1]) (QI G kM nM a q) 0 0 (AW nM a) := by
  refine M_ofW (by decide) hj kM_lt (Nat.le_of_ble_eq_true rfl) (fun p e s m below meth c ls C0 hb hml hr hlk hP hS hl => ?_)
  have C0 : CT p s _ m RX6 G kM nM a := C0
  have hx := C0.1
  have hts := C0.2.1
  have hown := C0.2.2.1
  have hl : lv_has ls 2 [(0, .ref (a 0)), (1, .int x1)] := hl
  unfold f_X6_finds at h
  refine lv_aload_n hx hb dX6_finds_0 rfl (lv_at hl 0 rfl) ?_
  refine gf_X6_22 (o := 0) (o2 := 5) C0 hb hP (rfl : kM 0 = 6) rfl dX6_finds_1 ?_
  refine lv_ldc hx hb hown (hts _ wk_X6_46) dX6_finds_4 ?_
  refine lv_iload_n hx hb dX6_finds_6 rfl (lv_at hl 1 rfl) ?_
  refine lv_isub hx hb dX6_finds_7 ?_
  refine lv_dup2_11 hx hb dX6_finds_8 rfl rfl ?_
  obtain ⟨hi_1, h⟩ := chk_s h
  refine m_iald (o := 5) (N := 7) (i := (-1000001) - x1) (j := ((-1000001) - x1).toNatClampNeg) C0 hb hP (rfl : kM 5 = 100 + 7) (by decide) hi_1 rfl dX6_finds_9 ?_
  refine lv_iconst (v := 1) hx hb dX6_finds_10 (by decide) ?_
  refine lv_iadd hx hb dX6_finds_11 ?_
  obtain ⟨hi_2, h⟩ := chk_s h
  refine m_iast (o := 5) (N := 7) (i := (-1000001) - x1) (j := ((-1000001) - x1).toNatClampNeg) C0 hb hP hS (rfl : kM 5 = 100 + 7) (by decide) hi_2 rfl dX6_finds_12 (fun H locs hP hS => ?_)
  refine lv_iload_n hx hb dX6_finds_13 rfl (lv_at hl 1 rfl) ?_
  exact m_ri hx hb hr hlk hP hS (Option.some.inj h) dX6_finds_14
def f_X6_level (x1 : Int32) (x2 : Int32) (σ : Mem) : Option (Int32 × Mem) := (if (f_X6_isCell x1) = 0 then ((f_X6_finds (-1000001) σ).bind fun q_2 => some (q_2.1, q_2.2)) else (if (f_X6_in x2.toInt64 0 9999) = 0 then ((f_X6_finds (-1000001) σ).bind fun q_5 => some (q_5.1, q_5.2)) else ((f_X6_becomes (12 + x1) x2 σ).bind fun q_7 => some (q_7.1, q_7.2))))
set_option maxHeartbeats 4000000 in
set_option maxRecDepth 100000 in
theorem k_X6_level (l : Launch) (G : GG) (a : Nat → Nat) (σ : Mem) (hj : INJ nM a) (x1 : Int32) (x2 : Int32) (q : Int32 × Mem) (h : f_X6_level x1 x2 σ = some q) : Met l yX6_level (Cond.code yX6_level cX6_level 3 (some .int) :: TB) ({ frames := 2, cells := 0, slots := 0, locals := 45 } : Room) (PA G kM nM a σ [.ref (a 0), .int x1, .int x2]) (QI G kM nM a q) 0 0 (AW nM a) := by
  refine M_ofW (by decide) hj kM_lt (Nat.le_of_ble_eq_true rfl) (fun p e s m below meth c ls C0 hb hml hr hlk hP hS hl => ?_)
  have C0 : CT p s _ m RX6 G kM nM a := C0
  have hx := C0.1
  have hts := C0.2.1
  have hown := C0.2.2.1
  have hl : lv_has ls 3 [(0, .ref (a 0)), (1, .int x1), (2, .int x2)] := hl
  unfold f_X6_level at h
  refine lv_iload_n hx hb dX6_level_0 rfl (lv_at hl 1 rfl) ?_
  refine m_pSi (As := [.int x1]) (rest := []) C0.z hb hml hl.1 wm_X6_66 md_X6_isCell (k_X6_isCell l x1) rfl rfl ⟨(Nat.le_of_ble_eq_true rfl), (Nat.le_of_ble_eq_true rfl)⟩ rfl rfl (Nat.le_of_ble_eq_true rfl) dX6_level_1 ?_
  refine lv_if_eq (tgt := 31) hx hb dX6_level_4 (by decide) (fun (c_1 : (f_X6_isCell x1) = 0) => ?_) (fun (c_1 : ¬ (f_X6_isCell x1) = 0) => ?_)
  · rw [if_pos c_1] at h
    refine lv_aload_n hx hb dX6_level_31 rfl (lv_at hl 0 rfl) ?_
    refine lv_ldc hx hb hown (hts _ wk_X6_46) dX6_level_32 ?_
    obtain ⟨q_2, hq_3, h⟩ := bd_s h
    refine m_cVi (As := [.int (-1000001)]) (rest := []) (o := 0) (ci := 6) C0 hb hml hl.1 wm_X6_75 md_X6_finds (k_X6_finds l G a σ hj (-1000001) q_2 hq_3) rfl rfl ⟨(Nat.le_of_ble_eq_true rfl), (Nat.le_of_ble_eq_true rfl)⟩ hP hS (rfl : kM 0 = 6) (by decide) rfl rfl rfl (Nat.le_of_ble_eq_true rfl) dX6_level_34 (fun H locs hP hS => ?_)
    exact m_ri hx hb hr hlk hP hS (Option.some.inj h) dX6_level_37
  · rw [if_neg c_1] at h
    refine lv_iload_n hx hb dX6_level_7 rfl (lv_at hl 2 rfl) ?_
    refine lv_i2l (v := x2.toInt64) hx hb dX6_level_8 rfl ?_
    refine lv_lconst (v := 0) hx hb dX6_level_9 (by decide) ?_
    refine lv_ldc2 hx hb hown (hts _ wk_X6_70) dX6_level_10 ?_
    refine m_pSi (As := [.long x2.toInt64, .long 0, .long 9999]) (rest := []) C0.z hb hml hl.1 wm_X6_49 md_X6_in (k_X6_in l x2.toInt64 0 9999) rfl rfl ⟨(Nat.le_of_ble_eq_true rfl), (Nat.le_of_ble_eq_true rfl)⟩ rfl rfl (Nat.le_of_ble_eq_true rfl) dX6_level_13 ?_
    refine lv_if_eq (tgt := 31) hx hb dX6_level_16 (by decide) (fun (c_4 : (f_X6_in x2.toInt64 0 9999) = 0) => ?_) (fun (c_4 : ¬ (f_X6_in x2.toInt64 0 9999) = 0) => ?_)
    · rw [if_pos c_4] at h
      refine lv_aload_n hx hb dX6_level_31 rfl (lv_at hl 0 rfl) ?_
      refine lv_ldc hx hb hown (hts _ wk_X6_46) dX6_level_32 ?_
      obtain ⟨q_5, hq_6, h⟩ := bd_s h
      refine m_cVi (As := [.int (-1000001)]) (rest := []) (o := 0) (ci := 6) C0 hb hml hl.1 wm_X6_75 md_X6_finds (k_X6_finds l G a σ hj (-1000001) q_5 hq_6) rfl rfl ⟨(Nat.le_of_ble_eq_true rfl), (Nat.le_of_ble_eq_true rfl)⟩ hP hS (rfl : kM 0 = 6) (by decide) rfl rfl rfl (Nat.le_of_ble_eq_true rfl) dX6_level_34 (fun H locs hP hS => ?_)
      exact m_ri hx hb hr hlk hP hS (Option.some.inj h) dX6_level_37
    · rw [if_neg c_4] at h
      refine lv_aload_n hx hb dX6_level_19 rfl (lv_at hl 0 rfl) ?_
      refine lv_bipush (v := 12) hx hb dX6_level_20 (by decide) ?_
      refine lv_iload_n hx hb dX6_level_22 rfl (lv_at hl 1 rfl) ?_
      refine lv_iadd hx hb dX6_level_23 ?_
      refine lv_iload_n hx hb dX6_level_24 rfl (lv_at hl 2 rfl) ?_
      obtain ⟨q_7, hq_8, h⟩ := bd_s h
      refine m_cVi (As := [.int (12 + x1), .int x2]) (rest := []) (o := 0) (ci := 6) C0 hb hml hl.1 wm_X6_72 md_X6_becomes (k_X6_becomes l G a σ hj (12 + x1) x2 q_7 hq_8) rfl rfl ⟨(Nat.le_of_ble_eq_true rfl), (Nat.le_of_ble_eq_true rfl)⟩ hP hS (rfl : kM 0 = 6) (by decide) rfl rfl rfl (Nat.le_of_ble_eq_true rfl) dX6_level_25 (fun H locs hP hS => ?_)
      refine lv_goto (tgt := 37) hx hb dX6_level_28 (by decide) ?_
      exact m_ri hx hb hr hlk hP hS (Option.some.inj h) dX6_level_37
def f_X6_stands (x1 : Int32) (σ : Mem) : Option (Int32 × Mem) := (if (f_X6_isCell x1) = 0 then ((f_X6_finds (-1000001) σ).bind fun q_2 => some (q_2.1, q_2.2)) else (chk (12 + x1) 74 (some (σ 1 ((12 + x1).toNatClampNeg), σ))))
set_option maxHeartbeats 4000000 in
set_option maxRecDepth 100000 in
theorem k_X6_stands (l : Launch) (G : GG) (a : Nat → Nat) (σ : Mem) (hj : INJ nM a) (x1 : Int32) (q : Int32 × Mem) (h : f_X6_stands x1 σ = some q) : Met l yX6_stands (Cond.code yX6_stands cX6_stands 2 (some .int) :: TB) ({ frames := 2, cells := 0, slots := 0, locals := 45 } : Room) (PA G kM nM a σ [.ref (a 0), .int x1]) (QI G kM nM a q) 0 0 (AW nM a) := by
  refine M_ofW (by decide) hj kM_lt (Nat.le_of_ble_eq_true rfl) (fun p e s m below meth c ls C0 hb hml hr hlk hP hS hl => ?_)
  have C0 : CT p s _ m RX6 G kM nM a := C0
  have hx := C0.1
  have hts := C0.2.1
  have hown := C0.2.2.1
  have hl : lv_has ls 2 [(0, .ref (a 0)), (1, .int x1)] := hl
  unfold f_X6_stands at h
  refine lv_iload_n hx hb dX6_stands_0 rfl (lv_at hl 1 rfl) ?_
  refine m_pSi (As := [.int x1]) (rest := []) C0.z hb hml hl.1 wm_X6_66 md_X6_isCell (k_X6_isCell l x1) rfl rfl ⟨(Nat.le_of_ble_eq_true rfl), (Nat.le_of_ble_eq_true rfl)⟩ rfl rfl (Nat.le_of_ble_eq_true rfl) dX6_stands_1 ?_
  refine lv_if_eq (tgt := 19) hx hb dX6_stands_4 (by decide) (fun (c_1 : (f_X6_isCell x1) = 0) => ?_) (fun (c_1 : ¬ (f_X6_isCell x1) = 0) => ?_)
  · rw [if_pos c_1] at h
    refine lv_aload_n hx hb dX6_stands_19 rfl (lv_at hl 0 rfl) ?_
    refine lv_ldc hx hb hown (hts _ wk_X6_46) dX6_stands_20 ?_
    obtain ⟨q_2, hq_3, h⟩ := bd_s h
    refine m_cVi (As := [.int (-1000001)]) (rest := []) (o := 0) (ci := 6) C0 hb hml hl.1 wm_X6_75 md_X6_finds (k_X6_finds l G a σ hj (-1000001) q_2 hq_3) rfl rfl ⟨(Nat.le_of_ble_eq_true rfl), (Nat.le_of_ble_eq_true rfl)⟩ hP hS (rfl : kM 0 = 6) (by decide) rfl rfl rfl (Nat.le_of_ble_eq_true rfl) dX6_stands_22 (fun H locs hP hS => ?_)
    exact m_ri hx hb hr hlk hP hS (Option.some.inj h) dX6_stands_25
  · rw [if_neg c_1] at h
    refine lv_aload_n hx hb dX6_stands_7 rfl (lv_at hl 0 rfl) ?_
    refine gf_X6_7 (o := 0) (o2 := 1) C0 hb hP (rfl : kM 0 = 6) rfl dX6_stands_8 ?_
    refine lv_bipush (v := 12) hx hb dX6_stands_11 (by decide) ?_
    refine lv_iload_n hx hb dX6_stands_13 rfl (lv_at hl 1 rfl) ?_
    refine lv_iadd hx hb dX6_stands_14 ?_
    obtain ⟨hi_4, h⟩ := chk_s h
    refine m_iald (o := 1) (N := 74) (i := 12 + x1) (j := (12 + x1).toNatClampNeg) C0 hb hP (rfl : kM 1 = 100 + 74) (by decide) hi_4 rfl dX6_stands_15 ?_
    refine lv_goto (tgt := 25) hx hb dX6_stands_16 (by decide) ?_
    exact m_ri hx hb hr hlk hP hS (Option.some.inj h) dX6_stands_25
def f_X6_plan (x1 : Int32) (x2 : Int32) (σ : Mem) : Option (Int32 × Mem) := (if (f_X6_isHour x1) = 0 then ((f_X6_finds (-1000001) σ).bind fun q_2 => some (q_2.1, q_2.2)) else (if (f_X6_isOpening x2) = 0 then ((f_X6_finds (-1000001) σ).bind fun q_5 => some (q_5.1, q_5.2)) else ((f_X6_becomes (4 + x1) x2 σ).bind fun q_7 => some (q_7.1, q_7.2))))
set_option maxHeartbeats 4000000 in
set_option maxRecDepth 100000 in
theorem k_X6_plan (l : Launch) (G : GG) (a : Nat → Nat) (σ : Mem) (hj : INJ nM a) (x1 : Int32) (x2 : Int32) (q : Int32 × Mem) (h : f_X6_plan x1 x2 σ = some q) : Met l yX6_plan (Cond.code yX6_plan cX6_plan 3 (some .int) :: TB) ({ frames := 2, cells := 0, slots := 0, locals := 45 } : Room) (PA G kM nM a σ [.ref (a 0), .int x1, .int x2]) (QI G kM nM a q) 0 0 (AW nM a) := by
  refine M_ofW (by decide) hj kM_lt (Nat.le_of_ble_eq_true rfl) (fun p e s m below meth c ls C0 hb hml hr hlk hP hS hl => ?_)
  have C0 : CT p s _ m RX6 G kM nM a := C0
  have hx := C0.1
  have hts := C0.2.1
  have hown := C0.2.2.1
  have hl : lv_has ls 3 [(0, .ref (a 0)), (1, .int x1), (2, .int x2)] := hl
  unfold f_X6_plan at h
  refine lv_iload_n hx hb dX6_plan_0 rfl (lv_at hl 1 rfl) ?_
  refine m_pSi (As := [.int x1]) (rest := []) C0.z hb hml hl.1 wm_X6_79 md_X6_isHour (k_X6_isHour l x1) rfl rfl ⟨(Nat.le_of_ble_eq_true rfl), (Nat.le_of_ble_eq_true rfl)⟩ rfl rfl (Nat.le_of_ble_eq_true rfl) dX6_plan_1 ?_
  refine lv_if_eq (tgt := 25) hx hb dX6_plan_4 (by decide) (fun (c_1 : (f_X6_isHour x1) = 0) => ?_) (fun (c_1 : ¬ (f_X6_isHour x1) = 0) => ?_)
  · rw [if_pos c_1] at h
    refine lv_aload_n hx hb dX6_plan_25 rfl (lv_at hl 0 rfl) ?_
    refine lv_ldc hx hb hown (hts _ wk_X6_46) dX6_plan_26 ?_
    obtain ⟨q_2, hq_3, h⟩ := bd_s h
    refine m_cVi (As := [.int (-1000001)]) (rest := []) (o := 0) (ci := 6) C0 hb hml hl.1 wm_X6_75 md_X6_finds (k_X6_finds l G a σ hj (-1000001) q_2 hq_3) rfl rfl ⟨(Nat.le_of_ble_eq_true rfl), (Nat.le_of_ble_eq_true rfl)⟩ hP hS (rfl : kM 0 = 6) (by decide) rfl rfl rfl (Nat.le_of_ble_eq_true rfl) dX6_plan_28 (fun H locs hP hS => ?_)
    exact m_ri hx hb hr hlk hP hS (Option.some.inj h) dX6_plan_31
  · rw [if_neg c_1] at h
    refine lv_iload_n hx hb dX6_plan_7 rfl (lv_at hl 2 rfl) ?_
    refine m_pSi (As := [.int x2]) (rest := []) C0.z hb hml hl.1 wm_X6_82 md_X6_isOpening (k_X6_isOpening l x2) rfl rfl ⟨(Nat.le_of_ble_eq_true rfl), (Nat.le_of_ble_eq_true rfl)⟩ rfl rfl (Nat.le_of_ble_eq_true rfl) dX6_plan_8 ?_
    refine lv_if_eq (tgt := 25) hx hb dX6_plan_11 (by decide) (fun (c_4 : (f_X6_isOpening x2) = 0) => ?_) (fun (c_4 : ¬ (f_X6_isOpening x2) = 0) => ?_)
    · rw [if_pos c_4] at h
      refine lv_aload_n hx hb dX6_plan_25 rfl (lv_at hl 0 rfl) ?_
      refine lv_ldc hx hb hown (hts _ wk_X6_46) dX6_plan_26 ?_
      obtain ⟨q_5, hq_6, h⟩ := bd_s h
      refine m_cVi (As := [.int (-1000001)]) (rest := []) (o := 0) (ci := 6) C0 hb hml hl.1 wm_X6_75 md_X6_finds (k_X6_finds l G a σ hj (-1000001) q_5 hq_6) rfl rfl ⟨(Nat.le_of_ble_eq_true rfl), (Nat.le_of_ble_eq_true rfl)⟩ hP hS (rfl : kM 0 = 6) (by decide) rfl rfl rfl (Nat.le_of_ble_eq_true rfl) dX6_plan_28 (fun H locs hP hS => ?_)
      exact m_ri hx hb hr hlk hP hS (Option.some.inj h) dX6_plan_31
    · rw [if_neg c_4] at h
      refine lv_aload_n hx hb dX6_plan_14 rfl (lv_at hl 0 rfl) ?_
      refine lv_iconst (v := 4) hx hb dX6_plan_15 (by decide) ?_
      refine lv_iload_n hx hb dX6_plan_16 rfl (lv_at hl 1 rfl) ?_
      refine lv_iadd hx hb dX6_plan_17 ?_
      refine lv_iload_n hx hb dX6_plan_18 rfl (lv_at hl 2 rfl) ?_
      obtain ⟨q_7, hq_8, h⟩ := bd_s h
      refine m_cVi (As := [.int (4 + x1), .int x2]) (rest := []) (o := 0) (ci := 6) C0 hb hml hl.1 wm_X6_72 md_X6_becomes (k_X6_becomes l G a σ hj (4 + x1) x2 q_7 hq_8) rfl rfl ⟨(Nat.le_of_ble_eq_true rfl), (Nat.le_of_ble_eq_true rfl)⟩ hP hS (rfl : kM 0 = 6) (by decide) rfl rfl rfl (Nat.le_of_ble_eq_true rfl) dX6_plan_19 (fun H locs hP hS => ?_)
      refine lv_goto (tgt := 31) hx hb dX6_plan_22 (by decide) ?_
      exact m_ri hx hb hr hlk hP hS (Option.some.inj h) dX6_plan_31
def f_X6_opening (x1 : Int32) (σ : Mem) : Option (Int32 × Mem) := (if (f_X6_isHour x1) = 0 then ((f_X6_finds (-1000001) σ).bind fun q_2 => some (q_2.1, q_2.2)) else (chk (4 + x1) 74 (some (σ 1 ((4 + x1).toNatClampNeg), σ))))
set_option maxHeartbeats 4000000 in
set_option maxRecDepth 100000 in
theorem k_X6_opening (l : Launch) (G : GG) (a : Nat → Nat) (σ : Mem) (hj : INJ nM a) (x1 : Int32) (q : Int32 × Mem) (h : f_X6_opening x1 σ = some q) : Met l yX6_opening (Cond.code yX6_opening cX6_opening 2 (some .int) :: TB) ({ frames := 2, cells := 0, slots := 0, locals := 45 } : Room) (PA G kM nM a σ [.ref (a 0), .int x1]) (QI G kM nM a q) 0 0 (AW nM a) := by
  refine M_ofW (by decide) hj kM_lt (Nat.le_of_ble_eq_true rfl) (fun p e s m below meth c ls C0 hb hml hr hlk hP hS hl => ?_)
  have C0 : CT p s _ m RX6 G kM nM a := C0
  have hx := C0.1
  have hts := C0.2.1
  have hown := C0.2.2.1
  have hl : lv_has ls 2 [(0, .ref (a 0)), (1, .int x1)] := hl
  unfold f_X6_opening at h
  refine lv_iload_n hx hb dX6_opening_0 rfl (lv_at hl 1 rfl) ?_
  refine m_pSi (As := [.int x1]) (rest := []) C0.z hb hml hl.1 wm_X6_79 md_X6_isHour (k_X6_isHour l x1) rfl rfl ⟨(Nat.le_of_ble_eq_true rfl), (Nat.le_of_ble_eq_true rfl)⟩ rfl rfl (Nat.le_of_ble_eq_true rfl) dX6_opening_1 ?_
  refine lv_if_eq (tgt := 18) hx hb dX6_opening_4 (by decide) (fun (c_1 : (f_X6_isHour x1) = 0) => ?_) (fun (c_1 : ¬ (f_X6_isHour x1) = 0) => ?_)
  · rw [if_pos c_1] at h
    refine lv_aload_n hx hb dX6_opening_18 rfl (lv_at hl 0 rfl) ?_
    refine lv_ldc hx hb hown (hts _ wk_X6_46) dX6_opening_19 ?_
    obtain ⟨q_2, hq_3, h⟩ := bd_s h
    refine m_cVi (As := [.int (-1000001)]) (rest := []) (o := 0) (ci := 6) C0 hb hml hl.1 wm_X6_75 md_X6_finds (k_X6_finds l G a σ hj (-1000001) q_2 hq_3) rfl rfl ⟨(Nat.le_of_ble_eq_true rfl), (Nat.le_of_ble_eq_true rfl)⟩ hP hS (rfl : kM 0 = 6) (by decide) rfl rfl rfl (Nat.le_of_ble_eq_true rfl) dX6_opening_21 (fun H locs hP hS => ?_)
    exact m_ri hx hb hr hlk hP hS (Option.some.inj h) dX6_opening_24
  · rw [if_neg c_1] at h
    refine lv_aload_n hx hb dX6_opening_7 rfl (lv_at hl 0 rfl) ?_
    refine gf_X6_7 (o := 0) (o2 := 1) C0 hb hP (rfl : kM 0 = 6) rfl dX6_opening_8 ?_
    refine lv_iconst (v := 4) hx hb dX6_opening_11 (by decide) ?_
    refine lv_iload_n hx hb dX6_opening_12 rfl (lv_at hl 1 rfl) ?_
    refine lv_iadd hx hb dX6_opening_13 ?_
    obtain ⟨hi_4, h⟩ := chk_s h
    refine m_iald (o := 1) (N := 74) (i := 4 + x1) (j := (4 + x1).toNatClampNeg) C0 hb hP (rfl : kM 1 = 100 + 74) (by decide) hi_4 rfl dX6_opening_14 ?_
    refine lv_goto (tgt := 24) hx hb dX6_opening_15 (by decide) ?_
    exact m_ri hx hb hr hlk hP hS (Option.some.inj h) dX6_opening_24
def f_X6_openings_B4 (σ : Mem) (rec4 : Int32 → Int32 → Option (Int32)) (x1_1 : Int32) (x2_2 : Int32) : Option (Int32) := (if 8 ≤ x2_2 then some x1_1 else (chk (4 + x2_2) 74 (rec4 (x1_1 + (σ 1 ((4 + x2_2).toNatClampNeg))) (x2_2 + 1))))
def f_X6_openings (σ : Mem) : Option (Int32) := (it2 (f_X6_openings_B4 σ) FU 0 0)
set_option maxHeartbeats 4000000 in
set_option maxRecDepth 100000 in
theorem k_X6_openings (l : Launch) (G : GG) (a : Nat → Nat) (σ : Mem) (hj : INJ nM a)  (q : Int32) (h : f_X6_openings σ = some q) : Met l yX6_openings (Cond.code yX6_openings cX6_openings 3 (some .int) :: TB) ({ frames := 0, cells := 0, slots := 0, locals := 0 } : Room) (PA G kM nM a σ [.ref (a 0)]) (SI q) 0 0 NF := by
  refine M_ofW (by decide) hj kM_lt (Nat.le_of_ble_eq_true rfl) (fun p e s m below meth c ls C0 hb hml hr hlk hP hS hl => ?_)
  have C0 : CT p s _ m RX6 G kM nM a := C0
  have hx := C0.1
  have hts := C0.2.1
  have hown := C0.2.2.1
  have hl : lv_has ls 3 [(0, .ref (a 0))] := hl
  unfold f_X6_openings at h
  refine lv_iconst (v := 0) hx hb dX6_openings_0 (by decide) ?_
  refine lv_istore_n (lv' := [(1, .int 0), (0, .ref (a 0))]) hx hb dX6_openings_1 rfl hl (by decide) rfl (fun ls hl => ?_)
  refine lv_iconst (v := 0) hx hb dX6_openings_2 (by decide) ?_
  refine lv_istore_n (lv' := [(2, .int 0), (1, .int 0), (0, .ref (a 0))]) hx hb dX6_openings_3 rfl hl (by decide) rfl (fun ls hl => ?_)
  have L_5 : ∀ (fu4 : Nat) (x1_1 : Int32) (x2_2 : Int32) (ls : Array Slot), it2 (f_X6_openings_B4 σ) fu4 x1_1 x2_2 = some q → lv_has ls 3 [(2, .int x2_2), (1, .int x1_1), (0, .ref (a 0))] → W p l e ({ frames := 0, cells := 0, slots := 0, locals := 0 } : Room) s m ([.ref (a 0)] : List Value).toArray below meth c s.heap [] 0 0 (MQ below (SI q) ([.ref (a 0)] : List Value).toArray s 0 0 NF) (F0 m 4 ls []) := by
    intro fu4
    induction fu4 with
    | zero =>
      intro x1_1 x2_2 ls h
      cases h
    | succ fu4 ih4 =>
      intro x1_1 x2_2 ls h hl
      replace h : (f_X6_openings_B4 σ) (it2 (f_X6_openings_B4 σ) fu4) x1_1 x2_2 = some q := h
      generalize it2 (f_X6_openings_B4 σ) fu4 = rec4 at h ih4
      unfold f_X6_openings_B4 at h
      refine lv_iload_n hx hb dX6_openings_4 rfl (lv_at hl 0 rfl) ?_
      refine lv_bipush (v := 8) hx hb dX6_openings_5 (by decide) ?_
      refine lv_icmp_ge (tgt := 27) hx hb dX6_openings_7 (by decide) (fun (c_3 : 8 ≤ x2_2) => ?_) (fun (c_3 : ¬ 8 ≤ x2_2) => ?_)
      · rw [if_pos c_3] at h
        refine lv_iload_n hx hb dX6_openings_27 rfl (lv_at hl 1 rfl) ?_
        exact m_si hx hb hr hlk (Option.some.inj h) dX6_openings_28
      · rw [if_neg c_3] at h
        refine lv_iload_n hx hb dX6_openings_10 rfl (lv_at hl 1 rfl) ?_
        refine lv_aload_n hx hb dX6_openings_11 rfl (lv_at hl 2 rfl) ?_
        refine gf_X6_7 (o := 0) (o2 := 1) C0 hb hP (rfl : kM 0 = 6) rfl dX6_openings_12 ?_
        refine lv_iconst (v := 4) hx hb dX6_openings_15 (by decide) ?_
        refine lv_iload_n hx hb dX6_openings_16 rfl (lv_at hl 0 rfl) ?_
        refine lv_iadd hx hb dX6_openings_17 ?_
        obtain ⟨hi_4, h⟩ := chk_s h
        refine m_iald (o := 1) (N := 74) (i := 4 + x2_2) (j := (4 + x2_2).toNatClampNeg) C0 hb hP (rfl : kM 1 = 100 + 74) (by decide) hi_4 rfl dX6_openings_18 ?_
        refine lv_iadd hx hb dX6_openings_19 ?_
        refine lv_istore_n (lv' := [(1, .int (x1_1 + (σ 1 ((4 + x2_2).toNatClampNeg)))), (2, .int x2_2), (0, .ref (a 0))]) hx hb dX6_openings_20 rfl hl (by decide) rfl (fun ls hl => ?_)
        refine lv_iinc (v := x2_2 + 1) (lv' := [(2, .int (x2_2 + 1)), (1, .int (x1_1 + (σ 1 ((4 + x2_2).toNatClampNeg)))), (0, .ref (a 0))]) hx hb dX6_openings_21 hl (k := 1) rfl rfl (by decide) rfl (fun ls hl => ?_)
        refine lv_goto (tgt := 4) hx hb dX6_openings_24 (by decide) ?_
        exact ih4 (x1_1 + (σ 1 ((4 + x2_2).toNatClampNeg))) (x2_2 + 1) _ h (lv_sub hl [0, 1, 2] rfl)
  exact L_5 FU 0 0 _ h (lv_sub hl [0, 1, 2] rfl)
def f_X6_opensAll_B2 (x1 : Int32) (rec2 : Int32 → Mem → Option (Mem)) (x2_1 : Int32) (σ_2 : Mem) : Option (Mem) := (if 8 ≤ x2_1 then some σ_2 else (chk (4 + x2_1) 74 (rec2 (x2_1 + 1) (mst σ_2 1 ((4 + x2_1).toNatClampNeg) x1))))
def f_X6_opensAll (x1 : Int32) (σ : Mem) : Option (Mem) := (it2 (f_X6_opensAll_B2 x1) FU 0 σ)
set_option maxHeartbeats 4000000 in
set_option maxRecDepth 100000 in
theorem k_X6_opensAll (l : Launch) (G : GG) (a : Nat → Nat) (σ : Mem) (hj : INJ nM a) (x1 : Int32) (q : Mem) (h : f_X6_opensAll x1 σ = some q) : Met l yX6_opensAll (Cond.code yX6_opensAll cX6_opensAll 3 none :: TB) ({ frames := 0, cells := 0, slots := 0, locals := 0 } : Room) (PA G kM nM a σ [.ref (a 0), .int x1]) (QV G kM nM a q) 0 0 (AW nM a) := by
  refine M_ofW (by decide) hj kM_lt (Nat.le_of_ble_eq_true rfl) (fun p e s m below meth c ls C0 hb hml hr hlk hP hS hl => ?_)
  have C0 : CT p s _ m RX6 G kM nM a := C0
  have hx := C0.1
  have hts := C0.2.1
  have hown := C0.2.2.1
  have hl : lv_has ls 3 [(0, .ref (a 0)), (1, .int x1)] := hl
  unfold f_X6_opensAll at h
  refine lv_iconst (v := 0) hx hb dX6_opensAll_0 (by decide) ?_
  refine lv_istore_n (lv' := [(2, .int 0), (0, .ref (a 0)), (1, .int x1)]) hx hb dX6_opensAll_1 rfl hl (by decide) rfl (fun ls hl => ?_)
  have L_5 : ∀ (fu2 : Nat) (x2_1 : Int32) (σ_2 : Mem) (H : Heap) (locs : List Loc) (ls : Array Slot), it2 (f_X6_opensAll_B2 x1) fu2 x2_1 σ_2 = some q → HP G kM nM a σ_2 H → va_S (AW nM a) s.heap H locs → lv_has ls 3 [(2, .int x2_1), (0, .ref (a 0)), (1, .int x1)] → W p l e ({ frames := 0, cells := 0, slots := 0, locals := 0 } : Room) s m ([.ref (a 0), .int x1] : List Value).toArray below meth c H locs 0 0 (MQ below (QV G kM nM a q) ([.ref (a 0), .int x1] : List Value).toArray s 0 0 (AW nM a)) (F0 m 2 ls []) := by
    intro fu2
    induction fu2 with
    | zero =>
      intro x2_1 σ_2 H locs ls h
      cases h
    | succ fu2 ih2 =>
      intro x2_1 σ_2 H locs ls h hP hS hl
      replace h : (f_X6_opensAll_B2 x1) (it2 (f_X6_opensAll_B2 x1) fu2) x2_1 σ_2 = some q := h
      generalize it2 (f_X6_opensAll_B2 x1) fu2 = rec2 at h ih2
      unfold f_X6_opensAll_B2 at h
      refine lv_iload_n hx hb dX6_opensAll_2 rfl (lv_at hl 0 rfl) ?_
      refine lv_bipush (v := 8) hx hb dX6_opensAll_3 (by decide) ?_
      refine lv_icmp_ge (tgt := 23) hx hb dX6_opensAll_5 (by decide) (fun (c_3 : 8 ≤ x2_1) => ?_) (fun (c_3 : ¬ 8 ≤ x2_1) => ?_)
      · rw [if_pos c_3] at h
        exact m_rv hx hb hr hlk hP hS (Option.some.inj h) dX6_opensAll_23
      · rw [if_neg c_3] at h
        refine lv_aload_n hx hb dX6_opensAll_8 rfl (lv_at hl 1 rfl) ?_
        refine gf_X6_7 (o := 0) (o2 := 1) C0 hb hP (rfl : kM 0 = 6) rfl dX6_opensAll_9 ?_
        refine lv_iconst (v := 4) hx hb dX6_opensAll_12 (by decide) ?_
        refine lv_iload_n hx hb dX6_opensAll_13 rfl (lv_at hl 0 rfl) ?_
        refine lv_iadd hx hb dX6_opensAll_14 ?_
        refine lv_iload_n hx hb dX6_opensAll_15 rfl (lv_at hl 2 rfl) ?_
        obtain ⟨hi_4, h⟩ := chk_s h
        refine m_iast (o := 1) (N := 74) (i := 4 + x2_1) (j := (4 + x2_1).toNatClampNeg) C0 hb hP hS (rfl : kM 1 = 100 + 74) (by decide) hi_4 rfl dX6_opensAll_16 (fun H locs hP hS => ?_)
        refine lv_iinc (v := x2_1 + 1) (lv' := [(2, .int (x2_1 + 1)), (0, .ref (a 0)), (1, .int x1)]) hx hb dX6_opensAll_17 hl (k := 0) rfl rfl (by decide) rfl (fun ls hl => ?_)
        refine lv_goto (tgt := 2) hx hb dX6_opensAll_20 (by decide) ?_
        exact ih2 (x2_1 + 1) (mst σ_2 1 ((4 + x2_1).toNatClampNeg) x1) _ _ _ h hP hS (lv_sub hl [0, 1, 2] rfl)
  exact L_5 FU 0 σ _ _ _ h hP hS (lv_sub hl [0, 1, 2] rfl)
def f_X6_steady (x1 : Int32) (σ : Mem) : Option (Int32 × Mem) := (if (f_X6_isOpening x1) = 0 then ((f_X6_finds (-1000001) σ).bind fun q_6 => some (q_6.1, q_6.2)) else ((f_X6_openings σ).bind fun q_2 => ((f_X6_opensAll x1 σ).bind fun q_4 => some (q_2, q_4))))
set_option maxHeartbeats 4000000 in
set_option maxRecDepth 100000 in
theorem k_X6_steady (l : Launch) (G : GG) (a : Nat → Nat) (σ : Mem) (hj : INJ nM a) (x1 : Int32) (q : Int32 × Mem) (h : f_X6_steady x1 σ = some q) : Met l yX6_steady (Cond.code yX6_steady cX6_steady 3 (some .int) :: TB) ({ frames := 2, cells := 0, slots := 0, locals := 45 } : Room) (PA G kM nM a σ [.ref (a 0), .int x1]) (QI G kM nM a q) 0 0 (AW nM a) := by
  refine M_ofW (by decide) hj kM_lt (Nat.le_of_ble_eq_true rfl) (fun p e s m below meth c ls C0 hb hml hr hlk hP hS hl => ?_)
  have C0 : CT p s _ m RX6 G kM nM a := C0
  have hx := C0.1
  have hts := C0.2.1
  have hown := C0.2.2.1
  have hl : lv_has ls 3 [(0, .ref (a 0)), (1, .int x1)] := hl
  unfold f_X6_steady at h
  refine lv_iload_n hx hb dX6_steady_0 rfl (lv_at hl 1 rfl) ?_
  refine m_pSi (As := [.int x1]) (rest := []) C0.z hb hml hl.1 wm_X6_82 md_X6_isOpening (k_X6_isOpening l x1) rfl rfl ⟨(Nat.le_of_ble_eq_true rfl), (Nat.le_of_ble_eq_true rfl)⟩ rfl rfl (Nat.le_of_ble_eq_true rfl) dX6_steady_1 ?_
  refine lv_if_ne (tgt := 14) hx hb dX6_steady_4 (by decide) (fun (c_1 : ¬ (f_X6_isOpening x1) = 0) => ?_) (fun (c_1 : (f_X6_isOpening x1) = 0) => ?_)
  · rw [if_neg c_1] at h
    refine lv_aload_n hx hb dX6_steady_14 rfl (lv_at hl 0 rfl) ?_
    obtain ⟨q_2, hq_3, h⟩ := bd_s h
    refine m_rVi (As := []) (rest := []) (o := 0) (ci := 6) C0 hb hml hl.1 wm_X6_85 md_X6_openings (k_X6_openings l G a σ hj q_2 hq_3) rfl rfl ⟨(Nat.le_of_ble_eq_true rfl), (Nat.le_of_ble_eq_true rfl)⟩ hP hS (rfl : kM 0 = 6) (by decide) rfl rfl rfl (Nat.le_of_ble_eq_true rfl) dX6_steady_15 ?_
    refine lv_istore_n (lv' := [(2, .int q_2), (0, .ref (a 0)), (1, .int x1)]) hx hb dX6_steady_18 rfl hl (by decide) rfl (fun ls hl => ?_)
    refine lv_aload_n hx hb dX6_steady_19 rfl (lv_at hl 1 rfl) ?_
    refine lv_iload_n hx hb dX6_steady_20 rfl (lv_at hl 2 rfl) ?_
    obtain ⟨q_4, hq_5, h⟩ := bd_s h
    refine m_cVv (As := [.int x1]) (rest := []) (o := 0) (ci := 6) C0 hb hml hl.1 wm_X6_89 md_X6_opensAll (k_X6_opensAll l G a σ hj x1 q_4 hq_5) rfl rfl ⟨(Nat.le_of_ble_eq_true rfl), (Nat.le_of_ble_eq_true rfl)⟩ hP hS (rfl : kM 0 = 6) (by decide) rfl rfl rfl (Nat.le_of_ble_eq_true rfl) dX6_steady_21 (fun H locs hP hS => ?_)
    refine lv_iload_n hx hb dX6_steady_24 rfl (lv_at hl 0 rfl) ?_
    exact m_ri hx hb hr hlk hP hS (Option.some.inj h) dX6_steady_25
  · rw [if_pos c_1] at h
    refine lv_aload_n hx hb dX6_steady_7 rfl (lv_at hl 0 rfl) ?_
    refine lv_ldc hx hb hown (hts _ wk_X6_46) dX6_steady_8 ?_
    obtain ⟨q_6, hq_7, h⟩ := bd_s h
    refine m_cVi (As := [.int (-1000001)]) (rest := []) (o := 0) (ci := 6) C0 hb hml hl.1 wm_X6_75 md_X6_finds (k_X6_finds l G a σ hj (-1000001) q_6 hq_7) rfl rfl ⟨(Nat.le_of_ble_eq_true rfl), (Nat.le_of_ble_eq_true rfl)⟩ hP hS (rfl : kM 0 = 6) (by decide) rfl rfl rfl (Nat.le_of_ble_eq_true rfl) dX6_steady_10 (fun H locs hP hS => ?_)
    exact m_ri hx hb hr hlk hP hS (Option.some.inj h) dX6_steady_13
def f_X6_adds (x1 : Int32) (x2 : Int32) (σ : Mem) : Option (Int32 × Mem) := (chk (f_X6_place (σ 1 1) 0) 74 (chk (f_X6_place (σ 1 1) 1) 74 (chk (f_X6_place (σ 1 1) 2) 74 (chk (f_X6_place (σ 1 1) 3) 74 (chk (f_X6_place (σ 1 1) 4) 74 (some (σ 1 1, mst (mst (mst (mst (mst (mst σ 1 ((f_X6_place (σ 1 1) 0).toNatClampNeg) x1) 1 ((f_X6_place (σ 1 1) 1).toNatClampNeg) x2) 1 ((f_X6_place (σ 1 1) 2).toNatClampNeg) 5) 1 ((f_X6_place (σ 1 1) 3).toNatClampNeg) 50) 1 ((f_X6_place (σ 1 1) 4).toNatClampNeg) 0) 1 1 (((mst (mst (mst (mst (mst σ 1 ((f_X6_place (σ 1 1) 0).toNatClampNeg) x1) 1 ((f_X6_place (σ 1 1) 1).toNatClampNeg) x2) 1 ((f_X6_place (σ 1 1) 2).toNatClampNeg) 5) 1 ((f_X6_place (σ 1 1) 3).toNatClampNeg) 50) 1 ((f_X6_place (σ 1 1) 4).toNatClampNeg) 0) 1 1) + 1))))))))
set_option maxHeartbeats 4000000 in
set_option maxRecDepth 100000 in
theorem k_X6_adds (l : Launch) (G : GG) (a : Nat → Nat) (σ : Mem) (hj : INJ nM a) (x1 : Int32) (x2 : Int32) (q : Int32 × Mem) (h : f_X6_adds x1 x2 σ = some q) : Met l yX6_adds (Cond.code yX6_adds cX6_adds 4 (some .int) :: TB) ({ frames := 1, cells := 0, slots := 0, locals := 21 } : Room) (PA G kM nM a σ [.ref (a 0), .int x1, .int x2]) (QI G kM nM a q) 0 0 (AW nM a) := by
  refine M_ofW (by decide) hj kM_lt (Nat.le_of_ble_eq_true rfl) (fun p e s m below meth c ls C0 hb hml hr hlk hP hS hl => ?_)
  have C0 : CT p s _ m RX6 G kM nM a := C0
  have hx := C0.1
  have hts := C0.2.1
  have hown := C0.2.2.1
  have hl : lv_has ls 4 [(0, .ref (a 0)), (1, .int x1), (2, .int x2)] := hl
  unfold f_X6_adds at h
  refine lv_aload_n hx hb dX6_adds_0 rfl (lv_at hl 0 rfl) ?_
  refine gf_X6_7 (o := 0) (o2 := 1) C0 hb hP (rfl : kM 0 = 6) rfl dX6_adds_1 ?_
  refine lv_iconst (v := 1) hx hb dX6_adds_4 (by decide) ?_
  refine m_iald (o := 1) (N := 74) (i := 1) (j := 1) C0 hb hP (rfl : kM 1 = 100 + 74) (by decide) (show vp_in 1 74 by unfold vp_in; decide) (by decide) dX6_adds_5 ?_
  refine lv_istore_n (lv' := [(3, .int (σ 1 1)), (0, .ref (a 0)), (1, .int x1), (2, .int x2)]) hx hb dX6_adds_6 rfl hl (by decide) rfl (fun ls hl => ?_)
  refine lv_aload_n hx hb dX6_adds_7 rfl (lv_at hl 1 rfl) ?_
  refine gf_X6_7 (o := 0) (o2 := 1) C0 hb hP (rfl : kM 0 = 6) rfl dX6_adds_8 ?_
  refine lv_iload_n hx hb dX6_adds_11 rfl (lv_at hl 0 rfl) ?_
  refine lv_iconst (v := 0) hx hb dX6_adds_12 (by decide) ?_
  refine m_pSi (As := [.int (σ 1 1), .int 0]) (rest := [.ref (a 1)]) C0.z hb hml hl.1 wm_X6_59 md_X6_place (k_X6_place l (σ 1 1) 0) rfl rfl ⟨(Nat.le_of_ble_eq_true rfl), (Nat.le_of_ble_eq_true rfl)⟩ rfl rfl (Nat.le_of_ble_eq_true rfl) dX6_adds_13 ?_
  refine lv_iload_n hx hb dX6_adds_16 rfl (lv_at hl 2 rfl) ?_
  obtain ⟨hi_1, h⟩ := chk_s h
  refine m_iast (o := 1) (N := 74) (i := f_X6_place (σ 1 1) 0) (j := (f_X6_place (σ 1 1) 0).toNatClampNeg) C0 hb hP hS (rfl : kM 1 = 100 + 74) (by decide) hi_1 rfl dX6_adds_17 (fun H locs hP hS => ?_)
  refine lv_aload_n hx hb dX6_adds_18 rfl (lv_at hl 1 rfl) ?_
  refine gf_X6_7 (o := 0) (o2 := 1) C0 hb hP (rfl : kM 0 = 6) rfl dX6_adds_19 ?_
  refine lv_iload_n hx hb dX6_adds_22 rfl (lv_at hl 0 rfl) ?_
  refine lv_iconst (v := 1) hx hb dX6_adds_23 (by decide) ?_
  refine m_pSi (As := [.int (σ 1 1), .int 1]) (rest := [.ref (a 1)]) C0.z hb hml hl.1 wm_X6_59 md_X6_place (k_X6_place l (σ 1 1) 1) rfl rfl ⟨(Nat.le_of_ble_eq_true rfl), (Nat.le_of_ble_eq_true rfl)⟩ rfl rfl (Nat.le_of_ble_eq_true rfl) dX6_adds_24 ?_
  refine lv_iload_n hx hb dX6_adds_27 rfl (lv_at hl 3 rfl) ?_
  obtain ⟨hi_2, h⟩ := chk_s h
  refine m_iast (o := 1) (N := 74) (i := f_X6_place (σ 1 1) 1) (j := (f_X6_place (σ 1 1) 1).toNatClampNeg) C0 hb hP hS (rfl : kM 1 = 100 + 74) (by decide) hi_2 rfl dX6_adds_28 (fun H locs hP hS => ?_)
  refine lv_aload_n hx hb dX6_adds_29 rfl (lv_at hl 1 rfl) ?_
  refine gf_X6_7 (o := 0) (o2 := 1) C0 hb hP (rfl : kM 0 = 6) rfl dX6_adds_30 ?_
  refine lv_iload_n hx hb dX6_adds_33 rfl (lv_at hl 0 rfl) ?_
  refine lv_iconst (v := 2) hx hb dX6_adds_34 (by decide) ?_
  refine m_pSi (As := [.int (σ 1 1), .int 2]) (rest := [.ref (a 1)]) C0.z hb hml hl.1 wm_X6_59 md_X6_place (k_X6_place l (σ 1 1) 2) rfl rfl ⟨(Nat.le_of_ble_eq_true rfl), (Nat.le_of_ble_eq_true rfl)⟩ rfl rfl (Nat.le_of_ble_eq_true rfl) dX6_adds_35 ?_
  refine lv_iconst (v := 5) hx hb dX6_adds_38 (by decide) ?_
  obtain ⟨hi_3, h⟩ := chk_s h
  refine m_iast (o := 1) (N := 74) (i := f_X6_place (σ 1 1) 2) (j := (f_X6_place (σ 1 1) 2).toNatClampNeg) C0 hb hP hS (rfl : kM 1 = 100 + 74) (by decide) hi_3 rfl dX6_adds_39 (fun H locs hP hS => ?_)
  refine lv_aload_n hx hb dX6_adds_40 rfl (lv_at hl 1 rfl) ?_
  refine gf_X6_7 (o := 0) (o2 := 1) C0 hb hP (rfl : kM 0 = 6) rfl dX6_adds_41 ?_
  refine lv_iload_n hx hb dX6_adds_44 rfl (lv_at hl 0 rfl) ?_
  refine lv_iconst (v := 3) hx hb dX6_adds_45 (by decide) ?_
  refine m_pSi (As := [.int (σ 1 1), .int 3]) (rest := [.ref (a 1)]) C0.z hb hml hl.1 wm_X6_59 md_X6_place (k_X6_place l (σ 1 1) 3) rfl rfl ⟨(Nat.le_of_ble_eq_true rfl), (Nat.le_of_ble_eq_true rfl)⟩ rfl rfl (Nat.le_of_ble_eq_true rfl) dX6_adds_46 ?_
  refine lv_bipush (v := 50) hx hb dX6_adds_49 (by decide) ?_
  obtain ⟨hi_4, h⟩ := chk_s h
  refine m_iast (o := 1) (N := 74) (i := f_X6_place (σ 1 1) 3) (j := (f_X6_place (σ 1 1) 3).toNatClampNeg) C0 hb hP hS (rfl : kM 1 = 100 + 74) (by decide) hi_4 rfl dX6_adds_51 (fun H locs hP hS => ?_)
  refine lv_aload_n hx hb dX6_adds_52 rfl (lv_at hl 1 rfl) ?_
  refine gf_X6_7 (o := 0) (o2 := 1) C0 hb hP (rfl : kM 0 = 6) rfl dX6_adds_53 ?_
  refine lv_iload_n hx hb dX6_adds_56 rfl (lv_at hl 0 rfl) ?_
  refine lv_iconst (v := 4) hx hb dX6_adds_57 (by decide) ?_
  refine m_pSi (As := [.int (σ 1 1), .int 4]) (rest := [.ref (a 1)]) C0.z hb hml hl.1 wm_X6_59 md_X6_place (k_X6_place l (σ 1 1) 4) rfl rfl ⟨(Nat.le_of_ble_eq_true rfl), (Nat.le_of_ble_eq_true rfl)⟩ rfl rfl (Nat.le_of_ble_eq_true rfl) dX6_adds_58 ?_
  refine lv_iconst (v := 0) hx hb dX6_adds_61 (by decide) ?_
  obtain ⟨hi_5, h⟩ := chk_s h
  refine m_iast (o := 1) (N := 74) (i := f_X6_place (σ 1 1) 4) (j := (f_X6_place (σ 1 1) 4).toNatClampNeg) C0 hb hP hS (rfl : kM 1 = 100 + 74) (by decide) hi_5 rfl dX6_adds_62 (fun H locs hP hS => ?_)
  refine lv_aload_n hx hb dX6_adds_63 rfl (lv_at hl 1 rfl) ?_
  refine gf_X6_7 (o := 0) (o2 := 1) C0 hb hP (rfl : kM 0 = 6) rfl dX6_adds_64 ?_
  refine lv_iconst (v := 1) hx hb dX6_adds_67 (by decide) ?_
  refine lv_dup2_11 hx hb dX6_adds_68 rfl rfl ?_
  refine m_iald (o := 1) (N := 74) (i := 1) (j := 1) C0 hb hP (rfl : kM 1 = 100 + 74) (by decide) (show vp_in 1 74 by unfold vp_in; decide) (by decide) dX6_adds_69 ?_
  refine lv_iconst (v := 1) hx hb dX6_adds_70 (by decide) ?_
  refine lv_iadd hx hb dX6_adds_71 ?_
  refine m_iast (o := 1) (N := 74) (i := 1) (j := 1) C0 hb hP hS (rfl : kM 1 = 100 + 74) (by decide) (show vp_in 1 74 by unfold vp_in; decide) (by decide) dX6_adds_72 (fun H locs hP hS => ?_)
  refine lv_iload_n hx hb dX6_adds_73 rfl (lv_at hl 0 rfl) ?_
  exact m_ri hx hb hr hlk hP hS (Option.some.inj h) dX6_adds_74
def f_X6_watcher (x1 : Int32) (x2 : Int32) (σ : Mem) : Option (Int32 × Mem) := (if (f_X6_isKind x1) = 0 then ((f_X6_finds (-1000001) σ).bind fun q_2 => some (q_2.1, q_2.2)) else (if (f_X6_isCell x2) = 0 then ((f_X6_finds (-1000001) σ).bind fun q_10 => some (q_10.1, q_10.2)) else (if (σ 1 1) = 8 then ((f_X6_finds (-1000002) σ).bind fun q_8 => some (q_8.1, q_8.2)) else ((f_X6_adds x1 x2 σ).bind fun q_6 => some (q_6.1, q_6.2)))))
set_option maxHeartbeats 4000000 in
set_option maxRecDepth 100000 in
theorem k_X6_watcher (l : Launch) (G : GG) (a : Nat → Nat) (σ : Mem) (hj : INJ nM a) (x1 : Int32) (x2 : Int32) (q : Int32 × Mem) (h : f_X6_watcher x1 x2 σ = some q) : Met l yX6_watcher (Cond.code yX6_watcher cX6_watcher 3 (some .int) :: TB) ({ frames := 2, cells := 0, slots := 0, locals := 45 } : Room) (PA G kM nM a σ [.ref (a 0), .int x1, .int x2]) (QI G kM nM a q) 0 0 (AW nM a) := by
  refine M_ofW (by decide) hj kM_lt (Nat.le_of_ble_eq_true rfl) (fun p e s m below meth c ls C0 hb hml hr hlk hP hS hl => ?_)
  have C0 : CT p s _ m RX6 G kM nM a := C0
  have hx := C0.1
  have hts := C0.2.1
  have hown := C0.2.2.1
  have hl : lv_has ls 3 [(0, .ref (a 0)), (1, .int x1), (2, .int x2)] := hl
  unfold f_X6_watcher at h
  refine lv_iload_n hx hb dX6_watcher_0 rfl (lv_at hl 1 rfl) ?_
  refine m_pSi (As := [.int x1]) (rest := []) C0.z hb hml hl.1 wm_X6_93 md_X6_isKind (k_X6_isKind l x1) rfl rfl ⟨(Nat.le_of_ble_eq_true rfl), (Nat.le_of_ble_eq_true rfl)⟩ rfl rfl (Nat.le_of_ble_eq_true rfl) dX6_watcher_1 ?_
  refine lv_if_eq (tgt := 14) hx hb dX6_watcher_4 (by decide) (fun (c_1 : (f_X6_isKind x1) = 0) => ?_) (fun (c_1 : ¬ (f_X6_isKind x1) = 0) => ?_)
  · rw [if_pos c_1] at h
    refine lv_aload_n hx hb dX6_watcher_14 rfl (lv_at hl 0 rfl) ?_
    refine lv_ldc hx hb hown (hts _ wk_X6_46) dX6_watcher_15 ?_
    obtain ⟨q_2, hq_3, h⟩ := bd_s h
    refine m_cVi (As := [.int (-1000001)]) (rest := []) (o := 0) (ci := 6) C0 hb hml hl.1 wm_X6_75 md_X6_finds (k_X6_finds l G a σ hj (-1000001) q_2 hq_3) rfl rfl ⟨(Nat.le_of_ble_eq_true rfl), (Nat.le_of_ble_eq_true rfl)⟩ hP hS (rfl : kM 0 = 6) (by decide) rfl rfl rfl (Nat.le_of_ble_eq_true rfl) dX6_watcher_17 (fun H locs hP hS => ?_)
    exact m_ri hx hb hr hlk hP hS (Option.some.inj h) dX6_watcher_20
  · rw [if_neg c_1] at h
    refine lv_iload_n hx hb dX6_watcher_7 rfl (lv_at hl 2 rfl) ?_
    refine m_pSi (As := [.int x2]) (rest := []) C0.z hb hml hl.1 wm_X6_66 md_X6_isCell (k_X6_isCell l x2) rfl rfl ⟨(Nat.le_of_ble_eq_true rfl), (Nat.le_of_ble_eq_true rfl)⟩ rfl rfl (Nat.le_of_ble_eq_true rfl) dX6_watcher_8 ?_
    refine lv_if_ne (tgt := 21) hx hb dX6_watcher_11 (by decide) (fun (c_4 : ¬ (f_X6_isCell x2) = 0) => ?_) (fun (c_4 : (f_X6_isCell x2) = 0) => ?_)
    · rw [if_neg c_4] at h
      refine lv_aload_n hx hb dX6_watcher_21 rfl (lv_at hl 0 rfl) ?_
      refine gf_X6_7 (o := 0) (o2 := 1) C0 hb hP (rfl : kM 0 = 6) rfl dX6_watcher_22 ?_
      refine lv_iconst (v := 1) hx hb dX6_watcher_25 (by decide) ?_
      refine m_iald (o := 1) (N := 74) (i := 1) (j := 1) C0 hb hP (rfl : kM 1 = 100 + 74) (by decide) (show vp_in 1 74 by unfold vp_in; decide) (by decide) dX6_watcher_26 ?_
      refine lv_bipush (v := 8) hx hb dX6_watcher_27 (by decide) ?_
      refine lv_icmp_ne (tgt := 41) hx hb dX6_watcher_29 (by decide) (fun (c_5 : ¬ (σ 1 1) = 8) => ?_) (fun (c_5 : (σ 1 1) = 8) => ?_)
      · rw [if_neg c_5] at h
        refine lv_aload_n hx hb dX6_watcher_41 rfl (lv_at hl 0 rfl) ?_
        refine lv_iload_n hx hb dX6_watcher_42 rfl (lv_at hl 1 rfl) ?_
        refine lv_iload_n hx hb dX6_watcher_43 rfl (lv_at hl 2 rfl) ?_
        obtain ⟨q_6, hq_7, h⟩ := bd_s h
        refine m_cVi (As := [.int x1, .int x2]) (rest := []) (o := 0) (ci := 6) C0 hb hml hl.1 wm_X6_97 md_X6_adds (k_X6_adds l G a σ hj x1 x2 q_6 hq_7) rfl rfl ⟨(Nat.le_of_ble_eq_true rfl), (Nat.le_of_ble_eq_true rfl)⟩ hP hS (rfl : kM 0 = 6) (by decide) rfl rfl rfl (Nat.le_of_ble_eq_true rfl) dX6_watcher_44 (fun H locs hP hS => ?_)
        exact m_ri hx hb hr hlk hP hS (Option.some.inj h) dX6_watcher_47
      · rw [if_pos c_5] at h
        refine lv_aload_n hx hb dX6_watcher_32 rfl (lv_at hl 0 rfl) ?_
        refine lv_ldc hx hb hown (hts _ wk_X6_96) dX6_watcher_33 ?_
        obtain ⟨q_8, hq_9, h⟩ := bd_s h
        refine m_cVi (As := [.int (-1000002)]) (rest := []) (o := 0) (ci := 6) C0 hb hml hl.1 wm_X6_75 md_X6_finds (k_X6_finds l G a σ hj (-1000002) q_8 hq_9) rfl rfl ⟨(Nat.le_of_ble_eq_true rfl), (Nat.le_of_ble_eq_true rfl)⟩ hP hS (rfl : kM 0 = 6) (by decide) rfl rfl rfl (Nat.le_of_ble_eq_true rfl) dX6_watcher_35 (fun H locs hP hS => ?_)
        refine lv_goto (tgt := 47) hx hb dX6_watcher_38 (by decide) ?_
        exact m_ri hx hb hr hlk hP hS (Option.some.inj h) dX6_watcher_47
    · rw [if_pos c_4] at h
      refine lv_aload_n hx hb dX6_watcher_14 rfl (lv_at hl 0 rfl) ?_
      refine lv_ldc hx hb hown (hts _ wk_X6_46) dX6_watcher_15 ?_
      obtain ⟨q_10, hq_11, h⟩ := bd_s h
      refine m_cVi (As := [.int (-1000001)]) (rest := []) (o := 0) (ci := 6) C0 hb hml hl.1 wm_X6_75 md_X6_finds (k_X6_finds l G a σ hj (-1000001) q_10 hq_11) rfl rfl ⟨(Nat.le_of_ble_eq_true rfl), (Nat.le_of_ble_eq_true rfl)⟩ hP hS (rfl : kM 0 = 6) (by decide) rfl rfl rfl (Nat.le_of_ble_eq_true rfl) dX6_watcher_17 (fun H locs hP hS => ?_)
      exact m_ri hx hb hr hlk hP hS (Option.some.inj h) dX6_watcher_20
def f_X6_its (x1 : Int32) (x2 : Int32) (σ : Mem) : Option (Int32) := (chk (f_X6_place x1 x2) 74 (some (σ 1 ((f_X6_place x1 x2).toNatClampNeg))))
set_option maxHeartbeats 4000000 in
set_option maxRecDepth 100000 in
theorem k_X6_its (l : Launch) (G : GG) (a : Nat → Nat) (σ : Mem) (hj : INJ nM a) (x1 : Int32) (x2 : Int32) (q : Int32) (h : f_X6_its x1 x2 σ = some q) : Met l yX6_its (Cond.code yX6_its cX6_its 3 (some .int) :: TB) ({ frames := 1, cells := 0, slots := 0, locals := 21 } : Room) (PA G kM nM a σ [.ref (a 0), .int x1, .int x2]) (SI q) 0 0 NF := by
  refine M_ofW (by decide) hj kM_lt (Nat.le_of_ble_eq_true rfl) (fun p e s m below meth c ls C0 hb hml hr hlk hP hS hl => ?_)
  have C0 : CT p s _ m RX6 G kM nM a := C0
  have hx := C0.1
  have hts := C0.2.1
  have hown := C0.2.2.1
  have hl : lv_has ls 3 [(0, .ref (a 0)), (1, .int x1), (2, .int x2)] := hl
  unfold f_X6_its at h
  refine lv_aload_n hx hb dX6_its_0 rfl (lv_at hl 0 rfl) ?_
  refine gf_X6_7 (o := 0) (o2 := 1) C0 hb hP (rfl : kM 0 = 6) rfl dX6_its_1 ?_
  refine lv_iload_n hx hb dX6_its_4 rfl (lv_at hl 1 rfl) ?_
  refine lv_iload_n hx hb dX6_its_5 rfl (lv_at hl 2 rfl) ?_
  refine m_pSi (As := [.int x1, .int x2]) (rest := [.ref (a 1)]) C0.z hb hml hl.1 wm_X6_59 md_X6_place (k_X6_place l x1 x2) rfl rfl ⟨(Nat.le_of_ble_eq_true rfl), (Nat.le_of_ble_eq_true rfl)⟩ rfl rfl (Nat.le_of_ble_eq_true rfl) dX6_its_6 ?_
  obtain ⟨hi_1, h⟩ := chk_s h
  refine m_iald (o := 1) (N := 74) (i := f_X6_place x1 x2) (j := (f_X6_place x1 x2).toNatClampNeg) C0 hb hP (rfl : kM 1 = 100 + 74) (by decide) hi_1 rfl dX6_its_9 ?_
  exact m_si hx hb hr hlk (Option.some.inj h) dX6_its_10
def f_X6_bears (x1 : Int32) (σ : Mem) : Option (Int32) := ((f_X6_its x1 2 σ).bind fun q_1 => ((f_X6_its x1 0 σ).bind fun q_3 => (if q_3 = 1 then some (5 + (q_1 / 10)) else (if q_3 = 2 then some 3 else (if q_3 = 3 then some 2 else (if q_3 = 4 then ((f_X6_its x1 3 σ).bind fun q_9 => (if 20 ≤ q_9 then some 2 else some 1)) else (if q_3 = 5 then some 20 else (if q_3 = 6 then some (2 * (5 + (q_1 / 10))) else some 5))))))))
set_option maxHeartbeats 4000000 in
set_option maxRecDepth 100000 in
theorem k_X6_bears (l : Launch) (G : GG) (a : Nat → Nat) (σ : Mem) (hj : INJ nM a) (x1 : Int32) (q : Int32) (h : f_X6_bears x1 σ = some q) : Met l yX6_bears (Cond.code yX6_bears cX6_bears 3 (some .int) :: TB) ({ frames := 2, cells := 0, slots := 0, locals := 43 } : Room) (PA G kM nM a σ [.ref (a 0), .int x1]) (SI q) 0 0 NF := by
  refine M_ofW (by decide) hj kM_lt (Nat.le_of_ble_eq_true rfl) (fun p e s m below meth c ls C0 hb hml hr hlk hP hS hl => ?_)
  have C0 : CT p s _ m RX6 G kM nM a := C0
  have hx := C0.1
  have hts := C0.2.1
  have hown := C0.2.2.1
  have hl : lv_has ls 3 [(0, .ref (a 0)), (1, .int x1)] := hl
  unfold f_X6_bears at h
  refine lv_iconst (v := 5) hx hb dX6_bears_0 (by decide) ?_
  refine lv_aload_n hx hb dX6_bears_1 rfl (lv_at hl 0 rfl) ?_
  refine lv_iload_n hx hb dX6_bears_2 rfl (lv_at hl 1 rfl) ?_
  refine lv_iconst (v := 2) hx hb dX6_bears_3 (by decide) ?_
  obtain ⟨q_1, hq_2, h⟩ := bd_s h
  refine m_rVi (As := [.int x1, .int 2]) (rest := [.int 5]) (o := 0) (ci := 6) C0 hb hml hl.1 wm_X6_63 md_X6_its (k_X6_its l G a σ hj x1 2 q_1 hq_2) rfl rfl ⟨(Nat.le_of_ble_eq_true rfl), (Nat.le_of_ble_eq_true rfl)⟩ hP hS (rfl : kM 0 = 6) (by decide) rfl rfl rfl (Nat.le_of_ble_eq_true rfl) dX6_bears_4 ?_
  refine lv_bipush (v := 10) hx hb dX6_bears_7 (by decide) ?_
  refine lv_idiv hx hb dX6_bears_9 (by decide) ?_
  refine lv_iadd hx hb dX6_bears_10 ?_
  refine lv_istore_n (lv' := [(2, .int (5 + (q_1 / 10))), (0, .ref (a 0)), (1, .int x1)]) hx hb dX6_bears_11 rfl hl (by decide) rfl (fun ls hl => ?_)
  refine lv_aload_n hx hb dX6_bears_12 rfl (lv_at hl 1 rfl) ?_
  refine lv_iload_n hx hb dX6_bears_13 rfl (lv_at hl 2 rfl) ?_
  refine lv_iconst (v := 0) hx hb dX6_bears_14 (by decide) ?_
  obtain ⟨q_3, hq_4, h⟩ := bd_s h
  refine m_rVi (As := [.int x1, .int 0]) (rest := []) (o := 0) (ci := 6) C0 hb hml hl.1 wm_X6_63 md_X6_its (k_X6_its l G a σ hj x1 0 q_3 hq_4) rfl rfl ⟨(Nat.le_of_ble_eq_true rfl), (Nat.le_of_ble_eq_true rfl)⟩ hP hS (rfl : kM 0 = 6) (by decide) rfl rfl rfl (Nat.le_of_ble_eq_true rfl) dX6_bears_15 ?_
  by_cases c_5 : q_3 = 1
  · rw [if_pos c_5] at h
    refine lv_tableIn (off := 38) (tgt := 56) hx hb dX6_bears_18 (by rw [c_5]; decide) (by rw [c_5]; decide) (by rw [c_5]; rfl) (by decide) ?_
    refine lv_iload_n hx hb dX6_bears_56 rfl (lv_at hl 0 rfl) ?_
    exact m_si hx hb hr hlk (Option.some.inj h) dX6_bears_57
  · rw [if_neg c_5] at h
    by_cases c_6 : q_3 = 2
    · rw [if_pos c_6] at h
      refine lv_tableIn (off := 40) (tgt := 58) hx hb dX6_bears_18 (by rw [c_6]; decide) (by rw [c_6]; decide) (by rw [c_6]; rfl) (by decide) ?_
      refine lv_iconst (v := 3) hx hb dX6_bears_58 (by decide) ?_
      exact m_si hx hb hr hlk (Option.some.inj h) dX6_bears_59
    · rw [if_neg c_6] at h
      by_cases c_7 : q_3 = 3
      · rw [if_pos c_7] at h
        refine lv_tableIn (off := 42) (tgt := 60) hx hb dX6_bears_18 (by rw [c_7]; decide) (by rw [c_7]; decide) (by rw [c_7]; rfl) (by decide) ?_
        refine lv_iconst (v := 2) hx hb dX6_bears_60 (by decide) ?_
        exact m_si hx hb hr hlk (Option.some.inj h) dX6_bears_61
      · rw [if_neg c_7] at h
        by_cases c_8 : q_3 = 4
        · rw [if_pos c_8] at h
          refine lv_tableIn (off := 44) (tgt := 62) hx hb dX6_bears_18 (by rw [c_8]; decide) (by rw [c_8]; decide) (by rw [c_8]; rfl) (by decide) ?_
          refine lv_aload_n hx hb dX6_bears_62 rfl (lv_at hl 1 rfl) ?_
          refine lv_iload_n hx hb dX6_bears_63 rfl (lv_at hl 2 rfl) ?_
          refine lv_iconst (v := 3) hx hb dX6_bears_64 (by decide) ?_
          obtain ⟨q_9, hq_10, h⟩ := bd_s h
          refine m_rVi (As := [.int x1, .int 3]) (rest := []) (o := 0) (ci := 6) C0 hb hml hl.1 wm_X6_63 md_X6_its (k_X6_its l G a σ hj x1 3 q_9 hq_10) rfl rfl ⟨(Nat.le_of_ble_eq_true rfl), (Nat.le_of_ble_eq_true rfl)⟩ hP hS (rfl : kM 0 = 6) (by decide) rfl rfl rfl (Nat.le_of_ble_eq_true rfl) dX6_bears_65 ?_
          refine lv_bipush (v := 20) hx hb dX6_bears_68 (by decide) ?_
          refine lv_icmp_ge (tgt := 77) hx hb dX6_bears_70 (by decide) (fun (c_11 : 20 ≤ q_9) => ?_) (fun (c_11 : ¬ 20 ≤ q_9) => ?_)
          · rw [if_pos c_11] at h
            refine lv_iconst (v := 2) hx hb dX6_bears_77 (by decide) ?_
            exact m_si hx hb hr hlk (Option.some.inj h) dX6_bears_78
          · rw [if_neg c_11] at h
            refine lv_iconst (v := 1) hx hb dX6_bears_73 (by decide) ?_
            refine lv_goto (tgt := 78) hx hb dX6_bears_74 (by decide) ?_
            exact m_si hx hb hr hlk (Option.some.inj h) dX6_bears_78
        · rw [if_neg c_8] at h
          by_cases c_12 : q_3 = 5
          · rw [if_pos c_12] at h
            refine lv_tableIn (off := 61) (tgt := 79) hx hb dX6_bears_18 (by rw [c_12]; decide) (by rw [c_12]; decide) (by rw [c_12]; rfl) (by decide) ?_
            refine lv_bipush (v := 20) hx hb dX6_bears_79 (by decide) ?_
            exact m_si hx hb hr hlk (Option.some.inj h) dX6_bears_81
          · rw [if_neg c_12] at h
            by_cases c_13 : q_3 = 6
            · rw [if_pos c_13] at h
              refine lv_tableIn (off := 64) (tgt := 82) hx hb dX6_bears_18 (by rw [c_13]; decide) (by rw [c_13]; decide) (by rw [c_13]; rfl) (by decide) ?_
              refine lv_iconst (v := 2) hx hb dX6_bears_82 (by decide) ?_
              refine lv_iload_n hx hb dX6_bears_83 rfl (lv_at hl 0 rfl) ?_
              refine lv_imul hx hb dX6_bears_84 ?_
              exact m_si hx hb hr hlk (Option.some.inj h) dX6_bears_85
            · rw [if_neg c_13] at h
              refine lv_tableOut (tgt := 86) hx hb dX6_bears_18 (by have t0 := lv_neT c_5 (a := 1) rfl; have t1 := lv_neT c_6 (a := 2) rfl; have t2 := lv_neT c_7 (a := 3) rfl; have t3 := lv_neT c_8 (a := 4) rfl; have t4 := lv_neT c_12 (a := 5) rfl; have t5 := lv_neT c_13 (a := 6) rfl; omega) (by decide) ?_
              refine lv_iconst (v := 5) hx hb dX6_bears_86 (by decide) ?_
              exact m_si hx hb hr hlk (Option.some.inj h) dX6_bears_87
def f_X6_doubts (x1 : Int32) (σ : Mem) : Option (Int32) := ((f_X6_its x1 0 σ).bind fun q_1 => (if q_1 = 1 then some 5 else (if q_1 = 2 then some 20 else (if q_1 = 3 then some 25 else (if q_1 = 4 then some 50 else (if q_1 = 5 then some 0 else (if q_1 = 6 then some 1 else some 10)))))))
set_option maxHeartbeats 4000000 in
set_option maxRecDepth 100000 in
theorem k_X6_doubts (l : Launch) (G : GG) (a : Nat → Nat) (σ : Mem) (hj : INJ nM a) (x1 : Int32) (q : Int32) (h : f_X6_doubts x1 σ = some q) : Met l yX6_doubts (Cond.code yX6_doubts cX6_doubts 2 (some .int) :: TB) ({ frames := 2, cells := 0, slots := 0, locals := 43 } : Room) (PA G kM nM a σ [.ref (a 0), .int x1]) (SI q) 0 0 NF := by
  refine M_ofW (by decide) hj kM_lt (Nat.le_of_ble_eq_true rfl) (fun p e s m below meth c ls C0 hb hml hr hlk hP hS hl => ?_)
  have C0 : CT p s _ m RX6 G kM nM a := C0
  have hx := C0.1
  have hts := C0.2.1
  have hown := C0.2.2.1
  have hl : lv_has ls 2 [(0, .ref (a 0)), (1, .int x1)] := hl
  unfold f_X6_doubts at h
  refine lv_aload_n hx hb dX6_doubts_0 rfl (lv_at hl 0 rfl) ?_
  refine lv_iload_n hx hb dX6_doubts_1 rfl (lv_at hl 1 rfl) ?_
  refine lv_iconst (v := 0) hx hb dX6_doubts_2 (by decide) ?_
  obtain ⟨q_1, hq_2, h⟩ := bd_s h
  refine m_rVi (As := [.int x1, .int 0]) (rest := []) (o := 0) (ci := 6) C0 hb hml hl.1 wm_X6_63 md_X6_its (k_X6_its l G a σ hj x1 0 q_1 hq_2) rfl rfl ⟨(Nat.le_of_ble_eq_true rfl), (Nat.le_of_ble_eq_true rfl)⟩ hP hS (rfl : kM 0 = 6) (by decide) rfl rfl rfl (Nat.le_of_ble_eq_true rfl) dX6_doubts_3 ?_
  by_cases c_3 : q_1 = 1
  · rw [if_pos c_3] at h
    refine lv_tableIn (off := 38) (tgt := 44) hx hb dX6_doubts_6 (by rw [c_3]; decide) (by rw [c_3]; decide) (by rw [c_3]; rfl) (by decide) ?_
    refine lv_iconst (v := 5) hx hb dX6_doubts_44 (by decide) ?_
    exact m_si hx hb hr hlk (Option.some.inj h) dX6_doubts_45
  · rw [if_neg c_3] at h
    by_cases c_4 : q_1 = 2
    · rw [if_pos c_4] at h
      refine lv_tableIn (off := 40) (tgt := 46) hx hb dX6_doubts_6 (by rw [c_4]; decide) (by rw [c_4]; decide) (by rw [c_4]; rfl) (by decide) ?_
      refine lv_bipush (v := 20) hx hb dX6_doubts_46 (by decide) ?_
      exact m_si hx hb hr hlk (Option.some.inj h) dX6_doubts_48
    · rw [if_neg c_4] at h
      by_cases c_5 : q_1 = 3
      · rw [if_pos c_5] at h
        refine lv_tableIn (off := 43) (tgt := 49) hx hb dX6_doubts_6 (by rw [c_5]; decide) (by rw [c_5]; decide) (by rw [c_5]; rfl) (by decide) ?_
        refine lv_bipush (v := 25) hx hb dX6_doubts_49 (by decide) ?_
        exact m_si hx hb hr hlk (Option.some.inj h) dX6_doubts_51
      · rw [if_neg c_5] at h
        by_cases c_6 : q_1 = 4
        · rw [if_pos c_6] at h
          refine lv_tableIn (off := 46) (tgt := 52) hx hb dX6_doubts_6 (by rw [c_6]; decide) (by rw [c_6]; decide) (by rw [c_6]; rfl) (by decide) ?_
          refine lv_bipush (v := 50) hx hb dX6_doubts_52 (by decide) ?_
          exact m_si hx hb hr hlk (Option.some.inj h) dX6_doubts_54
        · rw [if_neg c_6] at h
          by_cases c_7 : q_1 = 5
          · rw [if_pos c_7] at h
            refine lv_tableIn (off := 49) (tgt := 55) hx hb dX6_doubts_6 (by rw [c_7]; decide) (by rw [c_7]; decide) (by rw [c_7]; rfl) (by decide) ?_
            refine lv_iconst (v := 0) hx hb dX6_doubts_55 (by decide) ?_
            exact m_si hx hb hr hlk (Option.some.inj h) dX6_doubts_56
          · rw [if_neg c_7] at h
            by_cases c_8 : q_1 = 6
            · rw [if_pos c_8] at h
              refine lv_tableIn (off := 51) (tgt := 57) hx hb dX6_doubts_6 (by rw [c_8]; decide) (by rw [c_8]; decide) (by rw [c_8]; rfl) (by decide) ?_
              refine lv_iconst (v := 1) hx hb dX6_doubts_57 (by decide) ?_
              exact m_si hx hb hr hlk (Option.some.inj h) dX6_doubts_58
            · rw [if_neg c_8] at h
              refine lv_tableOut (tgt := 59) hx hb dX6_doubts_6 (by have t0 := lv_neT c_3 (a := 1) rfl; have t1 := lv_neT c_4 (a := 2) rfl; have t2 := lv_neT c_5 (a := 3) rfl; have t3 := lv_neT c_6 (a := 4) rfl; have t4 := lv_neT c_7 (a := 5) rfl; have t5 := lv_neT c_8 (a := 6) rfl; omega) (by decide) ?_
              refine lv_bipush (v := 10) hx hb dX6_doubts_59 (by decide) ?_
              exact m_si hx hb hr hlk (Option.some.inj h) dX6_doubts_61
def f_X6_isWatcher (x1 : Int32) (σ : Mem) : Int32 := f_X6_in x1.toInt64 0 (((σ 1 1) - 1).toInt64)
theorem bz_X6_isWatcher (x1 : Int32) (σ : Mem) : f_X6_isWatcher x1 σ = 0 ∨ f_X6_isWatcher x1 σ = 1 := by
  unfold f_X6_isWatcher
  repeat' split
  all_goals first | exact Or.inl rfl | exact Or.inr rfl | exact (bz_X6_in x1.toInt64 0 (((σ 1 1) - 1).toInt64))
set_option maxHeartbeats 4000000 in
set_option maxRecDepth 100000 in
theorem k_X6_isWatcher (l : Launch) (G : GG) (a : Nat → Nat) (σ : Mem) (hj : INJ nM a) (x1 : Int32) : Met l yX6_isWatcher (Cond.code yX6_isWatcher cX6_isWatcher 2 (some .boolean) :: TB) ({ frames := 1, cells := 0, slots := 0, locals := 25 } : Room) (PA G kM nM a σ [.ref (a 0), .int x1]) (SI (f_X6_isWatcher x1 σ)) 0 0 NF := by
  generalize h : f_X6_isWatcher x1 σ = q
  refine M_ofW (by decide) hj kM_lt (Nat.le_of_ble_eq_true rfl) (fun p e s m below meth c ls C0 hb hml hr hlk hP hS hl => ?_)
  have C0 : CT p s _ m RX6 G kM nM a := C0
  have hx := C0.1
  have hts := C0.2.1
  have hown := C0.2.2.1
  have hl : lv_has ls 2 [(0, .ref (a 0)), (1, .int x1)] := hl
  unfold f_X6_isWatcher at h
  refine lv_iload_n hx hb dX6_isWatcher_0 rfl (lv_at hl 1 rfl) ?_
  refine lv_i2l (v := x1.toInt64) hx hb dX6_isWatcher_1 rfl ?_
  refine lv_lconst (v := 0) hx hb dX6_isWatcher_2 (by decide) ?_
  refine lv_aload_n hx hb dX6_isWatcher_3 rfl (lv_at hl 0 rfl) ?_
  refine gf_X6_7 (o := 0) (o2 := 1) C0 hb hP (rfl : kM 0 = 6) rfl dX6_isWatcher_4 ?_
  refine lv_iconst (v := 1) hx hb dX6_isWatcher_7 (by decide) ?_
  refine m_iald (o := 1) (N := 74) (i := 1) (j := 1) C0 hb hP (rfl : kM 1 = 100 + 74) (by decide) (show vp_in 1 74 by unfold vp_in; decide) (by decide) dX6_isWatcher_8 ?_
  refine lv_iconst (v := 1) hx hb dX6_isWatcher_9 (by decide) ?_
  refine lv_isub hx hb dX6_isWatcher_10 ?_
  refine lv_i2l (v := ((σ 1 1) - 1).toInt64) hx hb dX6_isWatcher_11 rfl ?_
  refine m_pSi (As := [.long x1.toInt64, .long 0, .long (((σ 1 1) - 1).toInt64)]) (rest := []) C0.z hb hml hl.1 wm_X6_49 md_X6_in (k_X6_in l x1.toInt64 0 (((σ 1 1) - 1).toInt64)) rfl rfl ⟨(Nat.le_of_ble_eq_true rfl), (Nat.le_of_ble_eq_true rfl)⟩ rfl rfl (Nat.le_of_ble_eq_true rfl) dX6_isWatcher_12 ?_
  exact m_sz hx hb hr hlk (bz_X6_in x1.toInt64 0 (((σ 1 1) - 1).toInt64)) h dX6_isWatcher_15
def f_X6_trusts (x1 : Int32) (σ : Mem) : Option (Int32) := ((f_X6_its x1 0 σ).bind fun q_1 => (if q_1 = 1 then some 2 else (if q_1 = 2 then some 1 else (if q_1 = 3 then some 0 else (if q_1 = 4 then some 0 else (if q_1 = 5 then some 3 else (if q_1 = 6 then some 2 else some 1)))))))
set_option maxHeartbeats 4000000 in
set_option maxRecDepth 100000 in
theorem k_X6_trusts (l : Launch) (G : GG) (a : Nat → Nat) (σ : Mem) (hj : INJ nM a) (x1 : Int32) (q : Int32) (h : f_X6_trusts x1 σ = some q) : Met l yX6_trusts (Cond.code yX6_trusts cX6_trusts 2 (some .int) :: TB) ({ frames := 2, cells := 0, slots := 0, locals := 43 } : Room) (PA G kM nM a σ [.ref (a 0), .int x1]) (SI q) 0 0 NF := by
  refine M_ofW (by decide) hj kM_lt (Nat.le_of_ble_eq_true rfl) (fun p e s m below meth c ls C0 hb hml hr hlk hP hS hl => ?_)
  have C0 : CT p s _ m RX6 G kM nM a := C0
  have hx := C0.1
  have hts := C0.2.1
  have hown := C0.2.2.1
  have hl : lv_has ls 2 [(0, .ref (a 0)), (1, .int x1)] := hl
  unfold f_X6_trusts at h
  refine lv_aload_n hx hb dX6_trusts_0 rfl (lv_at hl 0 rfl) ?_
  refine lv_iload_n hx hb dX6_trusts_1 rfl (lv_at hl 1 rfl) ?_
  refine lv_iconst (v := 0) hx hb dX6_trusts_2 (by decide) ?_
  obtain ⟨q_1, hq_2, h⟩ := bd_s h
  refine m_rVi (As := [.int x1, .int 0]) (rest := []) (o := 0) (ci := 6) C0 hb hml hl.1 wm_X6_63 md_X6_its (k_X6_its l G a σ hj x1 0 q_1 hq_2) rfl rfl ⟨(Nat.le_of_ble_eq_true rfl), (Nat.le_of_ble_eq_true rfl)⟩ hP hS (rfl : kM 0 = 6) (by decide) rfl rfl rfl (Nat.le_of_ble_eq_true rfl) dX6_trusts_3 ?_
  by_cases c_3 : q_1 = 1
  · rw [if_pos c_3] at h
    refine lv_tableIn (off := 38) (tgt := 44) hx hb dX6_trusts_6 (by rw [c_3]; decide) (by rw [c_3]; decide) (by rw [c_3]; rfl) (by decide) ?_
    refine lv_iconst (v := 2) hx hb dX6_trusts_44 (by decide) ?_
    exact m_si hx hb hr hlk (Option.some.inj h) dX6_trusts_45
  · rw [if_neg c_3] at h
    by_cases c_4 : q_1 = 2
    · rw [if_pos c_4] at h
      refine lv_tableIn (off := 44) (tgt := 50) hx hb dX6_trusts_6 (by rw [c_4]; decide) (by rw [c_4]; decide) (by rw [c_4]; rfl) (by decide) ?_
      refine lv_iconst (v := 1) hx hb dX6_trusts_50 (by decide) ?_
      exact m_si hx hb hr hlk (Option.some.inj h) dX6_trusts_51
    · rw [if_neg c_4] at h
      by_cases c_5 : q_1 = 3
      · rw [if_pos c_5] at h
        refine lv_tableIn (off := 40) (tgt := 46) hx hb dX6_trusts_6 (by rw [c_5]; decide) (by rw [c_5]; decide) (by rw [c_5]; rfl) (by decide) ?_
        refine lv_iconst (v := 0) hx hb dX6_trusts_46 (by decide) ?_
        exact m_si hx hb hr hlk (Option.some.inj h) dX6_trusts_47
      · rw [if_neg c_5] at h
        by_cases c_6 : q_1 = 4
        · rw [if_pos c_6] at h
          refine lv_tableIn (off := 40) (tgt := 46) hx hb dX6_trusts_6 (by rw [c_6]; decide) (by rw [c_6]; decide) (by rw [c_6]; rfl) (by decide) ?_
          refine lv_iconst (v := 0) hx hb dX6_trusts_46 (by decide) ?_
          exact m_si hx hb hr hlk (Option.some.inj h) dX6_trusts_47
        · rw [if_neg c_6] at h
          by_cases c_7 : q_1 = 5
          · rw [if_pos c_7] at h
            refine lv_tableIn (off := 42) (tgt := 48) hx hb dX6_trusts_6 (by rw [c_7]; decide) (by rw [c_7]; decide) (by rw [c_7]; rfl) (by decide) ?_
            refine lv_iconst (v := 3) hx hb dX6_trusts_48 (by decide) ?_
            exact m_si hx hb hr hlk (Option.some.inj h) dX6_trusts_49
          · rw [if_neg c_7] at h
            by_cases c_8 : q_1 = 6
            · rw [if_pos c_8] at h
              refine lv_tableIn (off := 38) (tgt := 44) hx hb dX6_trusts_6 (by rw [c_8]; decide) (by rw [c_8]; decide) (by rw [c_8]; rfl) (by decide) ?_
              refine lv_iconst (v := 2) hx hb dX6_trusts_44 (by decide) ?_
              exact m_si hx hb hr hlk (Option.some.inj h) dX6_trusts_45
            · rw [if_neg c_8] at h
              refine lv_tableOut (tgt := 50) hx hb dX6_trusts_6 (by have t0 := lv_neT c_3 (a := 1) rfl; have t1 := lv_neT c_4 (a := 2) rfl; have t2 := lv_neT c_5 (a := 3) rfl; have t3 := lv_neT c_6 (a := 4) rfl; have t4 := lv_neT c_7 (a := 5) rfl; have t5 := lv_neT c_8 (a := 6) rfl; omega) (by decide) ?_
              refine lv_iconst (v := 1) hx hb dX6_trusts_50 (by decide) ?_
              exact m_si hx hb hr hlk (Option.some.inj h) dX6_trusts_51
def f_X6_of (x1 : Int32) (x2 : Int32) (σ : Mem) : Option (Int32 × Mem) := (if (f_X6_isWatcher x1 σ) = 0 then ((f_X6_finds (-1000001) σ).bind fun q_2 => some (q_2.1, q_2.2)) else (if (f_X6_in x2.toInt64 0 7) = 0 then ((f_X6_finds (-1000001) σ).bind fun q_16 => some (q_16.1, q_16.2)) else (if 5 ≤ x2 then (if x2 = 5 then ((f_X6_bears x1 σ).bind fun q_12 => some (q_12, σ)) else (if x2 = 6 then ((f_X6_doubts x1 σ).bind fun q_10 => some (q_10, σ)) else ((f_X6_trusts x1 σ).bind fun q_8 => some (q_8, σ)))) else ((f_X6_its x1 x2 σ).bind fun q_14 => some (q_14, σ)))))
set_option maxHeartbeats 4000000 in
set_option maxRecDepth 100000 in
theorem k_X6_of (l : Launch) (G : GG) (a : Nat → Nat) (σ : Mem) (hj : INJ nM a) (x1 : Int32) (x2 : Int32) (q : Int32 × Mem) (h : f_X6_of x1 x2 σ = some q) : Met l yX6_of (Cond.code yX6_of cX6_of 3 (some .int) :: TB) ({ frames := 3, cells := 0, slots := 0, locals := 65 } : Room) (PA G kM nM a σ [.ref (a 0), .int x1, .int x2]) (QI G kM nM a q) 0 0 (AW nM a) := by
  refine M_ofW (by decide) hj kM_lt (Nat.le_of_ble_eq_true rfl) (fun p e s m below meth c ls C0 hb hml hr hlk hP hS hl => ?_)
  have C0 : CT p s _ m RX6 G kM nM a := C0
  have hx := C0.1
  have hts := C0.2.1
  have hown := C0.2.2.1
  have hl : lv_has ls 3 [(0, .ref (a 0)), (1, .int x1), (2, .int x2)] := hl
  unfold f_X6_of at h
  refine lv_aload_n hx hb dX6_of_0 rfl (lv_at hl 0 rfl) ?_
  refine lv_iload_n hx hb dX6_of_1 rfl (lv_at hl 1 rfl) ?_
  refine m_rVi (As := [.int x1]) (rest := []) (o := 0) (ci := 6) C0 hb hml hl.1 wm_X6_100 md_X6_isWatcher (k_X6_isWatcher l G a σ hj x1) rfl rfl ⟨(Nat.le_of_ble_eq_true rfl), (Nat.le_of_ble_eq_true rfl)⟩ hP hS (rfl : kM 0 = 6) (by decide) rfl rfl rfl (Nat.le_of_ble_eq_true rfl) dX6_of_2 ?_
  refine lv_if_eq (tgt := 20) hx hb dX6_of_5 (by decide) (fun (c_1 : (f_X6_isWatcher x1 σ) = 0) => ?_) (fun (c_1 : ¬ (f_X6_isWatcher x1 σ) = 0) => ?_)
  · rw [if_pos c_1] at h
    refine lv_aload_n hx hb dX6_of_20 rfl (lv_at hl 0 rfl) ?_
    refine lv_ldc hx hb hown (hts _ wk_X6_46) dX6_of_21 ?_
    obtain ⟨q_2, hq_3, h⟩ := bd_s h
    refine m_cVi (As := [.int (-1000001)]) (rest := []) (o := 0) (ci := 6) C0 hb hml hl.1 wm_X6_75 md_X6_finds (k_X6_finds l G a σ hj (-1000001) q_2 hq_3) rfl rfl ⟨(Nat.le_of_ble_eq_true rfl), (Nat.le_of_ble_eq_true rfl)⟩ hP hS (rfl : kM 0 = 6) (by decide) rfl rfl rfl (Nat.le_of_ble_eq_true rfl) dX6_of_23 (fun H locs hP hS => ?_)
    exact m_ri hx hb hr hlk hP hS (Option.some.inj h) dX6_of_26
  · rw [if_neg c_1] at h
    refine lv_iload_n hx hb dX6_of_8 rfl (lv_at hl 2 rfl) ?_
    refine lv_i2l (v := x2.toInt64) hx hb dX6_of_9 rfl ?_
    refine lv_lconst (v := 0) hx hb dX6_of_10 (by decide) ?_
    refine lv_ldc2 hx hb hown (hts _ wk_X6_53) dX6_of_11 ?_
    refine m_pSi (As := [.long x2.toInt64, .long 0, .long 7]) (rest := []) C0.z hb hml hl.1 wm_X6_49 md_X6_in (k_X6_in l x2.toInt64 0 7) rfl rfl ⟨(Nat.le_of_ble_eq_true rfl), (Nat.le_of_ble_eq_true rfl)⟩ rfl rfl (Nat.le_of_ble_eq_true rfl) dX6_of_14 ?_
    refine lv_if_ne (tgt := 27) hx hb dX6_of_17 (by decide) (fun (c_4 : ¬ (f_X6_in x2.toInt64 0 7) = 0) => ?_) (fun (c_4 : (f_X6_in x2.toInt64 0 7) = 0) => ?_)
    · rw [if_neg c_4] at h
      refine lv_iload_n hx hb dX6_of_27 rfl (lv_at hl 2 rfl) ?_
      refine lv_iconst (v := 5) hx hb dX6_of_28 (by decide) ?_
      refine lv_icmp_ge (tgt := 41) hx hb dX6_of_29 (by decide) (fun (c_5 : 5 ≤ x2) => ?_) (fun (c_5 : ¬ 5 ≤ x2) => ?_)
      · rw [if_pos c_5] at h
        refine lv_iload_n hx hb dX6_of_41 rfl (lv_at hl 2 rfl) ?_
        refine lv_iconst (v := 5) hx hb dX6_of_42 (by decide) ?_
        refine lv_icmp_ne (tgt := 54) hx hb dX6_of_43 (by decide) (fun (c_6 : ¬ x2 = 5) => ?_) (fun (c_6 : x2 = 5) => ?_)
        · rw [if_neg c_6] at h
          refine lv_iload_n hx hb dX6_of_54 rfl (lv_at hl 2 rfl) ?_
          refine lv_bipush (v := 6) hx hb dX6_of_55 (by decide) ?_
          refine lv_icmp_ne (tgt := 68) hx hb dX6_of_57 (by decide) (fun (c_7 : ¬ x2 = 6) => ?_) (fun (c_7 : x2 = 6) => ?_)
          · rw [if_neg c_7] at h
            refine lv_aload_n hx hb dX6_of_68 rfl (lv_at hl 0 rfl) ?_
            refine lv_iload_n hx hb dX6_of_69 rfl (lv_at hl 1 rfl) ?_
            obtain ⟨q_8, hq_9, h⟩ := bd_s h
            refine m_rVi (As := [.int x1]) (rest := []) (o := 0) (ci := 6) C0 hb hml hl.1 wm_X6_109 md_X6_trusts (k_X6_trusts l G a σ hj x1 q_8 hq_9) rfl rfl ⟨(Nat.le_of_ble_eq_true rfl), (Nat.le_of_ble_eq_true rfl)⟩ hP hS (rfl : kM 0 = 6) (by decide) rfl rfl rfl (Nat.le_of_ble_eq_true rfl) dX6_of_70 ?_
            exact m_ri hx hb hr hlk hP hS (Option.some.inj h) dX6_of_73
          · rw [if_pos c_7] at h
            refine lv_aload_n hx hb dX6_of_60 rfl (lv_at hl 0 rfl) ?_
            refine lv_iload_n hx hb dX6_of_61 rfl (lv_at hl 1 rfl) ?_
            obtain ⟨q_10, hq_11, h⟩ := bd_s h
            refine m_rVi (As := [.int x1]) (rest := []) (o := 0) (ci := 6) C0 hb hml hl.1 wm_X6_106 md_X6_doubts (k_X6_doubts l G a σ hj x1 q_10 hq_11) rfl rfl ⟨(Nat.le_of_ble_eq_true rfl), (Nat.le_of_ble_eq_true rfl)⟩ hP hS (rfl : kM 0 = 6) (by decide) rfl rfl rfl (Nat.le_of_ble_eq_true rfl) dX6_of_62 ?_
            refine lv_goto (tgt := 73) hx hb dX6_of_65 (by decide) ?_
            exact m_ri hx hb hr hlk hP hS (Option.some.inj h) dX6_of_73
        · rw [if_pos c_6] at h
          refine lv_aload_n hx hb dX6_of_46 rfl (lv_at hl 0 rfl) ?_
          refine lv_iload_n hx hb dX6_of_47 rfl (lv_at hl 1 rfl) ?_
          obtain ⟨q_12, hq_13, h⟩ := bd_s h
          refine m_rVi (As := [.int x1]) (rest := []) (o := 0) (ci := 6) C0 hb hml hl.1 wm_X6_103 md_X6_bears (k_X6_bears l G a σ hj x1 q_12 hq_13) rfl rfl ⟨(Nat.le_of_ble_eq_true rfl), (Nat.le_of_ble_eq_true rfl)⟩ hP hS (rfl : kM 0 = 6) (by decide) rfl rfl rfl (Nat.le_of_ble_eq_true rfl) dX6_of_48 ?_
          refine lv_goto (tgt := 73) hx hb dX6_of_51 (by decide) ?_
          exact m_ri hx hb hr hlk hP hS (Option.some.inj h) dX6_of_73
      · rw [if_neg c_5] at h
        refine lv_aload_n hx hb dX6_of_32 rfl (lv_at hl 0 rfl) ?_
        refine lv_iload_n hx hb dX6_of_33 rfl (lv_at hl 1 rfl) ?_
        refine lv_iload_n hx hb dX6_of_34 rfl (lv_at hl 2 rfl) ?_
        obtain ⟨q_14, hq_15, h⟩ := bd_s h
        refine m_rVi (As := [.int x1, .int x2]) (rest := []) (o := 0) (ci := 6) C0 hb hml hl.1 wm_X6_63 md_X6_its (k_X6_its l G a σ hj x1 x2 q_14 hq_15) rfl rfl ⟨(Nat.le_of_ble_eq_true rfl), (Nat.le_of_ble_eq_true rfl)⟩ hP hS (rfl : kM 0 = 6) (by decide) rfl rfl rfl (Nat.le_of_ble_eq_true rfl) dX6_of_35 ?_
        refine lv_goto (tgt := 73) hx hb dX6_of_38 (by decide) ?_
        exact m_ri hx hb hr hlk hP hS (Option.some.inj h) dX6_of_73
    · rw [if_pos c_4] at h
      refine lv_aload_n hx hb dX6_of_20 rfl (lv_at hl 0 rfl) ?_
      refine lv_ldc hx hb hown (hts _ wk_X6_46) dX6_of_21 ?_
      obtain ⟨q_16, hq_17, h⟩ := bd_s h
      refine m_cVi (As := [.int (-1000001)]) (rest := []) (o := 0) (ci := 6) C0 hb hml hl.1 wm_X6_75 md_X6_finds (k_X6_finds l G a σ hj (-1000001) q_16 hq_17) rfl rfl ⟨(Nat.le_of_ble_eq_true rfl), (Nat.le_of_ble_eq_true rfl)⟩ hP hS (rfl : kM 0 = 6) (by decide) rfl rfl rfl (Nat.le_of_ble_eq_true rfl) dX6_of_23 (fun H locs hP hS => ?_)
      exact m_ri hx hb hr hlk hP hS (Option.some.inj h) dX6_of_26
def f_X6_change_J31 (x1 : Int32) (x2 : Int32) (x3 : Int32) (σ : Mem) (t_1 : Int32) : Option (Int32 × Mem) := (if (f_X6_isWatcher x1 σ) = 0 then ((f_X6_finds (-1000001) σ).bind fun q_3 => some (q_3.1, q_3.2)) else (if t_1 = 0 then ((f_X6_finds (-1000001) σ).bind fun q_6 => some (q_6.1, q_6.2)) else ((f_X6_becomes (f_X6_place x1 x2) x3 σ).bind fun q_8 => some (q_8.1, q_8.2))))
def f_X6_change_J30 (x1 : Int32) (x2 : Int32) (x3 : Int32) (σ : Mem) : Option (Int32 × Mem) := (f_X6_change_J31 x1 x2 x3 σ 0)
def f_X6_change (x1 : Int32) (x2 : Int32) (x3 : Int32) (σ : Mem) : Option (Int32 × Mem) := (if (f_X6_in x2.toInt64 0 4) = 0 then (f_X6_change_J30 x1 x2 x3 σ) else (if (f_X6_in x3.toInt64 0 ((f_X6_most x2).toInt64)) = 0 then (f_X6_change_J30 x1 x2 x3 σ) else (f_X6_change_J31 x1 x2 x3 σ 1)))
set_option maxHeartbeats 4000000 in
set_option maxRecDepth 100000 in
theorem k_X6_change (l : Launch) (G : GG) (a : Nat → Nat) (σ : Mem) (hj : INJ nM a) (x1 : Int32) (x2 : Int32) (x3 : Int32) (q : Int32 × Mem) (h : f_X6_change x1 x2 x3 σ = some q) : Met l yX6_change (Cond.code yX6_change cX6_change 5 (some .int) :: TB) ({ frames := 2, cells := 0, slots := 0, locals := 46 } : Room) (PA G kM nM a σ [.ref (a 0), .int x1, .int x2, .int x3]) (QI G kM nM a q) 0 0 (AW nM a) := by
  refine M_ofW (by decide) hj kM_lt (Nat.le_of_ble_eq_true rfl) (fun p e s m below meth c ls C0 hb hml hr hlk hP hS hl => ?_)
  have C0 : CT p s _ m RX6 G kM nM a := C0
  have hx := C0.1
  have hts := C0.2.1
  have hown := C0.2.2.1
  have hl : lv_has ls 5 [(0, .ref (a 0)), (1, .int x1), (2, .int x2), (3, .int x3)] := hl
  unfold f_X6_change at h
  refine lv_iload_n hx hb dX6_change_0 rfl (lv_at hl 2 rfl) ?_
  refine lv_i2l (v := x2.toInt64) hx hb dX6_change_1 rfl ?_
  refine lv_lconst (v := 0) hx hb dX6_change_2 (by decide) ?_
  refine lv_ldc2 hx hb hown (hts _ wk_X6_112) dX6_change_3 ?_
  refine m_pSi (As := [.long x2.toInt64, .long 0, .long 4]) (rest := []) C0.z hb hml hl.1 wm_X6_49 md_X6_in (k_X6_in l x2.toInt64 0 4) rfl rfl ⟨(Nat.le_of_ble_eq_true rfl), (Nat.le_of_ble_eq_true rfl)⟩ rfl rfl (Nat.le_of_ble_eq_true rfl) dX6_change_6 ?_
  have J_10 : ∀ (t_1 : Int32) (H : Heap) (locs : List Loc) (ls : Array Slot), f_X6_change_J31 x1 x2 x3 σ t_1 = some q → HP G kM nM a σ H → va_S (AW nM a) s.heap H locs → lv_has ls 5 [(0, .ref (a 0)), (1, .int x1), (2, .int x2), (3, .int x3)] → W p l e ({ frames := 2, cells := 0, slots := 0, locals := 46 } : Room) s m ([.ref (a 0), .int x1, .int x2, .int x3] : List Value).toArray below meth c H locs 0 0 (MQ below (QI G kM nM a q) ([.ref (a 0), .int x1, .int x2, .int x3] : List Value).toArray s 0 0 (AW nM a)) (F0 m 31 ls [.int t_1]) := by
    intro t_1 H locs ls h hP hS hl
    unfold f_X6_change_J31 at h
    refine lv_istore (lv' := [(4, .int t_1), (0, .ref (a 0)), (1, .int x1), (2, .int x2), (3, .int x3)]) hx hb dX6_change_31 hl (by decide) rfl (fun ls hl => ?_)
    refine lv_aload_n hx hb dX6_change_33 rfl (lv_at hl 1 rfl) ?_
    refine lv_iload_n hx hb dX6_change_34 rfl (lv_at hl 2 rfl) ?_
    refine m_rVi (As := [.int x1]) (rest := []) (o := 0) (ci := 6) C0 hb hml hl.1 wm_X6_100 md_X6_isWatcher (k_X6_isWatcher l G a σ hj x1) rfl rfl ⟨(Nat.le_of_ble_eq_true rfl), (Nat.le_of_ble_eq_true rfl)⟩ hP hS (rfl : kM 0 = 6) (by decide) rfl rfl rfl (Nat.le_of_ble_eq_true rfl) dX6_change_35 ?_
    refine lv_if_eq (tgt := 59) hx hb dX6_change_38 (by decide) (fun (c_2 : (f_X6_isWatcher x1 σ) = 0) => ?_) (fun (c_2 : ¬ (f_X6_isWatcher x1 σ) = 0) => ?_)
    · rw [if_pos c_2] at h
      refine lv_aload_n hx hb dX6_change_59 rfl (lv_at hl 1 rfl) ?_
      refine lv_ldc hx hb hown (hts _ wk_X6_46) dX6_change_60 ?_
      obtain ⟨q_3, hq_4, h⟩ := bd_s h
      refine m_cVi (As := [.int (-1000001)]) (rest := []) (o := 0) (ci := 6) C0 hb hml hl.1 wm_X6_75 md_X6_finds (k_X6_finds l G a σ hj (-1000001) q_3 hq_4) rfl rfl ⟨(Nat.le_of_ble_eq_true rfl), (Nat.le_of_ble_eq_true rfl)⟩ hP hS (rfl : kM 0 = 6) (by decide) rfl rfl rfl (Nat.le_of_ble_eq_true rfl) dX6_change_62 (fun H locs hP hS => ?_)
      exact m_ri hx hb hr hlk hP hS (Option.some.inj h) dX6_change_65
    · rw [if_neg c_2] at h
      refine lv_iload hx hb dX6_change_41 (lv_at hl 0 rfl) ?_
      refine lv_if_eq (tgt := 59) hx hb dX6_change_43 (by decide) (fun (c_5 : t_1 = 0) => ?_) (fun (c_5 : ¬ t_1 = 0) => ?_)
      · rw [if_pos c_5] at h
        refine lv_aload_n hx hb dX6_change_59 rfl (lv_at hl 1 rfl) ?_
        refine lv_ldc hx hb hown (hts _ wk_X6_46) dX6_change_60 ?_
        obtain ⟨q_6, hq_7, h⟩ := bd_s h
        refine m_cVi (As := [.int (-1000001)]) (rest := []) (o := 0) (ci := 6) C0 hb hml hl.1 wm_X6_75 md_X6_finds (k_X6_finds l G a σ hj (-1000001) q_6 hq_7) rfl rfl ⟨(Nat.le_of_ble_eq_true rfl), (Nat.le_of_ble_eq_true rfl)⟩ hP hS (rfl : kM 0 = 6) (by decide) rfl rfl rfl (Nat.le_of_ble_eq_true rfl) dX6_change_62 (fun H locs hP hS => ?_)
        exact m_ri hx hb hr hlk hP hS (Option.some.inj h) dX6_change_65
      · rw [if_neg c_5] at h
        refine lv_aload_n hx hb dX6_change_46 rfl (lv_at hl 1 rfl) ?_
        refine lv_iload_n hx hb dX6_change_47 rfl (lv_at hl 2 rfl) ?_
        refine lv_iload_n hx hb dX6_change_48 rfl (lv_at hl 3 rfl) ?_
        refine m_pSi (As := [.int x1, .int x2]) (rest := [.ref (a 0)]) C0.z hb hml hl.1 wm_X6_59 md_X6_place (k_X6_place l x1 x2) rfl rfl ⟨(Nat.le_of_ble_eq_true rfl), (Nat.le_of_ble_eq_true rfl)⟩ rfl rfl (Nat.le_of_ble_eq_true rfl) dX6_change_49 ?_
        refine lv_iload_n hx hb dX6_change_52 rfl (lv_at hl 4 rfl) ?_
        obtain ⟨q_8, hq_9, h⟩ := bd_s h
        refine m_cVi (As := [.int (f_X6_place x1 x2), .int x3]) (rest := []) (o := 0) (ci := 6) C0 hb hml hl.1 wm_X6_72 md_X6_becomes (k_X6_becomes l G a σ hj (f_X6_place x1 x2) x3 q_8 hq_9) rfl rfl ⟨(Nat.le_of_ble_eq_true rfl), (Nat.le_of_ble_eq_true rfl)⟩ hP hS (rfl : kM 0 = 6) (by decide) rfl rfl rfl (Nat.le_of_ble_eq_true rfl) dX6_change_53 (fun H locs hP hS => ?_)
        refine lv_goto (tgt := 65) hx hb dX6_change_56 (by decide) ?_
        exact m_ri hx hb hr hlk hP hS (Option.some.inj h) dX6_change_65
  have J_11 : ∀  (H : Heap) (locs : List Loc) (ls : Array Slot), f_X6_change_J30 x1 x2 x3 σ = some q → HP G kM nM a σ H → va_S (AW nM a) s.heap H locs → lv_has ls 5 [(0, .ref (a 0)), (1, .int x1), (2, .int x2), (3, .int x3)] → W p l e ({ frames := 2, cells := 0, slots := 0, locals := 46 } : Room) s m ([.ref (a 0), .int x1, .int x2, .int x3] : List Value).toArray below meth c H locs 0 0 (MQ below (QI G kM nM a q) ([.ref (a 0), .int x1, .int x2, .int x3] : List Value).toArray s 0 0 (AW nM a)) (F0 m 30 ls []) := by
    intro  H locs ls h hP hS hl
    unfold f_X6_change_J30 at h
    refine lv_iconst (v := 0) hx hb dX6_change_30 (by decide) ?_
    exact J_10 0 _ _ _ h hP hS (lv_sub hl [0, 1, 2, 3] rfl)
  refine lv_if_eq (tgt := 30) hx hb dX6_change_9 (by decide) (fun (c_12 : (f_X6_in x2.toInt64 0 4) = 0) => ?_) (fun (c_12 : ¬ (f_X6_in x2.toInt64 0 4) = 0) => ?_)
  · rw [if_pos c_12] at h
    exact J_11  _ _ _ h hP hS (lv_sub hl [0, 1, 2, 3] rfl)
  · rw [if_neg c_12] at h
    refine lv_iload_n hx hb dX6_change_12 rfl (lv_at hl 3 rfl) ?_
    refine lv_i2l (v := x3.toInt64) hx hb dX6_change_13 rfl ?_
    refine lv_lconst (v := 0) hx hb dX6_change_14 (by decide) ?_
    refine lv_iload_n hx hb dX6_change_15 rfl (lv_at hl 2 rfl) ?_
    refine m_pSi (As := [.int x2]) (rest := [.long 0, .long x3.toInt64]) C0.z hb hml hl.1 wm_X6_114 md_X6_most (k_X6_most l x2) rfl rfl ⟨(Nat.le_of_ble_eq_true rfl), (Nat.le_of_ble_eq_true rfl)⟩ rfl rfl (Nat.le_of_ble_eq_true rfl) dX6_change_16 ?_
    refine lv_i2l (v := (f_X6_most x2).toInt64) hx hb dX6_change_19 rfl ?_
    refine m_pSi (As := [.long x3.toInt64, .long 0, .long ((f_X6_most x2).toInt64)]) (rest := []) C0.z hb hml hl.1 wm_X6_49 md_X6_in (k_X6_in l x3.toInt64 0 ((f_X6_most x2).toInt64)) rfl rfl ⟨(Nat.le_of_ble_eq_true rfl), (Nat.le_of_ble_eq_true rfl)⟩ rfl rfl (Nat.le_of_ble_eq_true rfl) dX6_change_20 ?_
    refine lv_if_eq (tgt := 30) hx hb dX6_change_23 (by decide) (fun (c_13 : (f_X6_in x3.toInt64 0 ((f_X6_most x2).toInt64)) = 0) => ?_) (fun (c_13 : ¬ (f_X6_in x3.toInt64 0 ((f_X6_most x2).toInt64)) = 0) => ?_)
    · rw [if_pos c_13] at h
      exact J_11  _ _ _ h hP hS (lv_sub hl [0, 1, 2, 3] rfl)
    · rw [if_neg c_13] at h
      refine lv_iconst (v := 1) hx hb dX6_change_26 (by decide) ?_
      refine lv_goto (tgt := 31) hx hb dX6_change_27 (by decide) ?_
      exact J_10 1 _ _ _ h hP hS (lv_sub hl [0, 1, 2, 3] rfl)
def f_X6_flows_J122 (x1_4 : Int32) (σ_5 : Mem) (rec31 : Int32 → Mem → Option (Mem)) (t_11 : Int32) : Option (Mem) := (chk (12 + x1_4) 74 (rec31 (x1_4 + 1) (mst σ_5 1 ((12 + x1_4).toNatClampNeg) t_11)))
def f_X6_flows_J81 (x1_4 : Int32) (σ_5 : Mem) (rec31 : Int32 → Mem → Option (Mem)) (t_8 : Int32) : Option (Mem) := (chk x1_4 12 (chk x1_4 12 (f_X6_flows_J122 x1_4 σ_5 rec31 (if (((σ_5 6 x1_4.toNatClampNeg) - ((σ_5 6 x1_4.toNatClampNeg) / 2)) + t_8) ≤ 9999 then ((σ_5 6 x1_4.toNatClampNeg) - ((σ_5 6 x1_4.toNatClampNeg) / 2)) + t_8 else 9999))))
def f_X6_flows_B31  (rec31 : Int32 → Mem → Option (Mem)) (x1_4 : Int32) (σ_5 : Mem) : Option (Mem) := (if 12 ≤ x1_4 then (if ((σ_5 1 2) + ((σ_5 6 11) / 2)) ≤ 999999 then some (mst σ_5 1 2 ((σ_5 1 2) + ((σ_5 6 11) / 2))) else some (mst σ_5 1 2 999999)) else (if x1_4 = 0 then (if (σ_5 0 6) = 0 then (chk (4 + (jrem (σ_5 1 0) 8)) 74 (f_X6_flows_J81 x1_4 σ_5 rec31 (σ_5 1 ((4 + (jrem (σ_5 1 0) 8)).toNatClampNeg)))) else (f_X6_flows_J81 x1_4 σ_5 rec31 0)) else (chk (x1_4 - 1) 12 (f_X6_flows_J81 x1_4 σ_5 rec31 ((σ_5 6 ((x1_4 - 1).toNatClampNeg)) / 2)))))
def f_X6_flows_B2  (rec2 : Int32 → Mem → Option (Mem)) (x1_1 : Int32) (σ_2 : Mem) : Option (Mem) := (if 12 ≤ x1_1 then (it2 f_X6_flows_B31 FU 0 σ_2) else (chk (12 + x1_1) 74 (chk x1_1 12 (rec2 (x1_1 + 1) (mst σ_2 6 x1_1.toNatClampNeg (σ_2 1 ((12 + x1_1).toNatClampNeg)))))))
def f_X6_flows (σ : Mem) : Option (Mem) := (it2 f_X6_flows_B2 FU 0 σ)
set_option maxHeartbeats 4000000 in
set_option maxRecDepth 100000 in
theorem k_X6_flows (l : Launch) (G : GG) (a : Nat → Nat) (σ : Mem) (hj : INJ nM a)  (q : Mem) (h : f_X6_flows σ = some q) : Met l yX6_flows (Cond.code yX6_flows cX6_flows 4 none :: TB) ({ frames := 0, cells := 0, slots := 0, locals := 0 } : Room) (PA G kM nM a σ [.ref (a 0)]) (QV G kM nM a q) 0 0 (AW nM a) := by
  refine M_ofW (by decide) hj kM_lt (Nat.le_of_ble_eq_true rfl) (fun p e s m below meth c ls C0 hb hml hr hlk hP hS hl => ?_)
  have C0 : CT p s _ m RX6 G kM nM a := C0
  have hx := C0.1
  have hts := C0.2.1
  have hown := C0.2.2.1
  have hl : lv_has ls 4 [(0, .ref (a 0))] := hl
  unfold f_X6_flows at h
  refine lv_iconst (v := 0) hx hb dX6_flows_0 (by decide) ?_
  refine lv_istore_n (lv' := [(1, .int 0), (0, .ref (a 0))]) hx hb dX6_flows_1 rfl hl (by decide) rfl (fun ls hl => ?_)
  have L_23 : ∀ (fu2 : Nat) (x1_1 : Int32) (σ_2 : Mem) (H : Heap) (locs : List Loc) (ls : Array Slot), it2 f_X6_flows_B2 fu2 x1_1 σ_2 = some q → HP G kM nM a σ_2 H → va_S (AW nM a) s.heap H locs → lv_has ls 4 [(1, .int x1_1), (0, .ref (a 0))] → W p l e ({ frames := 0, cells := 0, slots := 0, locals := 0 } : Room) s m ([.ref (a 0)] : List Value).toArray below meth c H locs 0 0 (MQ below (QV G kM nM a q) ([.ref (a 0)] : List Value).toArray s 0 0 (AW nM a)) (F0 m 2 ls []) := by
    intro fu2
    induction fu2 with
    | zero =>
      intro x1_1 σ_2 H locs ls h
      cases h
    | succ fu2 ih2 =>
      intro x1_1 σ_2 H locs ls h hP hS hl
      replace h : f_X6_flows_B2 (it2 f_X6_flows_B2 fu2) x1_1 σ_2 = some q := h
      generalize it2 f_X6_flows_B2 fu2 = rec2 at h ih2
      unfold f_X6_flows_B2 at h
      refine lv_iload_n hx hb dX6_flows_2 rfl (lv_at hl 0 rfl) ?_
      refine lv_bipush (v := 12) hx hb dX6_flows_3 (by decide) ?_
      refine lv_icmp_ge (tgt := 29) hx hb dX6_flows_5 (by decide) (fun (c_3 : 12 ≤ x1_1) => ?_) (fun (c_3 : ¬ 12 ≤ x1_1) => ?_)
      · rw [if_pos c_3] at h
        refine lv_iconst (v := 0) hx hb dX6_flows_29 (by decide) ?_
        refine lv_istore_n (lv' := [(1, .int 0), (0, .ref (a 0))]) hx hb dX6_flows_30 rfl hl (by decide) rfl (fun ls hl => ?_)
        have L_20 : ∀ (fu31 : Nat) (x1_4 : Int32) (σ_5 : Mem) (H : Heap) (locs : List Loc) (ls : Array Slot), it2 f_X6_flows_B31 fu31 x1_4 σ_5 = some q → HP G kM nM a σ_5 H → va_S (AW nM a) s.heap H locs → lv_has ls 4 [(1, .int x1_4), (0, .ref (a 0))] → W p l e ({ frames := 0, cells := 0, slots := 0, locals := 0 } : Room) s m ([.ref (a 0)] : List Value).toArray below meth c H locs 0 0 (MQ below (QV G kM nM a q) ([.ref (a 0)] : List Value).toArray s 0 0 (AW nM a)) (F0 m 31 ls []) := by
          intro fu31
          induction fu31 with
          | zero =>
            intro x1_4 σ_5 H locs ls h
            cases h
          | succ fu31 ih31 =>
            intro x1_4 σ_5 H locs ls h hP hS hl
            replace h : f_X6_flows_B31 (it2 f_X6_flows_B31 fu31) x1_4 σ_5 = some q := h
            generalize it2 f_X6_flows_B31 fu31 = rec31 at h ih31
            unfold f_X6_flows_B31 at h
            refine lv_iload_n hx hb dX6_flows_31 rfl (lv_at hl 0 rfl) ?_
            refine lv_bipush (v := 12) hx hb dX6_flows_32 (by decide) ?_
            refine lv_icmp_ge (tgt := 129) hx hb dX6_flows_34 (by decide) (fun (c_6 : 12 ≤ x1_4) => ?_) (fun (c_6 : ¬ 12 ≤ x1_4) => ?_)
            · rw [if_pos c_6] at h
              refine lv_aload_n hx hb dX6_flows_129 rfl (lv_at hl 1 rfl) ?_
              refine gf_X6_7 (o := 0) (o2 := 1) C0 hb hP (rfl : kM 0 = 6) rfl dX6_flows_130 ?_
              refine lv_iconst (v := 2) hx hb dX6_flows_133 (by decide) ?_
              refine m_iald (o := 1) (N := 74) (i := 2) (j := 2) C0 hb hP (rfl : kM 1 = 100 + 74) (by decide) (show vp_in 2 74 by unfold vp_in; decide) (by decide) dX6_flows_134 ?_
              refine lv_aload_n hx hb dX6_flows_135 rfl (lv_at hl 1 rfl) ?_
              refine gf_X6_25 (o := 0) (o2 := 6) C0 hb hP (rfl : kM 0 = 6) rfl dX6_flows_136 ?_
              refine lv_bipush (v := 11) hx hb dX6_flows_139 (by decide) ?_
              refine m_iald (o := 6) (N := 12) (i := 11) (j := 11) C0 hb hP (rfl : kM 6 = 100 + 12) (by decide) (show vp_in 11 12 by unfold vp_in; decide) (by decide) dX6_flows_141 ?_
              refine lv_iconst (v := 2) hx hb dX6_flows_142 (by decide) ?_
              refine lv_idiv hx hb dX6_flows_143 (by decide) ?_
              refine lv_iadd hx hb dX6_flows_144 ?_
              refine lv_istore_n (lv' := [(1, .int ((σ_5 1 2) + ((σ_5 6 11) / 2))), (0, .ref (a 0))]) hx hb dX6_flows_145 rfl hl (by decide) rfl (fun ls hl => ?_)
              refine lv_aload_n hx hb dX6_flows_146 rfl (lv_at hl 1 rfl) ?_
              refine gf_X6_7 (o := 0) (o2 := 1) C0 hb hP (rfl : kM 0 = 6) rfl dX6_flows_147 ?_
              refine lv_iconst (v := 2) hx hb dX6_flows_150 (by decide) ?_
              refine lv_iload_n hx hb dX6_flows_151 rfl (lv_at hl 0 rfl) ?_
              refine lv_ldc hx hb hown (hts _ wk_X6_121) dX6_flows_152 ?_
              refine lv_icmp_le (tgt := 162) hx hb dX6_flows_154 (by decide) (fun (c_7 : ((σ_5 1 2) + ((σ_5 6 11) / 2)) ≤ 999999) => ?_) (fun (c_7 : ¬ ((σ_5 1 2) + ((σ_5 6 11) / 2)) ≤ 999999) => ?_)
              · rw [if_pos c_7] at h
                refine lv_iload_n hx hb dX6_flows_162 rfl (lv_at hl 0 rfl) ?_
                refine m_iast (o := 1) (N := 74) (i := 2) (j := 2) C0 hb hP hS (rfl : kM 1 = 100 + 74) (by decide) (show vp_in 2 74 by unfold vp_in; decide) (by decide) dX6_flows_163 (fun H locs hP hS => ?_)
                exact m_rv hx hb hr hlk hP hS (Option.some.inj h) dX6_flows_164
              · rw [if_neg c_7] at h
                refine lv_ldc hx hb hown (hts _ wk_X6_121) dX6_flows_157 ?_
                refine lv_goto (tgt := 163) hx hb dX6_flows_159 (by decide) ?_
                refine m_iast (o := 1) (N := 74) (i := 2) (j := 2) C0 hb hP hS (rfl : kM 1 = 100 + 74) (by decide) (show vp_in 2 74 by unfold vp_in; decide) (by decide) dX6_flows_163 (fun H locs hP hS => ?_)
                exact m_rv hx hb hr hlk hP hS (Option.some.inj h) dX6_flows_164
            · rw [if_neg c_6] at h
              refine lv_iload_n hx hb dX6_flows_37 rfl (lv_at hl 0 rfl) ?_
              have J_15 : ∀ (t_8 : Int32) (H : Heap) (locs : List Loc) (ls : Array Slot), f_X6_flows_J81 x1_4 σ_5 rec31 t_8 = some q → HP G kM nM a σ_5 H → va_S (AW nM a) s.heap H locs → lv_has ls 4 [(1, .int x1_4), (0, .ref (a 0))] → W p l e ({ frames := 0, cells := 0, slots := 0, locals := 0 } : Room) s m ([.ref (a 0)] : List Value).toArray below meth c H locs 0 0 (MQ below (QV G kM nM a q) ([.ref (a 0)] : List Value).toArray s 0 0 (AW nM a)) (F0 m 81 ls [.int t_8]) := by
                intro t_8 H locs ls h hP hS hl
                unfold f_X6_flows_J81 at h
                refine lv_istore_n (lv' := [(2, .int t_8), (1, .int x1_4), (0, .ref (a 0))]) hx hb dX6_flows_81 rfl hl (by decide) rfl (fun ls hl => ?_)
                refine lv_aload_n hx hb dX6_flows_82 rfl (lv_at hl 2 rfl) ?_
                refine gf_X6_25 (o := 0) (o2 := 6) C0 hb hP (rfl : kM 0 = 6) rfl dX6_flows_83 ?_
                refine lv_iload_n hx hb dX6_flows_86 rfl (lv_at hl 1 rfl) ?_
                obtain ⟨hi_9, h⟩ := chk_s h
                refine m_iald (o := 6) (N := 12) (i := x1_4) (j := x1_4.toNatClampNeg) C0 hb hP (rfl : kM 6 = 100 + 12) (by decide) hi_9 rfl dX6_flows_87 ?_
                refine lv_aload_n hx hb dX6_flows_88 rfl (lv_at hl 2 rfl) ?_
                refine gf_X6_25 (o := 0) (o2 := 6) C0 hb hP (rfl : kM 0 = 6) rfl dX6_flows_89 ?_
                refine lv_iload_n hx hb dX6_flows_92 rfl (lv_at hl 1 rfl) ?_
                obtain ⟨hi_10, h⟩ := chk_s h
                refine m_iald (o := 6) (N := 12) (i := x1_4) (j := x1_4.toNatClampNeg) C0 hb hP (rfl : kM 6 = 100 + 12) (by decide) hi_10 rfl dX6_flows_93 ?_
                refine lv_iconst (v := 2) hx hb dX6_flows_94 (by decide) ?_
                refine lv_idiv hx hb dX6_flows_95 (by decide) ?_
                refine lv_isub hx hb dX6_flows_96 ?_
                refine lv_iload_n hx hb dX6_flows_97 rfl (lv_at hl 0 rfl) ?_
                refine lv_iadd hx hb dX6_flows_98 ?_
                refine lv_istore_n (lv' := [(3, .int (((σ_5 6 x1_4.toNatClampNeg) - ((σ_5 6 x1_4.toNatClampNeg) / 2)) + t_8)), (2, .int t_8), (1, .int x1_4), (0, .ref (a 0))]) hx hb dX6_flows_99 rfl hl (by decide) rfl (fun ls hl => ?_)
                refine lv_aload_n hx hb dX6_flows_100 rfl (lv_at hl 3 rfl) ?_
                refine gf_X6_7 (o := 0) (o2 := 1) C0 hb hP (rfl : kM 0 = 6) rfl dX6_flows_101 ?_
                refine lv_bipush (v := 12) hx hb dX6_flows_104 (by decide) ?_
                refine lv_iload_n hx hb dX6_flows_106 rfl (lv_at hl 2 rfl) ?_
                refine lv_iadd hx hb dX6_flows_107 ?_
                refine lv_iload_n hx hb dX6_flows_108 rfl (lv_at hl 0 rfl) ?_
                refine lv_sipush (v := 9999) hx hb dX6_flows_109 (by decide) ?_
                have J_13 : ∀ (t_11 : Int32) (H : Heap) (locs : List Loc) (ls : Array Slot), f_X6_flows_J122 x1_4 σ_5 rec31 t_11 = some q → HP G kM nM a σ_5 H → va_S (AW nM a) s.heap H locs → lv_has ls 4 [(1, .int x1_4), (0, .ref (a 0))] → W p l e ({ frames := 0, cells := 0, slots := 0, locals := 0 } : Room) s m ([.ref (a 0)] : List Value).toArray below meth c H locs 0 0 (MQ below (QV G kM nM a q) ([.ref (a 0)] : List Value).toArray s 0 0 (AW nM a)) (F0 m 122 ls [.int t_11, .int (12 + x1_4), .ref (a 1)]) := by
                  intro t_11 H locs ls h hP hS hl
                  unfold f_X6_flows_J122 at h
                  obtain ⟨hi_12, h⟩ := chk_s h
                  refine m_iast (o := 1) (N := 74) (i := 12 + x1_4) (j := (12 + x1_4).toNatClampNeg) C0 hb hP hS (rfl : kM 1 = 100 + 74) (by decide) hi_12 rfl dX6_flows_122 (fun H locs hP hS => ?_)
                  refine lv_iinc (v := x1_4 + 1) (lv' := [(1, .int (x1_4 + 1)), (0, .ref (a 0))]) hx hb dX6_flows_123 hl (k := 0) rfl rfl (by decide) rfl (fun ls hl => ?_)
                  refine lv_goto (tgt := 31) hx hb dX6_flows_126 (by decide) ?_
                  exact ih31 (x1_4 + 1) (mst σ_5 1 ((12 + x1_4).toNatClampNeg) t_11) _ _ _ h hP hS (lv_sub hl [0, 1] rfl)
                refine lv_icmp_le (tgt := 121) hx hb dX6_flows_112 (by decide) (fun (c_14 : (((σ_5 6 x1_4.toNatClampNeg) - ((σ_5 6 x1_4.toNatClampNeg) / 2)) + t_8) ≤ 9999) => ?_) (fun (c_14 : ¬ (((σ_5 6 x1_4.toNatClampNeg) - ((σ_5 6 x1_4.toNatClampNeg) / 2)) + t_8) ≤ 9999) => ?_)
                · rw [if_pos c_14] at h
                  refine lv_iload_n hx hb dX6_flows_121 rfl (lv_at hl 0 rfl) ?_
                  exact J_13 (((σ_5 6 x1_4.toNatClampNeg) - ((σ_5 6 x1_4.toNatClampNeg) / 2)) + t_8) _ _ _ h hP hS (lv_sub hl [2, 3] rfl)
                · rw [if_neg c_14] at h
                  refine lv_sipush (v := 9999) hx hb dX6_flows_115 (by decide) ?_
                  refine lv_goto (tgt := 122) hx hb dX6_flows_118 (by decide) ?_
                  exact J_13 9999 _ _ _ h hP hS (lv_sub hl [2, 3] rfl)
              refine lv_if_ne (tgt := 71) hx hb dX6_flows_38 (by decide) (fun (c_16 : ¬ x1_4 = 0) => ?_) (fun (c_16 : x1_4 = 0) => ?_)
              · rw [if_neg c_16] at h
                refine lv_aload_n hx hb dX6_flows_71 rfl (lv_at hl 1 rfl) ?_
                refine gf_X6_25 (o := 0) (o2 := 6) C0 hb hP (rfl : kM 0 = 6) rfl dX6_flows_72 ?_
                refine lv_iload_n hx hb dX6_flows_75 rfl (lv_at hl 0 rfl) ?_
                refine lv_iconst (v := 1) hx hb dX6_flows_76 (by decide) ?_
                refine lv_isub hx hb dX6_flows_77 ?_
                obtain ⟨hi_17, h⟩ := chk_s h
                refine m_iald (o := 6) (N := 12) (i := x1_4 - 1) (j := (x1_4 - 1).toNatClampNeg) C0 hb hP (rfl : kM 6 = 100 + 12) (by decide) hi_17 rfl dX6_flows_78 ?_
                refine lv_iconst (v := 2) hx hb dX6_flows_79 (by decide) ?_
                refine lv_idiv hx hb dX6_flows_80 (by decide) ?_
                exact J_15 ((σ_5 6 ((x1_4 - 1).toNatClampNeg)) / 2) _ _ _ h hP hS (lv_sub hl [0, 1] rfl)
              · rw [if_pos c_16] at h
                refine lv_aload_n hx hb dX6_flows_41 rfl (lv_at hl 1 rfl) ?_
                refine gf_X6_117 (o := 0) C0 hb hP (rfl : kM 0 = 6) dX6_flows_42 ?_
                refine lv_if_eq (tgt := 52) hx hb dX6_flows_45 (by decide) (fun (c_18 : (σ_5 0 6) = 0) => ?_) (fun (c_18 : ¬ (σ_5 0 6) = 0) => ?_)
                · rw [if_pos c_18] at h
                  refine lv_aload_n hx hb dX6_flows_52 rfl (lv_at hl 1 rfl) ?_
                  refine gf_X6_7 (o := 0) (o2 := 1) C0 hb hP (rfl : kM 0 = 6) rfl dX6_flows_53 ?_
                  refine lv_iconst (v := 4) hx hb dX6_flows_56 (by decide) ?_
                  refine lv_aload_n hx hb dX6_flows_57 rfl (lv_at hl 1 rfl) ?_
                  refine gf_X6_7 (o := 0) (o2 := 1) C0 hb hP (rfl : kM 0 = 6) rfl dX6_flows_58 ?_
                  refine lv_iconst (v := 0) hx hb dX6_flows_61 (by decide) ?_
                  refine m_iald (o := 1) (N := 74) (i := 0) (j := 0) C0 hb hP (rfl : kM 1 = 100 + 74) (by decide) (show vp_in 0 74 by unfold vp_in; decide) (by decide) dX6_flows_62 ?_
                  refine lv_bipush (v := 8) hx hb dX6_flows_63 (by decide) ?_
                  refine lv_irem hx hb dX6_flows_65 (by decide) ?_
                  refine lv_iadd hx hb dX6_flows_66 ?_
                  obtain ⟨hi_19, h⟩ := chk_s h
                  refine m_iald (o := 1) (N := 74) (i := 4 + (jrem (σ_5 1 0) 8)) (j := (4 + (jrem (σ_5 1 0) 8)).toNatClampNeg) C0 hb hP (rfl : kM 1 = 100 + 74) (by decide) hi_19 rfl dX6_flows_67 ?_
                  refine lv_goto (tgt := 81) hx hb dX6_flows_68 (by decide) ?_
                  exact J_15 (σ_5 1 ((4 + (jrem (σ_5 1 0) 8)).toNatClampNeg)) _ _ _ h hP hS (lv_sub hl [0, 1] rfl)
                · rw [if_neg c_18] at h
                  refine lv_iconst (v := 0) hx hb dX6_flows_48 (by decide) ?_
                  refine lv_goto (tgt := 81) hx hb dX6_flows_49 (by decide) ?_
                  exact J_15 0 _ _ _ h hP hS (lv_sub hl [0, 1] rfl)
        exact L_20 FU 0 σ_2 _ _ _ h hP hS (lv_sub hl [0, 1] rfl)
      · rw [if_neg c_3] at h
        refine lv_aload_n hx hb dX6_flows_8 rfl (lv_at hl 1 rfl) ?_
        refine gf_X6_25 (o := 0) (o2 := 6) C0 hb hP (rfl : kM 0 = 6) rfl dX6_flows_9 ?_
        refine lv_iload_n hx hb dX6_flows_12 rfl (lv_at hl 0 rfl) ?_
        refine lv_aload_n hx hb dX6_flows_13 rfl (lv_at hl 1 rfl) ?_
        refine gf_X6_7 (o := 0) (o2 := 1) C0 hb hP (rfl : kM 0 = 6) rfl dX6_flows_14 ?_
        refine lv_bipush (v := 12) hx hb dX6_flows_17 (by decide) ?_
        refine lv_iload_n hx hb dX6_flows_19 rfl (lv_at hl 0 rfl) ?_
        refine lv_iadd hx hb dX6_flows_20 ?_
        obtain ⟨hi_21, h⟩ := chk_s h
        refine m_iald (o := 1) (N := 74) (i := 12 + x1_1) (j := (12 + x1_1).toNatClampNeg) C0 hb hP (rfl : kM 1 = 100 + 74) (by decide) hi_21 rfl dX6_flows_21 ?_
        obtain ⟨hi_22, h⟩ := chk_s h
        refine m_iast (o := 6) (N := 12) (i := x1_1) (j := x1_1.toNatClampNeg) C0 hb hP hS (rfl : kM 6 = 100 + 12) (by decide) hi_22 rfl dX6_flows_22 (fun H locs hP hS => ?_)
        refine lv_iinc (v := x1_1 + 1) (lv' := [(1, .int (x1_1 + 1)), (0, .ref (a 0))]) hx hb dX6_flows_23 hl (k := 0) rfl rfl (by decide) rfl (fun ls hl => ?_)
        refine lv_goto (tgt := 2) hx hb dX6_flows_26 (by decide) ?_
        exact ih2 (x1_1 + 1) (mst σ_2 6 x1_1.toNatClampNeg (σ_2 1 ((12 + x1_1).toNatClampNeg))) _ _ _ h hP hS (lv_sub hl [0, 1] rfl)
  exact L_23 FU 0 σ _ _ _ h hP hS (lv_sub hl [0, 1] rfl)
def f_X6_there (x1 : Int32) (σ : Mem) : Option (Int32) := ((f_X6_its x1 1 σ).bind fun q_1 => (chk (12 + q_1) 74 (some (σ 1 ((12 + q_1).toNatClampNeg)))))
set_option maxHeartbeats 4000000 in
set_option maxRecDepth 100000 in
theorem k_X6_there (l : Launch) (G : GG) (a : Nat → Nat) (σ : Mem) (hj : INJ nM a) (x1 : Int32) (q : Int32) (h : f_X6_there x1 σ = some q) : Met l yX6_there (Cond.code yX6_there cX6_there 2 (some .int) :: TB) ({ frames := 2, cells := 0, slots := 0, locals := 43 } : Room) (PA G kM nM a σ [.ref (a 0), .int x1]) (SI q) 0 0 NF := by
  refine M_ofW (by decide) hj kM_lt (Nat.le_of_ble_eq_true rfl) (fun p e s m below meth c ls C0 hb hml hr hlk hP hS hl => ?_)
  have C0 : CT p s _ m RX6 G kM nM a := C0
  have hx := C0.1
  have hts := C0.2.1
  have hown := C0.2.2.1
  have hl : lv_has ls 2 [(0, .ref (a 0)), (1, .int x1)] := hl
  unfold f_X6_there at h
  refine lv_aload_n hx hb dX6_there_0 rfl (lv_at hl 0 rfl) ?_
  refine gf_X6_7 (o := 0) (o2 := 1) C0 hb hP (rfl : kM 0 = 6) rfl dX6_there_1 ?_
  refine lv_bipush (v := 12) hx hb dX6_there_4 (by decide) ?_
  refine lv_aload_n hx hb dX6_there_6 rfl (lv_at hl 0 rfl) ?_
  refine lv_iload_n hx hb dX6_there_7 rfl (lv_at hl 1 rfl) ?_
  refine lv_iconst (v := 1) hx hb dX6_there_8 (by decide) ?_
  obtain ⟨q_1, hq_2, h⟩ := bd_s h
  refine m_rVi (As := [.int x1, .int 1]) (rest := [.int 12, .ref (a 1)]) (o := 0) (ci := 6) C0 hb hml hl.1 wm_X6_63 md_X6_its (k_X6_its l G a σ hj x1 1 q_1 hq_2) rfl rfl ⟨(Nat.le_of_ble_eq_true rfl), (Nat.le_of_ble_eq_true rfl)⟩ hP hS (rfl : kM 0 = 6) (by decide) rfl rfl rfl (Nat.le_of_ble_eq_true rfl) dX6_there_9 ?_
  refine lv_iadd hx hb dX6_there_12 ?_
  obtain ⟨hi_3, h⟩ := chk_s h
  refine m_iald (o := 1) (N := 74) (i := 12 + q_1) (j := (12 + q_1).toNatClampNeg) C0 hb hP (rfl : kM 1 = 100 + 74) (by decide) hi_3 rfl dX6_there_13 ?_
  exact m_si hx hb hr hlk (Option.some.inj h) dX6_there_14
def f_X6_sees_J119 (x1 : Int32) (σ : Mem) (t_12 : Int32) (x2_13 : Int32) : Option (Mem) := (chk (f_X6_place x1 3) 74 (chk (f_X6_place x1 4) 74 (if t_12 = 0 then (chk (f_X6_place x1 4) 74 (some (mst (mst σ 1 ((f_X6_place x1 3).toNatClampNeg) x2_13) 1 ((f_X6_place x1 4).toNatClampNeg) (((mst σ 1 ((f_X6_place x1 3).toNatClampNeg) x2_13) 1 ((f_X6_place x1 4).toNatClampNeg)) + 0)))) else ((f_X6_its x1 4 (mst σ 1 ((f_X6_place x1 3).toNatClampNeg) x2_13)).bind fun q_18 => (if 9999 ≤ q_18 then (chk (f_X6_place x1 4) 74 (some (mst (mst σ 1 ((f_X6_place x1 3).toNatClampNeg) x2_13) 1 ((f_X6_place x1 4).toNatClampNeg) (((mst σ 1 ((f_X6_place x1 3).toNatClampNeg) x2_13) 1 ((f_X6_place x1 4).toNatClampNeg)) + 0)))) else (chk (f_X6_place x1 4) 74 (some (mst (mst σ 1 ((f_X6_place x1 3).toNatClampNeg) x2_13) 1 ((f_X6_place x1 4).toNatClampNeg) (((mst σ 1 ((f_X6_place x1 3).toNatClampNeg) x2_13) 1 ((f_X6_place x1 4).toNatClampNeg)) + 1)))))))))
def f_X6_sees_J118 (x1 : Int32) (σ : Mem) (t_12 : Int32) (t_28 : Int32) : Option (Mem) := (f_X6_sees_J119 x1 σ t_12 t_28)
def f_X6_sees_J85 (x1 : Int32) (σ : Mem) (q_1 : Int32) (t_12 : Int32) : Option (Mem) := (if q_1 ≤ 0 then (f_X6_sees_J119 x1 σ t_12 q_1) else (if t_12 = 0 then ((f_X6_trusts x1 σ).bind fun q_26 => (if (q_1 + q_26) ≤ 99 then ((f_X6_trusts x1 σ).bind fun q_31 => (f_X6_sees_J118 x1 σ t_12 (q_1 + q_31))) else (f_X6_sees_J118 x1 σ t_12 99))) else (f_X6_sees_J119 x1 σ t_12 q_1)))
def f_X6_sees_J81 (x1 : Int32) (σ : Mem) (t_12 : Int32) (t_40 : Int32) : Option (Mem) := (f_X6_sees_J119 x1 σ t_12 t_40)
def f_X6_sees_J46 (x1 : Int32) (σ : Mem) (q_1 : Int32) (q_3 : Int32) (q_5 : Int32) (t_12 : Int32) : Option (Mem) := (if q_1 ≤ 0 then (f_X6_sees_J85 x1 σ q_1 t_12) else ((f_X6_bears x1 σ).bind fun q_35 => (if (f_X6_distance q_3 (σ 6 q_5.toNatClampNeg)) ≤ q_35 then (f_X6_sees_J85 x1 σ q_1 t_12) else ((f_X6_doubts x1 σ).bind fun q_38 => (if q_1 ≤ q_38 then (f_X6_sees_J81 x1 σ t_12 0) else ((f_X6_doubts x1 σ).bind fun q_43 => (f_X6_sees_J81 x1 σ t_12 (q_1 - q_43))))))))
def f_X6_sees (x1 : Int32) (σ : Mem) : Option (Mem) := ((f_X6_its x1 3 σ).bind fun q_1 => ((f_X6_there x1 σ).bind fun q_3 => ((f_X6_its x1 1 σ).bind fun q_5 => (chk q_5 12 ((f_X6_there x1 σ).bind fun q_8 => ((f_X6_its x1 2 σ).bind fun q_10 => (f_X6_sees_J46 x1 σ q_1 q_3 q_5 (if q_10 ≤ q_8 then 0 else 1))))))))
set_option maxHeartbeats 4000000 in
set_option maxRecDepth 100000 in
theorem k_X6_sees (l : Launch) (G : GG) (a : Nat → Nat) (σ : Mem) (hj : INJ nM a) (x1 : Int32) (q : Mem) (h : f_X6_sees x1 σ = some q) : Met l yX6_sees (Cond.code yX6_sees cX6_sees 5 none :: TB) ({ frames := 3, cells := 0, slots := 0, locals := 65 } : Room) (PA G kM nM a σ [.ref (a 0), .int x1]) (QV G kM nM a q) 0 0 (AW nM a) := by
  refine M_ofW (by decide) hj kM_lt (Nat.le_of_ble_eq_true rfl) (fun p e s m below meth c ls C0 hb hml hr hlk hP hS hl => ?_)
  have C0 : CT p s _ m RX6 G kM nM a := C0
  have hx := C0.1
  have hts := C0.2.1
  have hown := C0.2.2.1
  have hl : lv_has ls 5 [(0, .ref (a 0)), (1, .int x1)] := hl
  unfold f_X6_sees at h
  refine lv_aload_n hx hb dX6_sees_0 rfl (lv_at hl 0 rfl) ?_
  refine lv_iload_n hx hb dX6_sees_1 rfl (lv_at hl 1 rfl) ?_
  refine lv_iconst (v := 3) hx hb dX6_sees_2 (by decide) ?_
  obtain ⟨q_1, hq_2, h⟩ := bd_s h
  refine m_rVi (As := [.int x1, .int 3]) (rest := []) (o := 0) (ci := 6) C0 hb hml hl.1 wm_X6_63 md_X6_its (k_X6_its l G a σ hj x1 3 q_1 hq_2) rfl rfl ⟨(Nat.le_of_ble_eq_true rfl), (Nat.le_of_ble_eq_true rfl)⟩ hP hS (rfl : kM 0 = 6) (by decide) rfl rfl rfl (Nat.le_of_ble_eq_true rfl) dX6_sees_3 ?_
  refine lv_istore_n (lv' := [(2, .int q_1), (0, .ref (a 0)), (1, .int x1)]) hx hb dX6_sees_6 rfl hl (by decide) rfl (fun ls hl => ?_)
  refine lv_aload_n hx hb dX6_sees_7 rfl (lv_at hl 1 rfl) ?_
  refine lv_iload_n hx hb dX6_sees_8 rfl (lv_at hl 2 rfl) ?_
  obtain ⟨q_3, hq_4, h⟩ := bd_s h
  refine m_rVi (As := [.int x1]) (rest := []) (o := 0) (ci := 6) C0 hb hml hl.1 wm_X6_122 md_X6_there (k_X6_there l G a σ hj x1 q_3 hq_4) rfl rfl ⟨(Nat.le_of_ble_eq_true rfl), (Nat.le_of_ble_eq_true rfl)⟩ hP hS (rfl : kM 0 = 6) (by decide) rfl rfl rfl (Nat.le_of_ble_eq_true rfl) dX6_sees_9 ?_
  refine lv_aload_n hx hb dX6_sees_12 rfl (lv_at hl 1 rfl) ?_
  refine gf_X6_25 (o := 0) (o2 := 6) C0 hb hP (rfl : kM 0 = 6) rfl dX6_sees_13 ?_
  refine lv_aload_n hx hb dX6_sees_16 rfl (lv_at hl 1 rfl) ?_
  refine lv_iload_n hx hb dX6_sees_17 rfl (lv_at hl 2 rfl) ?_
  refine lv_iconst (v := 1) hx hb dX6_sees_18 (by decide) ?_
  obtain ⟨q_5, hq_6, h⟩ := bd_s h
  refine m_rVi (As := [.int x1, .int 1]) (rest := [.ref (a 6), .int q_3]) (o := 0) (ci := 6) C0 hb hml hl.1 wm_X6_63 md_X6_its (k_X6_its l G a σ hj x1 1 q_5 hq_6) rfl rfl ⟨(Nat.le_of_ble_eq_true rfl), (Nat.le_of_ble_eq_true rfl)⟩ hP hS (rfl : kM 0 = 6) (by decide) rfl rfl rfl (Nat.le_of_ble_eq_true rfl) dX6_sees_19 ?_
  obtain ⟨hi_7, h⟩ := chk_s h
  refine m_iald (o := 6) (N := 12) (i := q_5) (j := q_5.toNatClampNeg) C0 hb hP (rfl : kM 6 = 100 + 12) (by decide) hi_7 rfl dX6_sees_22 ?_
  refine m_pSi (As := [.int q_3, .int (σ 6 q_5.toNatClampNeg)]) (rest := []) C0.z hb hml hl.1 wm_X6_125 md_X6_distance (k_X6_distance l q_3 (σ 6 q_5.toNatClampNeg)) rfl rfl ⟨(Nat.le_of_ble_eq_true rfl), (Nat.le_of_ble_eq_true rfl)⟩ rfl rfl (Nat.le_of_ble_eq_true rfl) dX6_sees_23 ?_
  refine lv_istore_n (lv' := [(3, .int (f_X6_distance q_3 (σ 6 q_5.toNatClampNeg))), (2, .int q_1), (0, .ref (a 0)), (1, .int x1)]) hx hb dX6_sees_26 rfl hl (by decide) rfl (fun ls hl => ?_)
  refine lv_aload_n hx hb dX6_sees_27 rfl (lv_at hl 2 rfl) ?_
  refine lv_iload_n hx hb dX6_sees_28 rfl (lv_at hl 3 rfl) ?_
  obtain ⟨q_8, hq_9, h⟩ := bd_s h
  refine m_rVi (As := [.int x1]) (rest := []) (o := 0) (ci := 6) C0 hb hml hl.1 wm_X6_122 md_X6_there (k_X6_there l G a σ hj x1 q_8 hq_9) rfl rfl ⟨(Nat.le_of_ble_eq_true rfl), (Nat.le_of_ble_eq_true rfl)⟩ hP hS (rfl : kM 0 = 6) (by decide) rfl rfl rfl (Nat.le_of_ble_eq_true rfl) dX6_sees_29 ?_
  refine lv_aload_n hx hb dX6_sees_32 rfl (lv_at hl 2 rfl) ?_
  refine lv_iload_n hx hb dX6_sees_33 rfl (lv_at hl 3 rfl) ?_
  refine lv_iconst (v := 2) hx hb dX6_sees_34 (by decide) ?_
  obtain ⟨q_10, hq_11, h⟩ := bd_s h
  refine m_rVi (As := [.int x1, .int 2]) (rest := [.int q_8]) (o := 0) (ci := 6) C0 hb hml hl.1 wm_X6_63 md_X6_its (k_X6_its l G a σ hj x1 2 q_10 hq_11) rfl rfl ⟨(Nat.le_of_ble_eq_true rfl), (Nat.le_of_ble_eq_true rfl)⟩ hP hS (rfl : kM 0 = 6) (by decide) rfl rfl rfl (Nat.le_of_ble_eq_true rfl) dX6_sees_35 ?_
  have J_45 : ∀ (t_12 : Int32) (H : Heap) (locs : List Loc) (ls : Array Slot), f_X6_sees_J46 x1 σ q_1 q_3 q_5 t_12 = some q → HP G kM nM a σ H → va_S (AW nM a) s.heap H locs → lv_has ls 5 [(3, .int (f_X6_distance q_3 (σ 6 q_5.toNatClampNeg))), (2, .int q_1), (0, .ref (a 0)), (1, .int x1)] → W p l e ({ frames := 3, cells := 0, slots := 0, locals := 65 } : Room) s m ([.ref (a 0), .int x1] : List Value).toArray below meth c H locs 0 0 (MQ below (QV G kM nM a q) ([.ref (a 0), .int x1] : List Value).toArray s 0 0 (AW nM a)) (F0 m 46 ls [.int t_12]) := by
    intro t_12 H locs ls h hP hS hl
    unfold f_X6_sees_J46 at h
    refine lv_istore (lv' := [(4, .int t_12), (3, .int (f_X6_distance q_3 (σ 6 q_5.toNatClampNeg))), (2, .int q_1), (0, .ref (a 0)), (1, .int x1)]) hx hb dX6_sees_46 hl (by decide) rfl (fun ls hl => ?_)
    refine lv_iload_n hx hb dX6_sees_48 rfl (lv_at hl 2 rfl) ?_
    have J_23 : ∀ (x2_13 : Int32) (H : Heap) (locs : List Loc) (ls : Array Slot), f_X6_sees_J119 x1 σ t_12 x2_13 = some q → HP G kM nM a σ H → va_S (AW nM a) s.heap H locs → lv_has ls 5 [(4, .int t_12), (2, .int x2_13), (0, .ref (a 0)), (1, .int x1)] → W p l e ({ frames := 3, cells := 0, slots := 0, locals := 65 } : Room) s m ([.ref (a 0), .int x1] : List Value).toArray below meth c H locs 0 0 (MQ below (QV G kM nM a q) ([.ref (a 0), .int x1] : List Value).toArray s 0 0 (AW nM a)) (F0 m 119 ls []) := by
      intro x2_13 H locs ls h hP hS hl
      unfold f_X6_sees_J119 at h
      refine lv_aload_n hx hb dX6_sees_119 rfl (lv_at hl 2 rfl) ?_
      refine gf_X6_7 (o := 0) (o2 := 1) C0 hb hP (rfl : kM 0 = 6) rfl dX6_sees_120 ?_
      refine lv_iload_n hx hb dX6_sees_123 rfl (lv_at hl 3 rfl) ?_
      refine lv_iconst (v := 3) hx hb dX6_sees_124 (by decide) ?_
      refine m_pSi (As := [.int x1, .int 3]) (rest := [.ref (a 1)]) C0.z hb hml hl.1 wm_X6_59 md_X6_place (k_X6_place l x1 3) rfl rfl ⟨(Nat.le_of_ble_eq_true rfl), (Nat.le_of_ble_eq_true rfl)⟩ rfl rfl (Nat.le_of_ble_eq_true rfl) dX6_sees_125 ?_
      refine lv_iload_n hx hb dX6_sees_128 rfl (lv_at hl 1 rfl) ?_
      obtain ⟨hi_14, h⟩ := chk_s h
      refine m_iast (o := 1) (N := 74) (i := f_X6_place x1 3) (j := (f_X6_place x1 3).toNatClampNeg) C0 hb hP hS (rfl : kM 1 = 100 + 74) (by decide) hi_14 rfl dX6_sees_129 (fun H locs hP hS => ?_)
      refine lv_aload_n hx hb dX6_sees_130 rfl (lv_at hl 2 rfl) ?_
      refine gf_X6_7 (o := 0) (o2 := 1) C0 hb hP (rfl : kM 0 = 6) rfl dX6_sees_131 ?_
      refine lv_iload_n hx hb dX6_sees_134 rfl (lv_at hl 3 rfl) ?_
      refine lv_iconst (v := 4) hx hb dX6_sees_135 (by decide) ?_
      refine m_pSi (As := [.int x1, .int 4]) (rest := [.ref (a 1)]) C0.z hb hml hl.1 wm_X6_59 md_X6_place (k_X6_place l x1 4) rfl rfl ⟨(Nat.le_of_ble_eq_true rfl), (Nat.le_of_ble_eq_true rfl)⟩ rfl rfl (Nat.le_of_ble_eq_true rfl) dX6_sees_136 ?_
      refine lv_dup2_11 hx hb dX6_sees_139 rfl rfl ?_
      obtain ⟨hi_15, h⟩ := chk_s h
      refine m_iald (o := 1) (N := 74) (i := f_X6_place x1 4) (j := (f_X6_place x1 4).toNatClampNeg) C0 hb hP (rfl : kM 1 = 100 + 74) (by decide) hi_15 rfl dX6_sees_140 ?_
      refine lv_iload hx hb dX6_sees_141 (lv_at hl 0 rfl) ?_
      refine lv_if_eq (tgt := 162) hx hb dX6_sees_143 (by decide) (fun (c_16 : t_12 = 0) => ?_) (fun (c_16 : ¬ t_12 = 0) => ?_)
      · rw [if_pos c_16] at h
        refine lv_iconst (v := 0) hx hb dX6_sees_162 (by decide) ?_
        refine lv_iadd hx hb dX6_sees_163 ?_
        obtain ⟨hi_17, h⟩ := chk_s h
        refine m_iast (o := 1) (N := 74) (i := f_X6_place x1 4) (j := (f_X6_place x1 4).toNatClampNeg) C0 hb hP hS (rfl : kM 1 = 100 + 74) (by decide) hi_17 rfl dX6_sees_164 (fun H locs hP hS => ?_)
        exact m_rv hx hb hr hlk hP hS (Option.some.inj h) dX6_sees_165
      · rw [if_neg c_16] at h
        refine lv_aload_n hx hb dX6_sees_146 rfl (lv_at hl 2 rfl) ?_
        refine lv_iload_n hx hb dX6_sees_147 rfl (lv_at hl 3 rfl) ?_
        refine lv_iconst (v := 4) hx hb dX6_sees_148 (by decide) ?_
        obtain ⟨q_18, hq_19, h⟩ := bd_s h
        refine m_rVi (As := [.int x1, .int 4]) (rest := [.int ((mst σ 1 ((f_X6_place x1 3).toNatClampNeg) x2_13) 1 ((f_X6_place x1 4).toNatClampNeg)), .int (f_X6_place x1 4), .ref (a 1)]) (o := 0) (ci := 6) C0 hb hml hl.1 wm_X6_63 md_X6_its (k_X6_its l G a (mst σ 1 ((f_X6_place x1 3).toNatClampNeg) x2_13) hj x1 4 q_18 hq_19) rfl rfl ⟨(Nat.le_of_ble_eq_true rfl), (Nat.le_of_ble_eq_true rfl)⟩ hP hS (rfl : kM 0 = 6) (by decide) rfl rfl rfl (Nat.le_of_ble_eq_true rfl) dX6_sees_149 ?_
        refine lv_sipush (v := 9999) hx hb dX6_sees_152 (by decide) ?_
        refine lv_icmp_ge (tgt := 162) hx hb dX6_sees_155 (by decide) (fun (c_20 : 9999 ≤ q_18) => ?_) (fun (c_20 : ¬ 9999 ≤ q_18) => ?_)
        · rw [if_pos c_20] at h
          refine lv_iconst (v := 0) hx hb dX6_sees_162 (by decide) ?_
          refine lv_iadd hx hb dX6_sees_163 ?_
          obtain ⟨hi_21, h⟩ := chk_s h
          refine m_iast (o := 1) (N := 74) (i := f_X6_place x1 4) (j := (f_X6_place x1 4).toNatClampNeg) C0 hb hP hS (rfl : kM 1 = 100 + 74) (by decide) hi_21 rfl dX6_sees_164 (fun H locs hP hS => ?_)
          exact m_rv hx hb hr hlk hP hS (Option.some.inj h) dX6_sees_165
        · rw [if_neg c_20] at h
          refine lv_iconst (v := 1) hx hb dX6_sees_158 (by decide) ?_
          refine lv_goto (tgt := 163) hx hb dX6_sees_159 (by decide) ?_
          refine lv_iadd hx hb dX6_sees_163 ?_
          obtain ⟨hi_22, h⟩ := chk_s h
          refine m_iast (o := 1) (N := 74) (i := f_X6_place x1 4) (j := (f_X6_place x1 4).toNatClampNeg) C0 hb hP hS (rfl : kM 1 = 100 + 74) (by decide) hi_22 rfl dX6_sees_164 (fun H locs hP hS => ?_)
          exact m_rv hx hb hr hlk hP hS (Option.some.inj h) dX6_sees_165
    have J_33 : ∀  (H : Heap) (locs : List Loc) (ls : Array Slot), f_X6_sees_J85 x1 σ q_1 t_12 = some q → HP G kM nM a σ H → va_S (AW nM a) s.heap H locs → lv_has ls 5 [(4, .int t_12), (2, .int q_1), (0, .ref (a 0)), (1, .int x1)] → W p l e ({ frames := 3, cells := 0, slots := 0, locals := 65 } : Room) s m ([.ref (a 0), .int x1] : List Value).toArray below meth c H locs 0 0 (MQ below (QV G kM nM a q) ([.ref (a 0), .int x1] : List Value).toArray s 0 0 (AW nM a)) (F0 m 85 ls []) := by
      intro  H locs ls h hP hS hl
      unfold f_X6_sees_J85 at h
      refine lv_iload_n hx hb dX6_sees_85 rfl (lv_at hl 1 rfl) ?_
      refine lv_if_le (tgt := 119) hx hb dX6_sees_86 (by decide) (fun (c_24 : q_1 ≤ 0) => ?_) (fun (c_24 : ¬ q_1 ≤ 0) => ?_)
      · rw [if_pos c_24] at h
        exact J_23 q_1 _ _ _ h hP hS (lv_sub hl [0, 1, 2, 3] rfl)
      · rw [if_neg c_24] at h
        refine lv_iload hx hb dX6_sees_89 (lv_at hl 0 rfl) ?_
        refine lv_if_ne (tgt := 119) hx hb dX6_sees_91 (by decide) (fun (c_25 : ¬ t_12 = 0) => ?_) (fun (c_25 : t_12 = 0) => ?_)
        · rw [if_neg c_25] at h
          exact J_23 q_1 _ _ _ h hP hS (lv_sub hl [0, 1, 2, 3] rfl)
        · rw [if_pos c_25] at h
          refine lv_iload_n hx hb dX6_sees_94 rfl (lv_at hl 1 rfl) ?_
          refine lv_aload_n hx hb dX6_sees_95 rfl (lv_at hl 2 rfl) ?_
          refine lv_iload_n hx hb dX6_sees_96 rfl (lv_at hl 3 rfl) ?_
          obtain ⟨q_26, hq_27, h⟩ := bd_s h
          refine m_rVi (As := [.int x1]) (rest := [.int q_1]) (o := 0) (ci := 6) C0 hb hml hl.1 wm_X6_109 md_X6_trusts (k_X6_trusts l G a σ hj x1 q_26 hq_27) rfl rfl ⟨(Nat.le_of_ble_eq_true rfl), (Nat.le_of_ble_eq_true rfl)⟩ hP hS (rfl : kM 0 = 6) (by decide) rfl rfl rfl (Nat.le_of_ble_eq_true rfl) dX6_sees_97 ?_
          refine lv_iadd hx hb dX6_sees_100 ?_
          refine lv_bipush (v := 99) hx hb dX6_sees_101 (by decide) ?_
          have J_29 : ∀ (t_28 : Int32) (H : Heap) (locs : List Loc) (ls : Array Slot), f_X6_sees_J118 x1 σ t_12 t_28 = some q → HP G kM nM a σ H → va_S (AW nM a) s.heap H locs → lv_has ls 5 [(4, .int t_12), (0, .ref (a 0)), (1, .int x1)] → W p l e ({ frames := 3, cells := 0, slots := 0, locals := 65 } : Room) s m ([.ref (a 0), .int x1] : List Value).toArray below meth c H locs 0 0 (MQ below (QV G kM nM a q) ([.ref (a 0), .int x1] : List Value).toArray s 0 0 (AW nM a)) (F0 m 118 ls [.int t_28]) := by
            intro t_28 H locs ls h hP hS hl
            unfold f_X6_sees_J118 at h
            refine lv_istore_n (lv' := [(2, .int t_28), (4, .int t_12), (0, .ref (a 0)), (1, .int x1)]) hx hb dX6_sees_118 rfl hl (by decide) rfl (fun ls hl => ?_)
            exact J_23 t_28 _ _ _ h hP hS (lv_sub hl [1, 0, 2, 3] rfl)
          refine lv_icmp_le (tgt := 111) hx hb dX6_sees_103 (by decide) (fun (c_30 : (q_1 + q_26) ≤ 99) => ?_) (fun (c_30 : ¬ (q_1 + q_26) ≤ 99) => ?_)
          · rw [if_pos c_30] at h
            refine lv_iload_n hx hb dX6_sees_111 rfl (lv_at hl 1 rfl) ?_
            refine lv_aload_n hx hb dX6_sees_112 rfl (lv_at hl 2 rfl) ?_
            refine lv_iload_n hx hb dX6_sees_113 rfl (lv_at hl 3 rfl) ?_
            obtain ⟨q_31, hq_32, h⟩ := bd_s h
            refine m_rVi (As := [.int x1]) (rest := [.int q_1]) (o := 0) (ci := 6) C0 hb hml hl.1 wm_X6_109 md_X6_trusts (k_X6_trusts l G a σ hj x1 q_31 hq_32) rfl rfl ⟨(Nat.le_of_ble_eq_true rfl), (Nat.le_of_ble_eq_true rfl)⟩ hP hS (rfl : kM 0 = 6) (by decide) rfl rfl rfl (Nat.le_of_ble_eq_true rfl) dX6_sees_114 ?_
            refine lv_iadd hx hb dX6_sees_117 ?_
            exact J_29 (q_1 + q_31) _ _ _ h hP hS (lv_sub hl [0, 2, 3] rfl)
          · rw [if_neg c_30] at h
            refine lv_bipush (v := 99) hx hb dX6_sees_106 (by decide) ?_
            refine lv_goto (tgt := 118) hx hb dX6_sees_108 (by decide) ?_
            exact J_29 99 _ _ _ h hP hS (lv_sub hl [0, 2, 3] rfl)
    refine lv_if_le (tgt := 85) hx hb dX6_sees_49 (by decide) (fun (c_34 : q_1 ≤ 0) => ?_) (fun (c_34 : ¬ q_1 ≤ 0) => ?_)
    · rw [if_pos c_34] at h
      exact J_33  _ _ _ h hP hS (lv_sub hl [0, 2, 3, 4] rfl)
    · rw [if_neg c_34] at h
      refine lv_iload_n hx hb dX6_sees_52 rfl (lv_at hl 1 rfl) ?_
      refine lv_aload_n hx hb dX6_sees_53 rfl (lv_at hl 3 rfl) ?_
      refine lv_iload_n hx hb dX6_sees_54 rfl (lv_at hl 4 rfl) ?_
      obtain ⟨q_35, hq_36, h⟩ := bd_s h
      refine m_rVi (As := [.int x1]) (rest := [.int (f_X6_distance q_3 (σ 6 q_5.toNatClampNeg))]) (o := 0) (ci := 6) C0 hb hml hl.1 wm_X6_103 md_X6_bears (k_X6_bears l G a σ hj x1 q_35 hq_36) rfl rfl ⟨(Nat.le_of_ble_eq_true rfl), (Nat.le_of_ble_eq_true rfl)⟩ hP hS (rfl : kM 0 = 6) (by decide) rfl rfl rfl (Nat.le_of_ble_eq_true rfl) dX6_sees_55 ?_
      refine lv_icmp_le (tgt := 85) hx hb dX6_sees_58 (by decide) (fun (c_37 : (f_X6_distance q_3 (σ 6 q_5.toNatClampNeg)) ≤ q_35) => ?_) (fun (c_37 : ¬ (f_X6_distance q_3 (σ 6 q_5.toNatClampNeg)) ≤ q_35) => ?_)
      · rw [if_pos c_37] at h
        exact J_33  _ _ _ h hP hS (lv_sub hl [0, 2, 3, 4] rfl)
      · rw [if_neg c_37] at h
        refine lv_iload_n hx hb dX6_sees_61 rfl (lv_at hl 2 rfl) ?_
        refine lv_aload_n hx hb dX6_sees_62 rfl (lv_at hl 3 rfl) ?_
        refine lv_iload_n hx hb dX6_sees_63 rfl (lv_at hl 4 rfl) ?_
        obtain ⟨q_38, hq_39, h⟩ := bd_s h
        refine m_rVi (As := [.int x1]) (rest := [.int q_1]) (o := 0) (ci := 6) C0 hb hml hl.1 wm_X6_106 md_X6_doubts (k_X6_doubts l G a σ hj x1 q_38 hq_39) rfl rfl ⟨(Nat.le_of_ble_eq_true rfl), (Nat.le_of_ble_eq_true rfl)⟩ hP hS (rfl : kM 0 = 6) (by decide) rfl rfl rfl (Nat.le_of_ble_eq_true rfl) dX6_sees_64 ?_
        have J_41 : ∀ (t_40 : Int32) (H : Heap) (locs : List Loc) (ls : Array Slot), f_X6_sees_J81 x1 σ t_12 t_40 = some q → HP G kM nM a σ H → va_S (AW nM a) s.heap H locs → lv_has ls 5 [(4, .int t_12), (0, .ref (a 0)), (1, .int x1)] → W p l e ({ frames := 3, cells := 0, slots := 0, locals := 65 } : Room) s m ([.ref (a 0), .int x1] : List Value).toArray below meth c H locs 0 0 (MQ below (QV G kM nM a q) ([.ref (a 0), .int x1] : List Value).toArray s 0 0 (AW nM a)) (F0 m 81 ls [.int t_40]) := by
          intro t_40 H locs ls h hP hS hl
          unfold f_X6_sees_J81 at h
          refine lv_istore_n (lv' := [(2, .int t_40), (4, .int t_12), (0, .ref (a 0)), (1, .int x1)]) hx hb dX6_sees_81 rfl hl (by decide) rfl (fun ls hl => ?_)
          refine lv_goto (tgt := 119) hx hb dX6_sees_82 (by decide) ?_
          exact J_23 t_40 _ _ _ h hP hS (lv_sub hl [1, 0, 2, 3] rfl)
        refine lv_icmp_le (tgt := 80) hx hb dX6_sees_67 (by decide) (fun (c_42 : q_1 ≤ q_38) => ?_) (fun (c_42 : ¬ q_1 ≤ q_38) => ?_)
        · rw [if_pos c_42] at h
          refine lv_iconst (v := 0) hx hb dX6_sees_80 (by decide) ?_
          exact J_41 0 _ _ _ h hP hS (lv_sub hl [0, 3, 4] rfl)
        · rw [if_neg c_42] at h
          refine lv_iload_n hx hb dX6_sees_70 rfl (lv_at hl 2 rfl) ?_
          refine lv_aload_n hx hb dX6_sees_71 rfl (lv_at hl 3 rfl) ?_
          refine lv_iload_n hx hb dX6_sees_72 rfl (lv_at hl 4 rfl) ?_
          obtain ⟨q_43, hq_44, h⟩ := bd_s h
          refine m_rVi (As := [.int x1]) (rest := [.int q_1]) (o := 0) (ci := 6) C0 hb hml hl.1 wm_X6_106 md_X6_doubts (k_X6_doubts l G a σ hj x1 q_43 hq_44) rfl rfl ⟨(Nat.le_of_ble_eq_true rfl), (Nat.le_of_ble_eq_true rfl)⟩ hP hS (rfl : kM 0 = 6) (by decide) rfl rfl rfl (Nat.le_of_ble_eq_true rfl) dX6_sees_73 ?_
          refine lv_isub hx hb dX6_sees_76 ?_
          refine lv_goto (tgt := 81) hx hb dX6_sees_77 (by decide) ?_
          exact J_41 (q_1 - q_43) _ _ _ h hP hS (lv_sub hl [0, 3, 4] rfl)
  refine lv_icmp_ge (tgt := 45) hx hb dX6_sees_38 (by decide) (fun (c_46 : q_10 ≤ q_8) => ?_) (fun (c_46 : ¬ q_10 ≤ q_8) => ?_)
  · rw [if_pos c_46] at h
    refine lv_iconst (v := 0) hx hb dX6_sees_45 (by decide) ?_
    exact J_45 0 _ _ _ h hP hS (lv_sub hl [0, 1, 2, 3] rfl)
  · rw [if_neg c_46] at h
    refine lv_iconst (v := 1) hx hb dX6_sees_41 (by decide) ?_
    refine lv_goto (tgt := 46) hx hb dX6_sees_42 (by decide) ?_
    exact J_45 1 _ _ _ h hP hS (lv_sub hl [0, 1, 2, 3] rfl)
def f_X6_hour_B6  (rec6 : Int32 → Mem → Option (Mem)) (x1_3 : Int32) (σ_4 : Mem) : Option (Mem) := (if (σ_4 1 1) ≤ x1_3 then some (mst σ_4 1 0 ((σ_4 1 0) + 1)) else ((f_X6_sees x1_3 σ_4).bind fun q_6 => (rec6 (x1_3 + 1) q_6)))
def f_X6_hour (σ : Mem) : Option (Mem) := ((f_X6_flows σ).bind fun q_1 => (it2 f_X6_hour_B6 FU 0 q_1))
set_option maxHeartbeats 4000000 in
set_option maxRecDepth 100000 in
theorem k_X6_hour (l : Launch) (G : GG) (a : Nat → Nat) (σ : Mem) (hj : INJ nM a)  (q : Mem) (h : f_X6_hour σ = some q) : Met l yX6_hour (Cond.code yX6_hour cX6_hour 2 none :: TB) ({ frames := 4, cells := 0, slots := 0, locals := 89 } : Room) (PA G kM nM a σ [.ref (a 0)]) (QV G kM nM a q) 0 0 (AW nM a) := by
  refine M_ofW (by decide) hj kM_lt (Nat.le_of_ble_eq_true rfl) (fun p e s m below meth c ls C0 hb hml hr hlk hP hS hl => ?_)
  have C0 : CT p s _ m RX6 G kM nM a := C0
  have hx := C0.1
  have hts := C0.2.1
  have hown := C0.2.2.1
  have hl : lv_has ls 2 [(0, .ref (a 0))] := hl
  unfold f_X6_hour at h
  refine lv_aload_n hx hb dX6_hour_0 rfl (lv_at hl 0 rfl) ?_
  obtain ⟨q_1, hq_2, h⟩ := bd_s h
  refine m_cVv (As := []) (rest := []) (o := 0) (ci := 6) C0 hb hml hl.1 wm_X6_128 md_X6_flows (k_X6_flows l G a σ hj q_1 hq_2) rfl rfl ⟨(Nat.le_of_ble_eq_true rfl), (Nat.le_of_ble_eq_true rfl)⟩ hP hS (rfl : kM 0 = 6) (by decide) rfl rfl rfl (Nat.le_of_ble_eq_true rfl) dX6_hour_1 (fun H locs hP hS => ?_)
  refine lv_iconst (v := 0) hx hb dX6_hour_4 (by decide) ?_
  refine lv_istore_n (lv' := [(1, .int 0), (0, .ref (a 0))]) hx hb dX6_hour_5 rfl hl (by decide) rfl (fun ls hl => ?_)
  have L_8 : ∀ (fu6 : Nat) (x1_3 : Int32) (σ_4 : Mem) (H : Heap) (locs : List Loc) (ls : Array Slot), it2 f_X6_hour_B6 fu6 x1_3 σ_4 = some q → HP G kM nM a σ_4 H → va_S (AW nM a) s.heap H locs → lv_has ls 2 [(1, .int x1_3), (0, .ref (a 0))] → W p l e ({ frames := 4, cells := 0, slots := 0, locals := 89 } : Room) s m ([.ref (a 0)] : List Value).toArray below meth c H locs 0 0 (MQ below (QV G kM nM a q) ([.ref (a 0)] : List Value).toArray s 0 0 (AW nM a)) (F0 m 6 ls []) := by
    intro fu6
    induction fu6 with
    | zero =>
      intro x1_3 σ_4 H locs ls h
      cases h
    | succ fu6 ih6 =>
      intro x1_3 σ_4 H locs ls h hP hS hl
      replace h : f_X6_hour_B6 (it2 f_X6_hour_B6 fu6) x1_3 σ_4 = some q := h
      generalize it2 f_X6_hour_B6 fu6 = rec6 at h ih6
      unfold f_X6_hour_B6 at h
      refine lv_iload_n hx hb dX6_hour_6 rfl (lv_at hl 0 rfl) ?_
      refine lv_aload_n hx hb dX6_hour_7 rfl (lv_at hl 1 rfl) ?_
      refine gf_X6_7 (o := 0) (o2 := 1) C0 hb hP (rfl : kM 0 = 6) rfl dX6_hour_8 ?_
      refine lv_iconst (v := 1) hx hb dX6_hour_11 (by decide) ?_
      refine m_iald (o := 1) (N := 74) (i := 1) (j := 1) C0 hb hP (rfl : kM 1 = 100 + 74) (by decide) (show vp_in 1 74 by unfold vp_in; decide) (by decide) dX6_hour_12 ?_
      refine lv_icmp_ge (tgt := 27) hx hb dX6_hour_13 (by decide) (fun (c_5 : (σ_4 1 1) ≤ x1_3) => ?_) (fun (c_5 : ¬ (σ_4 1 1) ≤ x1_3) => ?_)
      · rw [if_pos c_5] at h
        refine lv_aload_n hx hb dX6_hour_27 rfl (lv_at hl 1 rfl) ?_
        refine gf_X6_7 (o := 0) (o2 := 1) C0 hb hP (rfl : kM 0 = 6) rfl dX6_hour_28 ?_
        refine lv_iconst (v := 0) hx hb dX6_hour_31 (by decide) ?_
        refine lv_dup2_11 hx hb dX6_hour_32 rfl rfl ?_
        refine m_iald (o := 1) (N := 74) (i := 0) (j := 0) C0 hb hP (rfl : kM 1 = 100 + 74) (by decide) (show vp_in 0 74 by unfold vp_in; decide) (by decide) dX6_hour_33 ?_
        refine lv_iconst (v := 1) hx hb dX6_hour_34 (by decide) ?_
        refine lv_iadd hx hb dX6_hour_35 ?_
        refine m_iast (o := 1) (N := 74) (i := 0) (j := 0) C0 hb hP hS (rfl : kM 1 = 100 + 74) (by decide) (show vp_in 0 74 by unfold vp_in; decide) (by decide) dX6_hour_36 (fun H locs hP hS => ?_)
        exact m_rv hx hb hr hlk hP hS (Option.some.inj h) dX6_hour_37
      · rw [if_neg c_5] at h
        refine lv_aload_n hx hb dX6_hour_16 rfl (lv_at hl 1 rfl) ?_
        refine lv_iload_n hx hb dX6_hour_17 rfl (lv_at hl 0 rfl) ?_
        obtain ⟨q_6, hq_7, h⟩ := bd_s h
        refine m_cVv (As := [.int x1_3]) (rest := []) (o := 0) (ci := 6) C0 hb hml hl.1 wm_X6_131 md_X6_sees (k_X6_sees l G a σ_4 hj x1_3 q_6 hq_7) rfl rfl ⟨(Nat.le_of_ble_eq_true rfl), (Nat.le_of_ble_eq_true rfl)⟩ hP hS (rfl : kM 0 = 6) (by decide) rfl rfl rfl (Nat.le_of_ble_eq_true rfl) dX6_hour_18 (fun H locs hP hS => ?_)
        refine lv_iinc (v := x1_3 + 1) (lv' := [(1, .int (x1_3 + 1)), (0, .ref (a 0))]) hx hb dX6_hour_21 hl (k := 0) rfl rfl (by decide) rfl (fun ls hl => ?_)
        refine lv_goto (tgt := 6) hx hb dX6_hour_24 (by decide) ?_
        exact ih6 (x1_3 + 1) q_6 _ _ _ h hP hS (lv_sub hl [0, 1] rfl)
  exact L_8 FU 0 q_1 _ _ _ h hP hS (lv_sub hl [0, 1] rfl)
def f_X6_goesOn_B2 (x1 : Int32) (rec2 : Int32 → Mem → Option (Mem)) (x2_1 : Int32) (σ_2 : Mem) : Option (Mem) := (if x1 ≤ x2_1 then some σ_2 else ((f_X6_hour σ_2).bind fun q_4 => (rec2 (x2_1 + 1) q_4)))
def f_X6_goesOn (x1 : Int32) (σ : Mem) : Option (Mem) := (it2 (f_X6_goesOn_B2 x1) FU 0 σ)
set_option maxHeartbeats 4000000 in
set_option maxRecDepth 100000 in
theorem k_X6_goesOn (l : Launch) (G : GG) (a : Nat → Nat) (σ : Mem) (hj : INJ nM a) (x1 : Int32) (q : Mem) (h : f_X6_goesOn x1 σ = some q) : Met l yX6_goesOn (Cond.code yX6_goesOn cX6_goesOn 3 none :: TB) ({ frames := 5, cells := 0, slots := 0, locals := 110 } : Room) (PA G kM nM a σ [.ref (a 0), .int x1]) (QV G kM nM a q) 0 0 (AW nM a) := by
  refine M_ofW (by decide) hj kM_lt (Nat.le_of_ble_eq_true rfl) (fun p e s m below meth c ls C0 hb hml hr hlk hP hS hl => ?_)
  have C0 : CT p s _ m RX6 G kM nM a := C0
  have hx := C0.1
  have hts := C0.2.1
  have hown := C0.2.2.1
  have hl : lv_has ls 3 [(0, .ref (a 0)), (1, .int x1)] := hl
  unfold f_X6_goesOn at h
  refine lv_iconst (v := 0) hx hb dX6_goesOn_0 (by decide) ?_
  refine lv_istore_n (lv' := [(2, .int 0), (0, .ref (a 0)), (1, .int x1)]) hx hb dX6_goesOn_1 rfl hl (by decide) rfl (fun ls hl => ?_)
  have L_6 : ∀ (fu2 : Nat) (x2_1 : Int32) (σ_2 : Mem) (H : Heap) (locs : List Loc) (ls : Array Slot), it2 (f_X6_goesOn_B2 x1) fu2 x2_1 σ_2 = some q → HP G kM nM a σ_2 H → va_S (AW nM a) s.heap H locs → lv_has ls 3 [(2, .int x2_1), (0, .ref (a 0)), (1, .int x1)] → W p l e ({ frames := 5, cells := 0, slots := 0, locals := 110 } : Room) s m ([.ref (a 0), .int x1] : List Value).toArray below meth c H locs 0 0 (MQ below (QV G kM nM a q) ([.ref (a 0), .int x1] : List Value).toArray s 0 0 (AW nM a)) (F0 m 2 ls []) := by
    intro fu2
    induction fu2 with
    | zero =>
      intro x2_1 σ_2 H locs ls h
      cases h
    | succ fu2 ih2 =>
      intro x2_1 σ_2 H locs ls h hP hS hl
      replace h : (f_X6_goesOn_B2 x1) (it2 (f_X6_goesOn_B2 x1) fu2) x2_1 σ_2 = some q := h
      generalize it2 (f_X6_goesOn_B2 x1) fu2 = rec2 at h ih2
      unfold f_X6_goesOn_B2 at h
      refine lv_iload_n hx hb dX6_goesOn_2 rfl (lv_at hl 0 rfl) ?_
      refine lv_iload_n hx hb dX6_goesOn_3 rfl (lv_at hl 2 rfl) ?_
      refine lv_icmp_ge (tgt := 17) hx hb dX6_goesOn_4 (by decide) (fun (c_3 : x1 ≤ x2_1) => ?_) (fun (c_3 : ¬ x1 ≤ x2_1) => ?_)
      · rw [if_pos c_3] at h
        exact m_rv hx hb hr hlk hP hS (Option.some.inj h) dX6_goesOn_17
      · rw [if_neg c_3] at h
        refine lv_aload_n hx hb dX6_goesOn_7 rfl (lv_at hl 1 rfl) ?_
        obtain ⟨q_4, hq_5, h⟩ := bd_s h
        refine m_cVv (As := []) (rest := []) (o := 0) (ci := 6) C0 hb hml hl.1 wm_X6_134 md_X6_hour (k_X6_hour l G a σ_2 hj q_4 hq_5) rfl rfl ⟨(Nat.le_of_ble_eq_true rfl), (Nat.le_of_ble_eq_true rfl)⟩ hP hS (rfl : kM 0 = 6) (by decide) rfl rfl rfl (Nat.le_of_ble_eq_true rfl) dX6_goesOn_8 (fun H locs hP hS => ?_)
        refine lv_iinc (v := x2_1 + 1) (lv' := [(2, .int (x2_1 + 1)), (0, .ref (a 0)), (1, .int x1)]) hx hb dX6_goesOn_11 hl (k := 0) rfl rfl (by decide) rfl (fun ls hl => ?_)
        refine lv_goto (tgt := 2) hx hb dX6_goesOn_14 (by decide) ?_
        exact ih2 (x2_1 + 1) q_4 _ _ _ h hP hS (lv_sub hl [0, 1, 2] rfl)
  exact L_6 FU 0 σ _ _ _ h hP hS (lv_sub hl [0, 1, 2] rfl)
def f_X6_knowing_J31 (x1_1 : Int32) (x2_2 : Int32) (rec4 : Int32 → Int32 → Option (Int32)) (t_6 : Int32) : Option (Int32) := (rec4 (x1_1 ||| t_6) (x2_2 + 1))
def f_X6_knowing_B4 (σ : Mem) (rec4 : Int32 → Int32 → Option (Int32)) (x1_1 : Int32) (x2_2 : Int32) : Option (Int32) := (if (σ 1 1) ≤ x2_2 then some x1_1 else ((f_X6_its x2_2 3 σ).bind fun q_4 => (f_X6_knowing_J31 x1_1 x2_2 rec4 (if q_4 = 0 then 1 <<< (x2_2 &&& 31) else 0))))
def f_X6_knowing (σ : Mem) : Option (Int32) := (it2 (f_X6_knowing_B4 σ) FU 0 0)
set_option maxHeartbeats 4000000 in
set_option maxRecDepth 100000 in
theorem k_X6_knowing (l : Launch) (G : GG) (a : Nat → Nat) (σ : Mem) (hj : INJ nM a)  (q : Int32) (h : f_X6_knowing σ = some q) : Met l yX6_knowing (Cond.code yX6_knowing cX6_knowing 3 (some .int) :: TB) ({ frames := 2, cells := 0, slots := 0, locals := 43 } : Room) (PA G kM nM a σ [.ref (a 0)]) (SI q) 0 0 NF := by
  refine M_ofW (by decide) hj kM_lt (Nat.le_of_ble_eq_true rfl) (fun p e s m below meth c ls C0 hb hml hr hlk hP hS hl => ?_)
  have C0 : CT p s _ m RX6 G kM nM a := C0
  have hx := C0.1
  have hts := C0.2.1
  have hown := C0.2.2.1
  have hl : lv_has ls 3 [(0, .ref (a 0))] := hl
  unfold f_X6_knowing at h
  refine lv_iconst (v := 0) hx hb dX6_knowing_0 (by decide) ?_
  refine lv_istore_n (lv' := [(1, .int 0), (0, .ref (a 0))]) hx hb dX6_knowing_1 rfl hl (by decide) rfl (fun ls hl => ?_)
  refine lv_iconst (v := 0) hx hb dX6_knowing_2 (by decide) ?_
  refine lv_istore_n (lv' := [(2, .int 0), (1, .int 0), (0, .ref (a 0))]) hx hb dX6_knowing_3 rfl hl (by decide) rfl (fun ls hl => ?_)
  have L_9 : ∀ (fu4 : Nat) (x1_1 : Int32) (x2_2 : Int32) (ls : Array Slot), it2 (f_X6_knowing_B4 σ) fu4 x1_1 x2_2 = some q → lv_has ls 3 [(2, .int x2_2), (1, .int x1_1), (0, .ref (a 0))] → W p l e ({ frames := 2, cells := 0, slots := 0, locals := 43 } : Room) s m ([.ref (a 0)] : List Value).toArray below meth c s.heap [] 0 0 (MQ below (SI q) ([.ref (a 0)] : List Value).toArray s 0 0 NF) (F0 m 4 ls []) := by
    intro fu4
    induction fu4 with
    | zero =>
      intro x1_1 x2_2 ls h
      cases h
    | succ fu4 ih4 =>
      intro x1_1 x2_2 ls h hl
      replace h : (f_X6_knowing_B4 σ) (it2 (f_X6_knowing_B4 σ) fu4) x1_1 x2_2 = some q := h
      generalize it2 (f_X6_knowing_B4 σ) fu4 = rec4 at h ih4
      unfold f_X6_knowing_B4 at h
      refine lv_iload_n hx hb dX6_knowing_4 rfl (lv_at hl 0 rfl) ?_
      refine lv_aload_n hx hb dX6_knowing_5 rfl (lv_at hl 2 rfl) ?_
      refine gf_X6_7 (o := 0) (o2 := 1) C0 hb hP (rfl : kM 0 = 6) rfl dX6_knowing_6 ?_
      refine lv_iconst (v := 1) hx hb dX6_knowing_9 (by decide) ?_
      refine m_iald (o := 1) (N := 74) (i := 1) (j := 1) C0 hb hP (rfl : kM 1 = 100 + 74) (by decide) (show vp_in 1 74 by unfold vp_in; decide) (by decide) dX6_knowing_10 ?_
      refine lv_icmp_ge (tgt := 39) hx hb dX6_knowing_11 (by decide) (fun (c_3 : (σ 1 1) ≤ x2_2) => ?_) (fun (c_3 : ¬ (σ 1 1) ≤ x2_2) => ?_)
      · rw [if_pos c_3] at h
        refine lv_iload_n hx hb dX6_knowing_39 rfl (lv_at hl 1 rfl) ?_
        exact m_si hx hb hr hlk (Option.some.inj h) dX6_knowing_40
      · rw [if_neg c_3] at h
        refine lv_iload_n hx hb dX6_knowing_14 rfl (lv_at hl 1 rfl) ?_
        refine lv_aload_n hx hb dX6_knowing_15 rfl (lv_at hl 2 rfl) ?_
        refine lv_iload_n hx hb dX6_knowing_16 rfl (lv_at hl 0 rfl) ?_
        refine lv_iconst (v := 3) hx hb dX6_knowing_17 (by decide) ?_
        obtain ⟨q_4, hq_5, h⟩ := bd_s h
        refine m_rVi (As := [.int x2_2, .int 3]) (rest := [.int x1_1]) (o := 0) (ci := 6) C0 hb hml hl.1 wm_X6_63 md_X6_its (k_X6_its l G a σ hj x2_2 3 q_4 hq_5) rfl rfl ⟨(Nat.le_of_ble_eq_true rfl), (Nat.le_of_ble_eq_true rfl)⟩ hP hS (rfl : kM 0 = 6) (by decide) rfl rfl rfl (Nat.le_of_ble_eq_true rfl) dX6_knowing_18 ?_
        have J_7 : ∀ (t_6 : Int32) (ls : Array Slot), f_X6_knowing_J31 x1_1 x2_2 rec4 t_6 = some q → lv_has ls 3 [(2, .int x2_2), (0, .ref (a 0))] → W p l e ({ frames := 2, cells := 0, slots := 0, locals := 43 } : Room) s m ([.ref (a 0)] : List Value).toArray below meth c s.heap [] 0 0 (MQ below (SI q) ([.ref (a 0)] : List Value).toArray s 0 0 NF) (F0 m 31 ls [.int t_6, .int x1_1]) := by
          intro t_6 ls h hl
          unfold f_X6_knowing_J31 at h
          refine lv_ior hx hb dX6_knowing_31 ?_
          refine lv_istore_n (lv' := [(1, .int (x1_1 ||| t_6)), (2, .int x2_2), (0, .ref (a 0))]) hx hb dX6_knowing_32 rfl hl (by decide) rfl (fun ls hl => ?_)
          refine lv_iinc (v := x2_2 + 1) (lv' := [(2, .int (x2_2 + 1)), (1, .int (x1_1 ||| t_6)), (0, .ref (a 0))]) hx hb dX6_knowing_33 hl (k := 1) rfl rfl (by decide) rfl (fun ls hl => ?_)
          refine lv_goto (tgt := 4) hx hb dX6_knowing_36 (by decide) ?_
          exact ih4 (x1_1 ||| t_6) (x2_2 + 1) _ h (lv_sub hl [0, 1, 2] rfl)
        refine lv_if_ne (tgt := 30) hx hb dX6_knowing_21 (by decide) (fun (c_8 : ¬ q_4 = 0) => ?_) (fun (c_8 : q_4 = 0) => ?_)
        · rw [if_neg c_8] at h
          refine lv_iconst (v := 0) hx hb dX6_knowing_30 (by decide) ?_
          exact J_7 0 _ h (lv_sub hl [0, 2] rfl)
        · rw [if_pos c_8] at h
          refine lv_iconst (v := 1) hx hb dX6_knowing_24 (by decide) ?_
          refine lv_iload_n hx hb dX6_knowing_25 rfl (lv_at hl 0 rfl) ?_
          refine lv_ishl hx hb dX6_knowing_26 ?_
          refine lv_goto (tgt := 31) hx hb dX6_knowing_27 (by decide) ?_
          exact J_7 (1 <<< (x2_2 &&& 31)) _ h (lv_sub hl [0, 2] rfl)
  exact L_9 FU 0 0 _ h (lv_sub hl [0, 1, 2] rfl)
def f_X6_go (x1 : Int32) (σ : Mem) : Option (Int32 × Mem) := (if (f_X6_in x1.toInt64 1 80) = 0 then ((f_X6_finds (-1000001) σ).bind fun q_9 => some (q_9.1, q_9.2)) else (if ((σ 1 0) + x1) ≤ 99999 then ((f_X6_goesOn x1 σ).bind fun q_3 => ((f_X6_knowing q_3).bind fun q_5 => some (q_5, q_3))) else ((f_X6_finds (-1000005) σ).bind fun q_7 => some (q_7.1, q_7.2))))
set_option maxHeartbeats 4000000 in
set_option maxRecDepth 100000 in
theorem k_X6_go (l : Launch) (G : GG) (a : Nat → Nat) (σ : Mem) (hj : INJ nM a) (x1 : Int32) (q : Int32 × Mem) (h : f_X6_go x1 σ = some q) : Met l yX6_go (Cond.code yX6_go cX6_go 2 (some .int) :: TB) ({ frames := 6, cells := 0, slots := 0, locals := 132 } : Room) (PA G kM nM a σ [.ref (a 0), .int x1]) (QI G kM nM a q) 0 0 (AW nM a) := by
  refine M_ofW (by decide) hj kM_lt (Nat.le_of_ble_eq_true rfl) (fun p e s m below meth c ls C0 hb hml hr hlk hP hS hl => ?_)
  have C0 : CT p s _ m RX6 G kM nM a := C0
  have hx := C0.1
  have hts := C0.2.1
  have hown := C0.2.2.1
  have hl : lv_has ls 2 [(0, .ref (a 0)), (1, .int x1)] := hl
  unfold f_X6_go at h
  refine lv_iload_n hx hb dX6_go_0 rfl (lv_at hl 1 rfl) ?_
  refine lv_i2l (v := x1.toInt64) hx hb dX6_go_1 rfl ?_
  refine lv_lconst (v := 1) hx hb dX6_go_2 (by decide) ?_
  refine lv_ldc2 hx hb hown (hts _ wk_X6_137) dX6_go_3 ?_
  refine m_pSi (As := [.long x1.toInt64, .long 1, .long 80]) (rest := []) C0.z hb hml hl.1 wm_X6_49 md_X6_in (k_X6_in l x1.toInt64 1 80) rfl rfl ⟨(Nat.le_of_ble_eq_true rfl), (Nat.le_of_ble_eq_true rfl)⟩ rfl rfl (Nat.le_of_ble_eq_true rfl) dX6_go_6 ?_
  refine lv_if_ne (tgt := 19) hx hb dX6_go_9 (by decide) (fun (c_1 : ¬ (f_X6_in x1.toInt64 1 80) = 0) => ?_) (fun (c_1 : (f_X6_in x1.toInt64 1 80) = 0) => ?_)
  · rw [if_neg c_1] at h
    refine lv_aload_n hx hb dX6_go_19 rfl (lv_at hl 0 rfl) ?_
    refine gf_X6_7 (o := 0) (o2 := 1) C0 hb hP (rfl : kM 0 = 6) rfl dX6_go_20 ?_
    refine lv_iconst (v := 0) hx hb dX6_go_23 (by decide) ?_
    refine m_iald (o := 1) (N := 74) (i := 0) (j := 0) C0 hb hP (rfl : kM 1 = 100 + 74) (by decide) (show vp_in 0 74 by unfold vp_in; decide) (by decide) dX6_go_24 ?_
    refine lv_iload_n hx hb dX6_go_25 rfl (lv_at hl 1 rfl) ?_
    refine lv_iadd hx hb dX6_go_26 ?_
    refine lv_ldc hx hb hown (hts _ wk_X6_139) dX6_go_27 ?_
    refine lv_icmp_le (tgt := 39) hx hb dX6_go_29 (by decide) (fun (c_2 : ((σ 1 0) + x1) ≤ 99999) => ?_) (fun (c_2 : ¬ ((σ 1 0) + x1) ≤ 99999) => ?_)
    · rw [if_pos c_2] at h
      refine lv_aload_n hx hb dX6_go_39 rfl (lv_at hl 0 rfl) ?_
      refine lv_iload_n hx hb dX6_go_40 rfl (lv_at hl 1 rfl) ?_
      obtain ⟨q_3, hq_4, h⟩ := bd_s h
      refine m_cVv (As := [.int x1]) (rest := []) (o := 0) (ci := 6) C0 hb hml hl.1 wm_X6_141 md_X6_goesOn (k_X6_goesOn l G a σ hj x1 q_3 hq_4) rfl rfl ⟨(Nat.le_of_ble_eq_true rfl), (Nat.le_of_ble_eq_true rfl)⟩ hP hS (rfl : kM 0 = 6) (by decide) rfl rfl rfl (Nat.le_of_ble_eq_true rfl) dX6_go_41 (fun H locs hP hS => ?_)
      refine lv_aload_n hx hb dX6_go_44 rfl (lv_at hl 0 rfl) ?_
      obtain ⟨q_5, hq_6, h⟩ := bd_s h
      refine m_rVi (As := []) (rest := []) (o := 0) (ci := 6) C0 hb hml hl.1 wm_X6_144 md_X6_knowing (k_X6_knowing l G a q_3 hj q_5 hq_6) rfl rfl ⟨(Nat.le_of_ble_eq_true rfl), (Nat.le_of_ble_eq_true rfl)⟩ hP hS (rfl : kM 0 = 6) (by decide) rfl rfl rfl (Nat.le_of_ble_eq_true rfl) dX6_go_45 ?_
      exact m_ri hx hb hr hlk hP hS (Option.some.inj h) dX6_go_48
    · rw [if_neg c_2] at h
      refine lv_aload_n hx hb dX6_go_32 rfl (lv_at hl 0 rfl) ?_
      refine lv_ldc hx hb hown (hts _ wk_X6_140) dX6_go_33 ?_
      obtain ⟨q_7, hq_8, h⟩ := bd_s h
      refine m_cVi (As := [.int (-1000005)]) (rest := []) (o := 0) (ci := 6) C0 hb hml hl.1 wm_X6_75 md_X6_finds (k_X6_finds l G a σ hj (-1000005) q_7 hq_8) rfl rfl ⟨(Nat.le_of_ble_eq_true rfl), (Nat.le_of_ble_eq_true rfl)⟩ hP hS (rfl : kM 0 = 6) (by decide) rfl rfl rfl (Nat.le_of_ble_eq_true rfl) dX6_go_35 (fun H locs hP hS => ?_)
      exact m_ri hx hb hr hlk hP hS (Option.some.inj h) dX6_go_38
  · rw [if_pos c_1] at h
    refine lv_aload_n hx hb dX6_go_12 rfl (lv_at hl 0 rfl) ?_
    refine lv_ldc hx hb hown (hts _ wk_X6_46) dX6_go_13 ?_
    obtain ⟨q_9, hq_10, h⟩ := bd_s h
    refine m_cVi (As := [.int (-1000001)]) (rest := []) (o := 0) (ci := 6) C0 hb hml hl.1 wm_X6_75 md_X6_finds (k_X6_finds l G a σ hj (-1000001) q_9 hq_10) rfl rfl ⟨(Nat.le_of_ble_eq_true rfl), (Nat.le_of_ble_eq_true rfl)⟩ hP hS (rfl : kM 0 = 6) (by decide) rfl rfl rfl (Nat.le_of_ble_eq_true rfl) dX6_go_15 (fun H locs hP hS => ?_)
    exact m_ri hx hb hr hlk hP hS (Option.some.inj h) dX6_go_18
def f_X6_beliefs_B4 (σ : Mem) (rec4 : Int32 → Int32 → Option (Int32)) (x1_1 : Int32) (x2_2 : Int32) : Option (Int32) := (if (σ 1 1) ≤ x2_2 then some x1_1 else ((f_X6_its x2_2 3 σ).bind fun q_4 => (rec4 (x1_1 + q_4) (x2_2 + 1))))
def f_X6_beliefs (σ : Mem) : Option (Int32) := (it2 (f_X6_beliefs_B4 σ) FU 0 0)
set_option maxHeartbeats 4000000 in
set_option maxRecDepth 100000 in
theorem k_X6_beliefs (l : Launch) (G : GG) (a : Nat → Nat) (σ : Mem) (hj : INJ nM a)  (q : Int32) (h : f_X6_beliefs σ = some q) : Met l yX6_beliefs (Cond.code yX6_beliefs cX6_beliefs 3 (some .int) :: TB) ({ frames := 2, cells := 0, slots := 0, locals := 43 } : Room) (PA G kM nM a σ [.ref (a 0)]) (SI q) 0 0 NF := by
  refine M_ofW (by decide) hj kM_lt (Nat.le_of_ble_eq_true rfl) (fun p e s m below meth c ls C0 hb hml hr hlk hP hS hl => ?_)
  have C0 : CT p s _ m RX6 G kM nM a := C0
  have hx := C0.1
  have hts := C0.2.1
  have hown := C0.2.2.1
  have hl : lv_has ls 3 [(0, .ref (a 0))] := hl
  unfold f_X6_beliefs at h
  refine lv_iconst (v := 0) hx hb dX6_beliefs_0 (by decide) ?_
  refine lv_istore_n (lv' := [(1, .int 0), (0, .ref (a 0))]) hx hb dX6_beliefs_1 rfl hl (by decide) rfl (fun ls hl => ?_)
  refine lv_iconst (v := 0) hx hb dX6_beliefs_2 (by decide) ?_
  refine lv_istore_n (lv' := [(2, .int 0), (1, .int 0), (0, .ref (a 0))]) hx hb dX6_beliefs_3 rfl hl (by decide) rfl (fun ls hl => ?_)
  have L_6 : ∀ (fu4 : Nat) (x1_1 : Int32) (x2_2 : Int32) (ls : Array Slot), it2 (f_X6_beliefs_B4 σ) fu4 x1_1 x2_2 = some q → lv_has ls 3 [(2, .int x2_2), (1, .int x1_1), (0, .ref (a 0))] → W p l e ({ frames := 2, cells := 0, slots := 0, locals := 43 } : Room) s m ([.ref (a 0)] : List Value).toArray below meth c s.heap [] 0 0 (MQ below (SI q) ([.ref (a 0)] : List Value).toArray s 0 0 NF) (F0 m 4 ls []) := by
    intro fu4
    induction fu4 with
    | zero =>
      intro x1_1 x2_2 ls h
      cases h
    | succ fu4 ih4 =>
      intro x1_1 x2_2 ls h hl
      replace h : (f_X6_beliefs_B4 σ) (it2 (f_X6_beliefs_B4 σ) fu4) x1_1 x2_2 = some q := h
      generalize it2 (f_X6_beliefs_B4 σ) fu4 = rec4 at h ih4
      unfold f_X6_beliefs_B4 at h
      refine lv_iload_n hx hb dX6_beliefs_4 rfl (lv_at hl 0 rfl) ?_
      refine lv_aload_n hx hb dX6_beliefs_5 rfl (lv_at hl 2 rfl) ?_
      refine gf_X6_7 (o := 0) (o2 := 1) C0 hb hP (rfl : kM 0 = 6) rfl dX6_beliefs_6 ?_
      refine lv_iconst (v := 1) hx hb dX6_beliefs_9 (by decide) ?_
      refine m_iald (o := 1) (N := 74) (i := 1) (j := 1) C0 hb hP (rfl : kM 1 = 100 + 74) (by decide) (show vp_in 1 74 by unfold vp_in; decide) (by decide) dX6_beliefs_10 ?_
      refine lv_icmp_ge (tgt := 29) hx hb dX6_beliefs_11 (by decide) (fun (c_3 : (σ 1 1) ≤ x2_2) => ?_) (fun (c_3 : ¬ (σ 1 1) ≤ x2_2) => ?_)
      · rw [if_pos c_3] at h
        refine lv_iload_n hx hb dX6_beliefs_29 rfl (lv_at hl 1 rfl) ?_
        exact m_si hx hb hr hlk (Option.some.inj h) dX6_beliefs_30
      · rw [if_neg c_3] at h
        refine lv_iload_n hx hb dX6_beliefs_14 rfl (lv_at hl 1 rfl) ?_
        refine lv_aload_n hx hb dX6_beliefs_15 rfl (lv_at hl 2 rfl) ?_
        refine lv_iload_n hx hb dX6_beliefs_16 rfl (lv_at hl 0 rfl) ?_
        refine lv_iconst (v := 3) hx hb dX6_beliefs_17 (by decide) ?_
        obtain ⟨q_4, hq_5, h⟩ := bd_s h
        refine m_rVi (As := [.int x2_2, .int 3]) (rest := [.int x1_1]) (o := 0) (ci := 6) C0 hb hml hl.1 wm_X6_63 md_X6_its (k_X6_its l G a σ hj x2_2 3 q_4 hq_5) rfl rfl ⟨(Nat.le_of_ble_eq_true rfl), (Nat.le_of_ble_eq_true rfl)⟩ hP hS (rfl : kM 0 = 6) (by decide) rfl rfl rfl (Nat.le_of_ble_eq_true rfl) dX6_beliefs_18 ?_
        refine lv_iadd hx hb dX6_beliefs_21 ?_
        refine lv_istore_n (lv' := [(1, .int (x1_1 + q_4)), (2, .int x2_2), (0, .ref (a 0))]) hx hb dX6_beliefs_22 rfl hl (by decide) rfl (fun ls hl => ?_)
        refine lv_iinc (v := x2_2 + 1) (lv' := [(2, .int (x2_2 + 1)), (1, .int (x1_1 + q_4)), (0, .ref (a 0))]) hx hb dX6_beliefs_23 hl (k := 1) rfl rfl (by decide) rfl (fun ls hl => ?_)
        refine lv_goto (tgt := 4) hx hb dX6_beliefs_26 (by decide) ?_
        exact ih4 (x1_1 + q_4) (x2_2 + 1) _ h (lv_sub hl [0, 1, 2] rfl)
  exact L_6 FU 0 0 _ h (lv_sub hl [0, 1, 2] rfl)
def f_X6_levels_B4 (σ : Mem) (rec4 : Int32 → Int32 → Option (Int32)) (x1_1 : Int32) (x2_2 : Int32) : Option (Int32) := (if 12 ≤ x2_2 then some x1_1 else (chk (12 + x2_2) 74 (rec4 (x1_1 + (σ 1 ((12 + x2_2).toNatClampNeg))) (x2_2 + 1))))
def f_X6_levels (σ : Mem) : Option (Int32) := (it2 (f_X6_levels_B4 σ) FU 0 0)
set_option maxHeartbeats 4000000 in
set_option maxRecDepth 100000 in
theorem k_X6_levels (l : Launch) (G : GG) (a : Nat → Nat) (σ : Mem) (hj : INJ nM a)  (q : Int32) (h : f_X6_levels σ = some q) : Met l yX6_levels (Cond.code yX6_levels cX6_levels 3 (some .int) :: TB) ({ frames := 0, cells := 0, slots := 0, locals := 0 } : Room) (PA G kM nM a σ [.ref (a 0)]) (SI q) 0 0 NF := by
  refine M_ofW (by decide) hj kM_lt (Nat.le_of_ble_eq_true rfl) (fun p e s m below meth c ls C0 hb hml hr hlk hP hS hl => ?_)
  have C0 : CT p s _ m RX6 G kM nM a := C0
  have hx := C0.1
  have hts := C0.2.1
  have hown := C0.2.2.1
  have hl : lv_has ls 3 [(0, .ref (a 0))] := hl
  unfold f_X6_levels at h
  refine lv_iconst (v := 0) hx hb dX6_levels_0 (by decide) ?_
  refine lv_istore_n (lv' := [(1, .int 0), (0, .ref (a 0))]) hx hb dX6_levels_1 rfl hl (by decide) rfl (fun ls hl => ?_)
  refine lv_iconst (v := 0) hx hb dX6_levels_2 (by decide) ?_
  refine lv_istore_n (lv' := [(2, .int 0), (1, .int 0), (0, .ref (a 0))]) hx hb dX6_levels_3 rfl hl (by decide) rfl (fun ls hl => ?_)
  have L_5 : ∀ (fu4 : Nat) (x1_1 : Int32) (x2_2 : Int32) (ls : Array Slot), it2 (f_X6_levels_B4 σ) fu4 x1_1 x2_2 = some q → lv_has ls 3 [(2, .int x2_2), (1, .int x1_1), (0, .ref (a 0))] → W p l e ({ frames := 0, cells := 0, slots := 0, locals := 0 } : Room) s m ([.ref (a 0)] : List Value).toArray below meth c s.heap [] 0 0 (MQ below (SI q) ([.ref (a 0)] : List Value).toArray s 0 0 NF) (F0 m 4 ls []) := by
    intro fu4
    induction fu4 with
    | zero =>
      intro x1_1 x2_2 ls h
      cases h
    | succ fu4 ih4 =>
      intro x1_1 x2_2 ls h hl
      replace h : (f_X6_levels_B4 σ) (it2 (f_X6_levels_B4 σ) fu4) x1_1 x2_2 = some q := h
      generalize it2 (f_X6_levels_B4 σ) fu4 = rec4 at h ih4
      unfold f_X6_levels_B4 at h
      refine lv_iload_n hx hb dX6_levels_4 rfl (lv_at hl 0 rfl) ?_
      refine lv_bipush (v := 12) hx hb dX6_levels_5 (by decide) ?_
      refine lv_icmp_ge (tgt := 28) hx hb dX6_levels_7 (by decide) (fun (c_3 : 12 ≤ x2_2) => ?_) (fun (c_3 : ¬ 12 ≤ x2_2) => ?_)
      · rw [if_pos c_3] at h
        refine lv_iload_n hx hb dX6_levels_28 rfl (lv_at hl 1 rfl) ?_
        exact m_si hx hb hr hlk (Option.some.inj h) dX6_levels_29
      · rw [if_neg c_3] at h
        refine lv_iload_n hx hb dX6_levels_10 rfl (lv_at hl 1 rfl) ?_
        refine lv_aload_n hx hb dX6_levels_11 rfl (lv_at hl 2 rfl) ?_
        refine gf_X6_7 (o := 0) (o2 := 1) C0 hb hP (rfl : kM 0 = 6) rfl dX6_levels_12 ?_
        refine lv_bipush (v := 12) hx hb dX6_levels_15 (by decide) ?_
        refine lv_iload_n hx hb dX6_levels_17 rfl (lv_at hl 0 rfl) ?_
        refine lv_iadd hx hb dX6_levels_18 ?_
        obtain ⟨hi_4, h⟩ := chk_s h
        refine m_iald (o := 1) (N := 74) (i := 12 + x2_2) (j := (12 + x2_2).toNatClampNeg) C0 hb hP (rfl : kM 1 = 100 + 74) (by decide) hi_4 rfl dX6_levels_19 ?_
        refine lv_iadd hx hb dX6_levels_20 ?_
        refine lv_istore_n (lv' := [(1, .int (x1_1 + (σ 1 ((12 + x2_2).toNatClampNeg)))), (2, .int x2_2), (0, .ref (a 0))]) hx hb dX6_levels_21 rfl hl (by decide) rfl (fun ls hl => ?_)
        refine lv_iinc (v := x2_2 + 1) (lv' := [(2, .int (x2_2 + 1)), (1, .int (x1_1 + (σ 1 ((12 + x2_2).toNatClampNeg)))), (0, .ref (a 0))]) hx hb dX6_levels_22 hl (k := 1) rfl rfl (by decide) rfl (fun ls hl => ?_)
        refine lv_goto (tgt := 4) hx hb dX6_levels_25 (by decide) ?_
        exact ih4 (x1_1 + (σ 1 ((12 + x2_2).toNatClampNeg))) (x2_2 + 1) _ h (lv_sub hl [0, 1, 2] rfl)
  exact L_5 FU 0 0 _ h (lv_sub hl [0, 1, 2] rfl)
def f_X6_wanting_J36 (x1_1 : Int32) (x2_2 : Int32) (rec4 : Int32 → Int32 → Option (Int32)) (t_8 : Int32) : Option (Int32) := (rec4 (x1_1 ||| t_8) (x2_2 + 1))
def f_X6_wanting_B4 (σ : Mem) (rec4 : Int32 → Int32 → Option (Int32)) (x1_1 : Int32) (x2_2 : Int32) : Option (Int32) := (if (σ 1 1) ≤ x2_2 then some x1_1 else ((f_X6_there x2_2 σ).bind fun q_4 => ((f_X6_its x2_2 2 σ).bind fun q_6 => (f_X6_wanting_J36 x1_1 x2_2 rec4 (if q_6 ≤ q_4 then 0 else 1 <<< (x2_2 &&& 31))))))
def f_X6_wanting (σ : Mem) : Option (Int32) := (it2 (f_X6_wanting_B4 σ) FU 0 0)
set_option maxHeartbeats 4000000 in
set_option maxRecDepth 100000 in
theorem k_X6_wanting (l : Launch) (G : GG) (a : Nat → Nat) (σ : Mem) (hj : INJ nM a)  (q : Int32) (h : f_X6_wanting σ = some q) : Met l yX6_wanting (Cond.code yX6_wanting cX6_wanting 3 (some .int) :: TB) ({ frames := 3, cells := 0, slots := 0, locals := 64 } : Room) (PA G kM nM a σ [.ref (a 0)]) (SI q) 0 0 NF := by
  refine M_ofW (by decide) hj kM_lt (Nat.le_of_ble_eq_true rfl) (fun p e s m below meth c ls C0 hb hml hr hlk hP hS hl => ?_)
  have C0 : CT p s _ m RX6 G kM nM a := C0
  have hx := C0.1
  have hts := C0.2.1
  have hown := C0.2.2.1
  have hl : lv_has ls 3 [(0, .ref (a 0))] := hl
  unfold f_X6_wanting at h
  refine lv_iconst (v := 0) hx hb dX6_wanting_0 (by decide) ?_
  refine lv_istore_n (lv' := [(1, .int 0), (0, .ref (a 0))]) hx hb dX6_wanting_1 rfl hl (by decide) rfl (fun ls hl => ?_)
  refine lv_iconst (v := 0) hx hb dX6_wanting_2 (by decide) ?_
  refine lv_istore_n (lv' := [(2, .int 0), (1, .int 0), (0, .ref (a 0))]) hx hb dX6_wanting_3 rfl hl (by decide) rfl (fun ls hl => ?_)
  have L_11 : ∀ (fu4 : Nat) (x1_1 : Int32) (x2_2 : Int32) (ls : Array Slot), it2 (f_X6_wanting_B4 σ) fu4 x1_1 x2_2 = some q → lv_has ls 3 [(2, .int x2_2), (1, .int x1_1), (0, .ref (a 0))] → W p l e ({ frames := 3, cells := 0, slots := 0, locals := 64 } : Room) s m ([.ref (a 0)] : List Value).toArray below meth c s.heap [] 0 0 (MQ below (SI q) ([.ref (a 0)] : List Value).toArray s 0 0 NF) (F0 m 4 ls []) := by
    intro fu4
    induction fu4 with
    | zero =>
      intro x1_1 x2_2 ls h
      cases h
    | succ fu4 ih4 =>
      intro x1_1 x2_2 ls h hl
      replace h : (f_X6_wanting_B4 σ) (it2 (f_X6_wanting_B4 σ) fu4) x1_1 x2_2 = some q := h
      generalize it2 (f_X6_wanting_B4 σ) fu4 = rec4 at h ih4
      unfold f_X6_wanting_B4 at h
      refine lv_iload_n hx hb dX6_wanting_4 rfl (lv_at hl 0 rfl) ?_
      refine lv_aload_n hx hb dX6_wanting_5 rfl (lv_at hl 2 rfl) ?_
      refine gf_X6_7 (o := 0) (o2 := 1) C0 hb hP (rfl : kM 0 = 6) rfl dX6_wanting_6 ?_
      refine lv_iconst (v := 1) hx hb dX6_wanting_9 (by decide) ?_
      refine m_iald (o := 1) (N := 74) (i := 1) (j := 1) C0 hb hP (rfl : kM 1 = 100 + 74) (by decide) (show vp_in 1 74 by unfold vp_in; decide) (by decide) dX6_wanting_10 ?_
      refine lv_icmp_ge (tgt := 44) hx hb dX6_wanting_11 (by decide) (fun (c_3 : (σ 1 1) ≤ x2_2) => ?_) (fun (c_3 : ¬ (σ 1 1) ≤ x2_2) => ?_)
      · rw [if_pos c_3] at h
        refine lv_iload_n hx hb dX6_wanting_44 rfl (lv_at hl 1 rfl) ?_
        exact m_si hx hb hr hlk (Option.some.inj h) dX6_wanting_45
      · rw [if_neg c_3] at h
        refine lv_iload_n hx hb dX6_wanting_14 rfl (lv_at hl 1 rfl) ?_
        refine lv_aload_n hx hb dX6_wanting_15 rfl (lv_at hl 2 rfl) ?_
        refine lv_iload_n hx hb dX6_wanting_16 rfl (lv_at hl 0 rfl) ?_
        obtain ⟨q_4, hq_5, h⟩ := bd_s h
        refine m_rVi (As := [.int x2_2]) (rest := [.int x1_1]) (o := 0) (ci := 6) C0 hb hml hl.1 wm_X6_122 md_X6_there (k_X6_there l G a σ hj x2_2 q_4 hq_5) rfl rfl ⟨(Nat.le_of_ble_eq_true rfl), (Nat.le_of_ble_eq_true rfl)⟩ hP hS (rfl : kM 0 = 6) (by decide) rfl rfl rfl (Nat.le_of_ble_eq_true rfl) dX6_wanting_17 ?_
        refine lv_aload_n hx hb dX6_wanting_20 rfl (lv_at hl 2 rfl) ?_
        refine lv_iload_n hx hb dX6_wanting_21 rfl (lv_at hl 0 rfl) ?_
        refine lv_iconst (v := 2) hx hb dX6_wanting_22 (by decide) ?_
        obtain ⟨q_6, hq_7, h⟩ := bd_s h
        refine m_rVi (As := [.int x2_2, .int 2]) (rest := [.int q_4, .int x1_1]) (o := 0) (ci := 6) C0 hb hml hl.1 wm_X6_63 md_X6_its (k_X6_its l G a σ hj x2_2 2 q_6 hq_7) rfl rfl ⟨(Nat.le_of_ble_eq_true rfl), (Nat.le_of_ble_eq_true rfl)⟩ hP hS (rfl : kM 0 = 6) (by decide) rfl rfl rfl (Nat.le_of_ble_eq_true rfl) dX6_wanting_23 ?_
        have J_9 : ∀ (t_8 : Int32) (ls : Array Slot), f_X6_wanting_J36 x1_1 x2_2 rec4 t_8 = some q → lv_has ls 3 [(2, .int x2_2), (0, .ref (a 0))] → W p l e ({ frames := 3, cells := 0, slots := 0, locals := 64 } : Room) s m ([.ref (a 0)] : List Value).toArray below meth c s.heap [] 0 0 (MQ below (SI q) ([.ref (a 0)] : List Value).toArray s 0 0 NF) (F0 m 36 ls [.int t_8, .int x1_1]) := by
          intro t_8 ls h hl
          unfold f_X6_wanting_J36 at h
          refine lv_ior hx hb dX6_wanting_36 ?_
          refine lv_istore_n (lv' := [(1, .int (x1_1 ||| t_8)), (2, .int x2_2), (0, .ref (a 0))]) hx hb dX6_wanting_37 rfl hl (by decide) rfl (fun ls hl => ?_)
          refine lv_iinc (v := x2_2 + 1) (lv' := [(2, .int (x2_2 + 1)), (1, .int (x1_1 ||| t_8)), (0, .ref (a 0))]) hx hb dX6_wanting_38 hl (k := 1) rfl rfl (by decide) rfl (fun ls hl => ?_)
          refine lv_goto (tgt := 4) hx hb dX6_wanting_41 (by decide) ?_
          exact ih4 (x1_1 ||| t_8) (x2_2 + 1) _ h (lv_sub hl [0, 1, 2] rfl)
        refine lv_icmp_ge (tgt := 35) hx hb dX6_wanting_26 (by decide) (fun (c_10 : q_6 ≤ q_4) => ?_) (fun (c_10 : ¬ q_6 ≤ q_4) => ?_)
        · rw [if_pos c_10] at h
          refine lv_iconst (v := 0) hx hb dX6_wanting_35 (by decide) ?_
          exact J_9 0 _ h (lv_sub hl [0, 2] rfl)
        · rw [if_neg c_10] at h
          refine lv_iconst (v := 1) hx hb dX6_wanting_29 (by decide) ?_
          refine lv_iload_n hx hb dX6_wanting_30 rfl (lv_at hl 0 rfl) ?_
          refine lv_ishl hx hb dX6_wanting_31 ?_
          refine lv_goto (tgt := 36) hx hb dX6_wanting_32 (by decide) ?_
          exact J_9 (1 <<< (x2_2 &&& 31)) _ h (lv_sub hl [0, 2] rfl)
  exact L_11 FU 0 0 _ h (lv_sub hl [0, 1, 2] rfl)
def f_X6_now (x1 : Int32) (σ : Mem) : Option (Int32 × Mem) := (if x1 = 0 then some (σ 1 0, σ) else (if x1 = 1 then ((f_X6_levels σ).bind fun q_3 => some (q_3, σ)) else (if x1 = 2 then some (σ 1 2, σ) else (if x1 = 3 then ((f_X6_knowing σ).bind fun q_7 => some (q_7, σ)) else (if x1 = 4 then ((f_X6_wanting σ).bind fun q_10 => some (q_10, σ)) else (if x1 = 5 then ((f_X6_beliefs σ).bind fun q_13 => some (q_13, σ)) else (if x1 = 6 then ((f_X6_openings σ).bind fun q_16 => some (q_16, σ)) else ((f_X6_finds (-1000001) σ).bind fun q_18 => some (q_18.1, q_18.2)))))))))
set_option maxHeartbeats 4000000 in
set_option maxRecDepth 100000 in
theorem k_X6_now (l : Launch) (G : GG) (a : Nat → Nat) (σ : Mem) (hj : INJ nM a) (x1 : Int32) (q : Int32 × Mem) (h : f_X6_now x1 σ = some q) : Met l yX6_now (Cond.code yX6_now cX6_now 2 (some .int) :: TB) ({ frames := 4, cells := 0, slots := 0, locals := 86 } : Room) (PA G kM nM a σ [.ref (a 0), .int x1]) (QI G kM nM a q) 0 0 (AW nM a) := by
  refine M_ofW (by decide) hj kM_lt (Nat.le_of_ble_eq_true rfl) (fun p e s m below meth c ls C0 hb hml hr hlk hP hS hl => ?_)
  have C0 : CT p s _ m RX6 G kM nM a := C0
  have hx := C0.1
  have hts := C0.2.1
  have hown := C0.2.2.1
  have hl : lv_has ls 2 [(0, .ref (a 0)), (1, .int x1)] := hl
  unfold f_X6_now at h
  refine lv_iload_n hx hb dX6_now_0 rfl (lv_at hl 1 rfl) ?_
  by_cases c_1 : x1 = 0
  · rw [if_pos c_1] at h
    refine lv_tableIn (off := 43) (tgt := 44) hx hb dX6_now_1 (by rw [c_1]; decide) (by rw [c_1]; decide) (by rw [c_1]; rfl) (by decide) ?_
    refine lv_aload_n hx hb dX6_now_44 rfl (lv_at hl 0 rfl) ?_
    refine gf_X6_7 (o := 0) (o2 := 1) C0 hb hP (rfl : kM 0 = 6) rfl dX6_now_45 ?_
    refine lv_iconst (v := 0) hx hb dX6_now_48 (by decide) ?_
    refine m_iald (o := 1) (N := 74) (i := 0) (j := 0) C0 hb hP (rfl : kM 1 = 100 + 74) (by decide) (show vp_in 0 74 by unfold vp_in; decide) (by decide) dX6_now_49 ?_
    exact m_ri hx hb hr hlk hP hS (Option.some.inj h) dX6_now_50
  · rw [if_neg c_1] at h
    by_cases c_2 : x1 = 1
    · rw [if_pos c_2] at h
      refine lv_tableIn (off := 50) (tgt := 51) hx hb dX6_now_1 (by rw [c_2]; decide) (by rw [c_2]; decide) (by rw [c_2]; rfl) (by decide) ?_
      refine lv_aload_n hx hb dX6_now_51 rfl (lv_at hl 0 rfl) ?_
      obtain ⟨q_3, hq_4, h⟩ := bd_s h
      refine m_rVi (As := []) (rest := []) (o := 0) (ci := 6) C0 hb hml hl.1 wm_X6_147 md_X6_levels (k_X6_levels l G a σ hj q_3 hq_4) rfl rfl ⟨(Nat.le_of_ble_eq_true rfl), (Nat.le_of_ble_eq_true rfl)⟩ hP hS (rfl : kM 0 = 6) (by decide) rfl rfl rfl (Nat.le_of_ble_eq_true rfl) dX6_now_52 ?_
      exact m_ri hx hb hr hlk hP hS (Option.some.inj h) dX6_now_55
    · rw [if_neg c_2] at h
      by_cases c_5 : x1 = 2
      · rw [if_pos c_5] at h
        refine lv_tableIn (off := 55) (tgt := 56) hx hb dX6_now_1 (by rw [c_5]; decide) (by rw [c_5]; decide) (by rw [c_5]; rfl) (by decide) ?_
        refine lv_aload_n hx hb dX6_now_56 rfl (lv_at hl 0 rfl) ?_
        refine gf_X6_7 (o := 0) (o2 := 1) C0 hb hP (rfl : kM 0 = 6) rfl dX6_now_57 ?_
        refine lv_iconst (v := 2) hx hb dX6_now_60 (by decide) ?_
        refine m_iald (o := 1) (N := 74) (i := 2) (j := 2) C0 hb hP (rfl : kM 1 = 100 + 74) (by decide) (show vp_in 2 74 by unfold vp_in; decide) (by decide) dX6_now_61 ?_
        exact m_ri hx hb hr hlk hP hS (Option.some.inj h) dX6_now_62
      · rw [if_neg c_5] at h
        by_cases c_6 : x1 = 3
        · rw [if_pos c_6] at h
          refine lv_tableIn (off := 62) (tgt := 63) hx hb dX6_now_1 (by rw [c_6]; decide) (by rw [c_6]; decide) (by rw [c_6]; rfl) (by decide) ?_
          refine lv_aload_n hx hb dX6_now_63 rfl (lv_at hl 0 rfl) ?_
          obtain ⟨q_7, hq_8, h⟩ := bd_s h
          refine m_rVi (As := []) (rest := []) (o := 0) (ci := 6) C0 hb hml hl.1 wm_X6_144 md_X6_knowing (k_X6_knowing l G a σ hj q_7 hq_8) rfl rfl ⟨(Nat.le_of_ble_eq_true rfl), (Nat.le_of_ble_eq_true rfl)⟩ hP hS (rfl : kM 0 = 6) (by decide) rfl rfl rfl (Nat.le_of_ble_eq_true rfl) dX6_now_64 ?_
          exact m_ri hx hb hr hlk hP hS (Option.some.inj h) dX6_now_67
        · rw [if_neg c_6] at h
          by_cases c_9 : x1 = 4
          · rw [if_pos c_9] at h
            refine lv_tableIn (off := 67) (tgt := 68) hx hb dX6_now_1 (by rw [c_9]; decide) (by rw [c_9]; decide) (by rw [c_9]; rfl) (by decide) ?_
            refine lv_aload_n hx hb dX6_now_68 rfl (lv_at hl 0 rfl) ?_
            obtain ⟨q_10, hq_11, h⟩ := bd_s h
            refine m_rVi (As := []) (rest := []) (o := 0) (ci := 6) C0 hb hml hl.1 wm_X6_150 md_X6_wanting (k_X6_wanting l G a σ hj q_10 hq_11) rfl rfl ⟨(Nat.le_of_ble_eq_true rfl), (Nat.le_of_ble_eq_true rfl)⟩ hP hS (rfl : kM 0 = 6) (by decide) rfl rfl rfl (Nat.le_of_ble_eq_true rfl) dX6_now_69 ?_
            exact m_ri hx hb hr hlk hP hS (Option.some.inj h) dX6_now_72
          · rw [if_neg c_9] at h
            by_cases c_12 : x1 = 5
            · rw [if_pos c_12] at h
              refine lv_tableIn (off := 72) (tgt := 73) hx hb dX6_now_1 (by rw [c_12]; decide) (by rw [c_12]; decide) (by rw [c_12]; rfl) (by decide) ?_
              refine lv_aload_n hx hb dX6_now_73 rfl (lv_at hl 0 rfl) ?_
              obtain ⟨q_13, hq_14, h⟩ := bd_s h
              refine m_rVi (As := []) (rest := []) (o := 0) (ci := 6) C0 hb hml hl.1 wm_X6_153 md_X6_beliefs (k_X6_beliefs l G a σ hj q_13 hq_14) rfl rfl ⟨(Nat.le_of_ble_eq_true rfl), (Nat.le_of_ble_eq_true rfl)⟩ hP hS (rfl : kM 0 = 6) (by decide) rfl rfl rfl (Nat.le_of_ble_eq_true rfl) dX6_now_74 ?_
              exact m_ri hx hb hr hlk hP hS (Option.some.inj h) dX6_now_77
            · rw [if_neg c_12] at h
              by_cases c_15 : x1 = 6
              · rw [if_pos c_15] at h
                refine lv_tableIn (off := 77) (tgt := 78) hx hb dX6_now_1 (by rw [c_15]; decide) (by rw [c_15]; decide) (by rw [c_15]; rfl) (by decide) ?_
                refine lv_aload_n hx hb dX6_now_78 rfl (lv_at hl 0 rfl) ?_
                obtain ⟨q_16, hq_17, h⟩ := bd_s h
                refine m_rVi (As := []) (rest := []) (o := 0) (ci := 6) C0 hb hml hl.1 wm_X6_85 md_X6_openings (k_X6_openings l G a σ hj q_16 hq_17) rfl rfl ⟨(Nat.le_of_ble_eq_true rfl), (Nat.le_of_ble_eq_true rfl)⟩ hP hS (rfl : kM 0 = 6) (by decide) rfl rfl rfl (Nat.le_of_ble_eq_true rfl) dX6_now_79 ?_
                exact m_ri hx hb hr hlk hP hS (Option.some.inj h) dX6_now_82
              · rw [if_neg c_15] at h
                refine lv_tableOut (tgt := 83) hx hb dX6_now_1 (by have t0 := lv_neT c_1 (a := 0) rfl; have t1 := lv_neT c_2 (a := 1) rfl; have t2 := lv_neT c_5 (a := 2) rfl; have t3 := lv_neT c_6 (a := 3) rfl; have t4 := lv_neT c_9 (a := 4) rfl; have t5 := lv_neT c_12 (a := 5) rfl; have t6 := lv_neT c_15 (a := 6) rfl; omega) (by decide) ?_
                refine lv_aload_n hx hb dX6_now_83 rfl (lv_at hl 0 rfl) ?_
                refine lv_ldc hx hb hown (hts _ wk_X6_46) dX6_now_84 ?_
                obtain ⟨q_18, hq_19, h⟩ := bd_s h
                refine m_cVi (As := [.int (-1000001)]) (rest := []) (o := 0) (ci := 6) C0 hb hml hl.1 wm_X6_75 md_X6_finds (k_X6_finds l G a σ hj (-1000001) q_18 hq_19) rfl rfl ⟨(Nat.le_of_ble_eq_true rfl), (Nat.le_of_ble_eq_true rfl)⟩ hP hS (rfl : kM 0 = 6) (by decide) rfl rfl rfl (Nat.le_of_ble_eq_true rfl) dX6_now_86 (fun H locs hP hS => ?_)
                exact m_ri hx hb hr hlk hP hS (Option.some.inj h) dX6_now_89
def f_X6_laysAside_B2  (rec2 : Int32 → Mem → Option (Mem)) (x1_1 : Int32) (σ_2 : Mem) : Option (Mem) := (if 74 ≤ x1_1 then some σ_2 else (chk x1_1 74 (chk x1_1 74 (rec2 (x1_1 + 1) (mst σ_2 4 x1_1.toNatClampNeg (σ_2 1 x1_1.toNatClampNeg))))))
def f_X6_laysAside (σ : Mem) : Option (Mem) := (it2 f_X6_laysAside_B2 FU 0 σ)
set_option maxHeartbeats 4000000 in
set_option maxRecDepth 100000 in
theorem k_X6_laysAside (l : Launch) (G : GG) (a : Nat → Nat) (σ : Mem) (hj : INJ nM a)  (q : Mem) (h : f_X6_laysAside σ = some q) : Met l yX6_laysAside (Cond.code yX6_laysAside cX6_laysAside 2 none :: TB) ({ frames := 0, cells := 0, slots := 0, locals := 0 } : Room) (PA G kM nM a σ [.ref (a 0)]) (QV G kM nM a q) 0 0 (AW nM a) := by
  refine M_ofW (by decide) hj kM_lt (Nat.le_of_ble_eq_true rfl) (fun p e s m below meth c ls C0 hb hml hr hlk hP hS hl => ?_)
  have C0 : CT p s _ m RX6 G kM nM a := C0
  have hx := C0.1
  have hts := C0.2.1
  have hown := C0.2.2.1
  have hl : lv_has ls 2 [(0, .ref (a 0))] := hl
  unfold f_X6_laysAside at h
  refine lv_iconst (v := 0) hx hb dX6_laysAside_0 (by decide) ?_
  refine lv_istore_n (lv' := [(1, .int 0), (0, .ref (a 0))]) hx hb dX6_laysAside_1 rfl hl (by decide) rfl (fun ls hl => ?_)
  have L_6 : ∀ (fu2 : Nat) (x1_1 : Int32) (σ_2 : Mem) (H : Heap) (locs : List Loc) (ls : Array Slot), it2 f_X6_laysAside_B2 fu2 x1_1 σ_2 = some q → HP G kM nM a σ_2 H → va_S (AW nM a) s.heap H locs → lv_has ls 2 [(1, .int x1_1), (0, .ref (a 0))] → W p l e ({ frames := 0, cells := 0, slots := 0, locals := 0 } : Room) s m ([.ref (a 0)] : List Value).toArray below meth c H locs 0 0 (MQ below (QV G kM nM a q) ([.ref (a 0)] : List Value).toArray s 0 0 (AW nM a)) (F0 m 2 ls []) := by
    intro fu2
    induction fu2 with
    | zero =>
      intro x1_1 σ_2 H locs ls h
      cases h
    | succ fu2 ih2 =>
      intro x1_1 σ_2 H locs ls h hP hS hl
      replace h : f_X6_laysAside_B2 (it2 f_X6_laysAside_B2 fu2) x1_1 σ_2 = some q := h
      generalize it2 f_X6_laysAside_B2 fu2 = rec2 at h ih2
      unfold f_X6_laysAside_B2 at h
      refine lv_iload_n hx hb dX6_laysAside_2 rfl (lv_at hl 0 rfl) ?_
      refine lv_bipush (v := 74) hx hb dX6_laysAside_3 (by decide) ?_
      refine lv_icmp_ge (tgt := 26) hx hb dX6_laysAside_5 (by decide) (fun (c_3 : 74 ≤ x1_1) => ?_) (fun (c_3 : ¬ 74 ≤ x1_1) => ?_)
      · rw [if_pos c_3] at h
        exact m_rv hx hb hr hlk hP hS (Option.some.inj h) dX6_laysAside_26
      · rw [if_neg c_3] at h
        refine lv_aload_n hx hb dX6_laysAside_8 rfl (lv_at hl 1 rfl) ?_
        refine gf_X6_19 (o := 0) (o2 := 4) C0 hb hP (rfl : kM 0 = 6) rfl dX6_laysAside_9 ?_
        refine lv_iload_n hx hb dX6_laysAside_12 rfl (lv_at hl 0 rfl) ?_
        refine lv_aload_n hx hb dX6_laysAside_13 rfl (lv_at hl 1 rfl) ?_
        refine gf_X6_7 (o := 0) (o2 := 1) C0 hb hP (rfl : kM 0 = 6) rfl dX6_laysAside_14 ?_
        refine lv_iload_n hx hb dX6_laysAside_17 rfl (lv_at hl 0 rfl) ?_
        obtain ⟨hi_4, h⟩ := chk_s h
        refine m_iald (o := 1) (N := 74) (i := x1_1) (j := x1_1.toNatClampNeg) C0 hb hP (rfl : kM 1 = 100 + 74) (by decide) hi_4 rfl dX6_laysAside_18 ?_
        obtain ⟨hi_5, h⟩ := chk_s h
        refine m_iast (o := 4) (N := 74) (i := x1_1) (j := x1_1.toNatClampNeg) C0 hb hP hS (rfl : kM 4 = 100 + 74) (by decide) hi_5 rfl dX6_laysAside_19 (fun H locs hP hS => ?_)
        refine lv_iinc (v := x1_1 + 1) (lv' := [(1, .int (x1_1 + 1)), (0, .ref (a 0))]) hx hb dX6_laysAside_20 hl (k := 0) rfl rfl (by decide) rfl (fun ls hl => ?_)
        refine lv_goto (tgt := 2) hx hb dX6_laysAside_23 (by decide) ?_
        exact ih2 (x1_1 + 1) (mst σ_2 4 x1_1.toNatClampNeg (σ_2 1 x1_1.toNatClampNeg)) _ _ _ h hP hS (lv_sub hl [0, 1] rfl)
  exact L_6 FU 0 σ _ _ _ h hP hS (lv_sub hl [0, 1] rfl)

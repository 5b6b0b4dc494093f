def f_X2_become_B13 (b : Nat) (c1 : Nat) (rec13 : Int32 → Mem → Option (Mem)) (x2_1 : Int32) (σ_2 : Mem) : Option (Mem) := (if (σ_2 c1 3) ≤ x2_1 then some (mst (mst (mcp σ_2 (b + 6) (va_cpy (σ_2 (c1 + 6)) (σ_2 (b + 6)) 0 0 10)) b 3 ((mcp σ_2 (b + 6) (va_cpy (σ_2 (c1 + 6)) (σ_2 (b + 6)) 0 0 10)) c1 3)) b 4 ((mst (mcp σ_2 (b + 6) (va_cpy (σ_2 (c1 + 6)) (σ_2 (b + 6)) 0 0 10)) b 3 ((mcp σ_2 (b + 6) (va_cpy (σ_2 (c1 + 6)) (σ_2 (b + 6)) 0 0 10)) c1 3)) c1 4)) else (chk x2_1 8 (chk x2_1 8 (rec13 (x2_1 + 1) (f_X3_become (b + 7 + x2_1.toNatClampNeg) (c1 + 7 + x2_1.toNatClampNeg) σ_2)))))
def f_X2_become (b : Nat) (c1 : Nat) (σ : Mem) : Option (Mem) := (it2 (f_X2_become_B13 b c1) FU 0 (f_X4_become (b + 1) (c1 + 1) σ))
set_option maxHeartbeats 4000000 in
set_option maxRecDepth 100000 in
theorem k_X2_become (l : Launch) (G : GG) (a : Nat → Nat) (σ : Mem) (hj : INJ nR a) (b : Nat) (hb0 : isV b) (c1 : Nat) (hk1 : isV c1) (q : Mem) (h : f_X2_become b c1 σ = some q) : Met l yX2_become (Cond.code yX2_become cX2_become 3 none :: TB) ({ frames := 2, cells := 0, slots := 0, locals := 47 } : Room) (PA G kR nR a σ [.ref (a b), .ref (a c1)]) (QV G kR nR a q) 0 0 (AW nR a) := by
  refine M_ofW (by decide) hj kR_lt (Nat.le_of_ble_eq_true rfl) (fun p e s m below meth c ls C0 hb hml hr hlk hP hS hl => ?_)
  have C0 : CT p s _ m RX2 G kR nR a := C0
  have hx := C0.1
  have hts := C0.2.1
  have hown := C0.2.2.1
  have hl : lv_has ls 3 [(0, .ref (a b)), (1, .ref (a c1))] := hl
  unfold f_X2_become at h
  refine lv_aload_n hx hb dX2_become_0 rfl (lv_at hl 0 rfl) ?_
  refine gf_X2_12 (o := b) (o2 := (b + 1)) C0 hb hP (isV_k hb0) rfl dX2_become_1 ?_
  refine lv_aload_n hx hb dX2_become_4 rfl (lv_at hl 1 rfl) ?_
  refine gf_X2_12 (o := c1) (o2 := (c1 + 1)) C0 hb hP (isV_k hk1) rfl dX2_become_5 ?_
  refine m_cVv (As := [.ref (a (c1 + 1))]) (rest := []) (o := (b + 1)) (ci := 4) C0 hb hml hl.1 wm_X2_36 md_X4_become (k_X4_become l G a σ hj (b + 1) (isV_w hb0) (c1 + 1) (isV_w hk1)) rfl rfl ⟨(Nat.le_of_ble_eq_true rfl), (Nat.le_of_ble_eq_true rfl)⟩ hP hS (isW_k (isV_w hb0)) (by decide) rfl rfl rfl (Nat.le_of_ble_eq_true rfl) dX2_become_8 (fun H locs hP hS => ?_)
  refine lv_iconst (v := 0) hx hb dX2_become_11 (by decide) ?_
  refine lv_istore_n (lv' := [(2, .int 0), (0, .ref (a b)), (1, .ref (a c1))]) hx hb dX2_become_12 rfl hl (by decide) rfl (fun ls hl => ?_)
  have L_6 : ∀ (fu13 : Nat) (x2_1 : Int32) (σ_2 : Mem) (H : Heap) (locs : List Loc) (ls : Array Slot), it2 (f_X2_become_B13 b c1) fu13 x2_1 σ_2 = some q → HP G kR nR a σ_2 H → va_S (AW nR a) s.heap H locs → lv_has ls 3 [(2, .int x2_1), (0, .ref (a b)), (1, .ref (a c1))] → W p l e ({ frames := 2, cells := 0, slots := 0, locals := 47 } : Room) s m ([.ref (a b), .ref (a c1)] : List Value).toArray below meth c H locs 0 0 (MQ below (QV G kR nR a q) ([.ref (a b), .ref (a c1)] : List Value).toArray s 0 0 (AW nR a)) (F0 m 13 ls []) := by
    intro fu13
    induction fu13 with
    | zero =>
      intro x2_1 σ_2 H locs ls h
      cases h
    | succ fu13 ih13 =>
      intro x2_1 σ_2 H locs ls h hP hS hl
      replace h : (f_X2_become_B13 b c1) (it2 (f_X2_become_B13 b c1) fu13) x2_1 σ_2 = some q := h
      generalize it2 (f_X2_become_B13 b c1) fu13 = rec13 at h ih13
      unfold f_X2_become_B13 at h
      refine lv_iload_n hx hb dX2_become_13 rfl (lv_at hl 0 rfl) ?_
      refine lv_aload_n hx hb dX2_become_14 rfl (lv_at hl 2 rfl) ?_
      refine gf_X2_28 (o := c1) C0 hb hP (isV_k hk1) dX2_become_15 ?_
      refine lv_icmp_ge (tgt := 42) hx hb dX2_become_18 (by decide) (fun (c_3 : (σ_2 c1 3) ≤ x2_1) => ?_) (fun (c_3 : ¬ (σ_2 c1 3) ≤ x2_1) => ?_)
      · rw [if_pos c_3] at h
        refine lv_aload_n hx hb dX2_become_42 rfl (lv_at hl 2 rfl) ?_
        refine gf_X2_24 (o := c1) (o2 := (c1 + 6)) C0 hb hP (isV_k hk1) rfl dX2_become_43 ?_
        refine lv_iconst (v := 0) hx hb dX2_become_46 (by decide) ?_
        refine lv_aload_n hx hb dX2_become_47 rfl (lv_at hl 1 rfl) ?_
        refine gf_X2_24 (o := b) (o2 := (b + 6)) C0 hb hP (isV_k hb0) rfl dX2_become_48 ?_
        refine lv_iconst (v := 0) hx hb dX2_become_51 (by decide) ?_
        refine lv_bipush (v := 10) hx hb dX2_become_52 (by decide) ?_
        refine m_copy (o := (c1 + 6)) (o1 := (b + 6)) (N := 10) (N1 := 10) (sp := 0) (dp := 0) (z := 10) (sp' := 0) (dp' := 0) (z' := 10) (rest := []) C0 hb hml hl.1 wm_X2_43 hP hS (isV_s hk1) (by decide) (isV_s hb0) (by decide) ⟨by decide, by decide, by decide, by decide, by decide⟩ (by decide) (by decide) (by decide) (Nat.le_of_ble_eq_true rfl) (Nat.le_of_ble_eq_true rfl) dX2_become_54 (fun H locs hP hS => ?_)
        refine lv_aload_n hx hb dX2_become_57 rfl (lv_at hl 1 rfl) ?_
        refine lv_aload_n hx hb dX2_become_58 rfl (lv_at hl 2 rfl) ?_
        refine gf_X2_28 (o := c1) C0 hb hP (isV_k hk1) dX2_become_59 ?_
        refine pf_X2_28 (o := b) C0 hb hP hS (isV_k hb0) dX2_become_62 (fun H locs hP hS => ?_)
        refine lv_aload_n hx hb dX2_become_65 rfl (lv_at hl 1 rfl) ?_
        refine lv_aload_n hx hb dX2_become_66 rfl (lv_at hl 2 rfl) ?_
        refine gf_X2_32 (o := c1) C0 hb hP (isV_k hk1) dX2_become_67 ?_
        refine pf_X2_32 (o := b) C0 hb hP hS (isV_k hb0) dX2_become_70 (fun H locs hP hS => ?_)
        exact m_rv hx hb hr hlk hP hS (Option.some.inj h) dX2_become_73
      · rw [if_neg c_3] at h
        refine lv_aload_n hx hb dX2_become_21 rfl (lv_at hl 1 rfl) ?_
        refine gf_X2_20 (o := b) (o2 := (b + 5)) C0 hb hP (isV_k hb0) rfl dX2_become_22 ?_
        refine lv_iload_n hx hb dX2_become_25 rfl (lv_at hl 0 rfl) ?_
        obtain ⟨hi_4, h⟩ := chk_s h
        refine m_aldW (o := (b + 5)) (i := x2_1) (o2 := (b + 7 + x2_1.toNatClampNeg)) C0 hb hP (isV_a hb0) hi_4 rfl dX2_become_26 ?_
        refine lv_aload_n hx hb dX2_become_27 rfl (lv_at hl 2 rfl) ?_
        refine gf_X2_20 (o := c1) (o2 := (c1 + 5)) C0 hb hP (isV_k hk1) rfl dX2_become_28 ?_
        refine lv_iload_n hx hb dX2_become_31 rfl (lv_at hl 0 rfl) ?_
        obtain ⟨hi_5, h⟩ := chk_s h
        refine m_aldW (o := (c1 + 5)) (i := x2_1) (o2 := (c1 + 7 + x2_1.toNatClampNeg)) C0 hb hP (isV_a hk1) hi_5 rfl dX2_become_32 ?_
        refine m_cVv (As := [.ref (a (c1 + 7 + x2_1.toNatClampNeg))]) (rest := []) (o := (b + 7 + x2_1.toNatClampNeg)) (ci := 3) C0 hb hml hl.1 wm_X2_40 md_X3_become (k_X3_become l G a σ_2 hj (b + 7 + x2_1.toNatClampNeg) (isV_t hb0 (vp_lt hi_4)) (c1 + 7 + x2_1.toNatClampNeg) (isV_t hk1 (vp_lt hi_5))) rfl rfl ⟨(Nat.le_of_ble_eq_true rfl), (Nat.le_of_ble_eq_true rfl)⟩ hP hS (isV_t hb0 (vp_lt hi_4)) (by decide) rfl rfl rfl (Nat.le_of_ble_eq_true rfl) dX2_become_33 (fun H locs hP hS => ?_)
        refine lv_iinc (v := x2_1 + 1) (lv' := [(2, .int (x2_1 + 1)), (0, .ref (a b)), (1, .ref (a c1))]) hx hb dX2_become_36 hl (k := 0) rfl rfl (by decide) rfl (fun ls hl => ?_)
        refine lv_goto (tgt := 13) hx hb dX2_become_39 (by decide) ?_
        exact ih13 (x2_1 + 1) (f_X3_become (b + 7 + x2_1.toNatClampNeg) (c1 + 7 + x2_1.toNatClampNeg) σ_2) _ _ _ h hP hS (lv_sub hl [0, 1, 2] rfl)
  exact L_6 FU 0 (f_X4_become (b + 1) (c1 + 1) σ) _ _ _ h hP hS (lv_sub hl [0, 1, 2] rfl)
def f_X5_belief_J18 (x1 : Int32) (x2 : Int32) (x3 : Int32) (σ : Mem) : Option (Int32 × Mem) := (if (f_X5_outside x3 100) = 0 then ((f_X2_become 31 1 σ).bind fun q_5 => ((f_X2_pass 31 x3 q_5).bind fun q_7 => (chk x1 8 (if x2 = 3 then some (q_7 (38 + x1.toNatClampNeg) 3, q_7) else some (q_7 (38 + x1.toNatClampNeg) 4, q_7))))) else ((f_X5_finding (-1000001) σ).bind fun q_11 => some (q_11.1, q_11.2)))
def f_X5_belief (x1 : Int32) (x2 : Int32) (x3 : Int32) (σ : Mem) : Option (Int32 × Mem) := (if (f_X5_noWatcher x1 σ) = 0 then (if x2 = 3 then (f_X5_belief_J18 x1 x2 x3 σ) else (if x2 = 4 then (f_X5_belief_J18 x1 x2 x3 σ) else ((f_X5_finding (-1000001) σ).bind fun q_16 => some (q_16.1, q_16.2)))) else ((f_X5_finding (-1000001) σ).bind fun q_2 => some (q_2.1, q_2.2)))
set_option maxHeartbeats 4000000 in
set_option maxRecDepth 100000 in
theorem k_X5_belief (l : Launch) (G : GG) (a : Nat → Nat) (σ : Mem) (hj : INJ nR a) (x1 : Int32) (x2 : Int32) (x3 : Int32) (q : Int32 × Mem) (h : f_X5_belief x1 x2 x3 σ = some q) : Met l yX5_belief (Cond.code yX5_belief cX5_belief 5 (some .int) :: TB) ({ frames := 5, cells := 0, slots := 0, locals := 106 } : Room) (PA G kR nR a σ [.ref (a 0), .int x1, .int x2, .int x3]) (QI G kR nR a q) 0 0 (AW nR a) := by
  refine M_ofW (by decide) hj kR_lt (Nat.le_of_ble_eq_true rfl) (fun p e s m below meth c ls C0 hb hml hr hlk hP hS hl => ?_)
  have C0 : CT p s _ m RX5 G kR nR a := C0
  have hx := C0.1
  have hts := C0.2.1
  have hown := C0.2.2.1
  have hl : lv_has ls 5 [(0, .ref (a 0)), (1, .int x1), (2, .int x2), (3, .int x3)] := hl
  unfold f_X5_belief at h
  refine lv_aload_n hx hb dX5_belief_0 rfl (lv_at hl 0 rfl) ?_
  refine lv_iload_n hx hb dX5_belief_1 rfl (lv_at hl 1 rfl) ?_
  refine m_rVi (As := [.int x1]) (rest := []) (o := 0) (ci := 5) C0 hb hml hl.1 wm_X5_88 md_X5_noWatcher (k_X5_noWatcher l G a σ hj x1) rfl rfl ⟨(Nat.le_of_ble_eq_true rfl), (Nat.le_of_ble_eq_true rfl)⟩ hP hS (rfl : kR 0 = 5) (by decide) rfl rfl rfl (Nat.le_of_ble_eq_true rfl) dX5_belief_2 ?_
  refine lv_if_ne (tgt := 27) hx hb dX5_belief_5 (by decide) (fun (c_1 : ¬ (f_X5_noWatcher x1 σ) = 0) => ?_) (fun (c_1 : (f_X5_noWatcher x1 σ) = 0) => ?_)
  · rw [if_neg c_1] at h
    refine lv_aload_n hx hb dX5_belief_27 rfl (lv_at hl 0 rfl) ?_
    refine lv_ldc hx hb hown (hts _ wk_X5_54) dX5_belief_28 ?_
    obtain ⟨q_2, hq_3, h⟩ := bd_s h
    refine m_cVi (As := [.int (-1000001)]) (rest := []) (o := 0) (ci := 5) C0 hb hml hl.1 wm_X5_55 md_X5_finding (k_X5_finding l G a σ hj (-1000001) q_2 hq_3) rfl rfl ⟨(Nat.le_of_ble_eq_true rfl), (Nat.le_of_ble_eq_true rfl)⟩ hP hS (rfl : kR 0 = 5) (by decide) rfl rfl rfl (Nat.le_of_ble_eq_true rfl) dX5_belief_30 (fun H locs hP hS => ?_)
    exact m_ri hx hb hr hlk hP hS (Option.some.inj h) dX5_belief_33
  · rw [if_pos c_1] at h
    refine lv_iload_n hx hb dX5_belief_8 rfl (lv_at hl 2 rfl) ?_
    refine lv_iconst (v := 3) hx hb dX5_belief_9 (by decide) ?_
    have J_13 : ∀  (H : Heap) (locs : List Loc) (ls : Array Slot), f_X5_belief_J18 x1 x2 x3 σ = some q → HP G kR nR a σ H → va_S (AW nR a) s.heap H locs → lv_has ls 5 [(0, .ref (a 0)), (1, .int x1), (2, .int x2), (3, .int x3)] → W p l e ({ frames := 5, cells := 0, slots := 0, locals := 106 } : Room) s m ([.ref (a 0), .int x1, .int x2, .int x3] : List Value).toArray below meth c H locs 0 0 (MQ below (QI G kR nR a q) ([.ref (a 0), .int x1, .int x2, .int x3] : List Value).toArray s 0 0 (AW nR a)) (F0 m 18 ls []) := by
      intro  H locs ls h hP hS hl
      unfold f_X5_belief_J18 at h
      refine lv_iload_n hx hb dX5_belief_18 rfl (lv_at hl 3 rfl) ?_
      refine lv_bipush (v := 100) hx hb dX5_belief_19 (by decide) ?_
      refine m_pSi (As := [.int x3, .int 100]) (rest := []) C0.z hb hml hl.1 wm_X5_50 md_X5_outside (k_X5_outside l x3 100) rfl rfl ⟨(Nat.le_of_ble_eq_true rfl), (Nat.le_of_ble_eq_true rfl)⟩ rfl rfl (Nat.le_of_ble_eq_true rfl) dX5_belief_21 ?_
      refine lv_if_eq (tgt := 34) hx hb dX5_belief_24 (by decide) (fun (c_4 : (f_X5_outside x3 100) = 0) => ?_) (fun (c_4 : ¬ (f_X5_outside x3 100) = 0) => ?_)
      · rw [if_pos c_4] at h
        refine lv_aload_n hx hb dX5_belief_34 rfl (lv_at hl 0 rfl) ?_
        refine gf_X5_19 (o := 0) (o2 := 31) C0 hb hP (rfl : kR 0 = 5) rfl dX5_belief_35 ?_
        refine lv_aload_n hx hb dX5_belief_38 rfl (lv_at hl 0 rfl) ?_
        refine gf_X5_12 (o := 0) (o2 := 1) C0 hb hP (rfl : kR 0 = 5) rfl dX5_belief_39 ?_
        obtain ⟨q_5, hq_6, h⟩ := bd_s h
        refine m_cVv (As := [.ref (a 1)]) (rest := []) (o := 31) (ci := 2) C0 hb hml hl.1 wm_X5_159 md_X2_become (k_X2_become l G a σ hj 31 v31 1 v1 q_5 hq_6) rfl rfl ⟨(Nat.le_of_ble_eq_true rfl), (Nat.le_of_ble_eq_true rfl)⟩ hP hS (isV_k v31) (by decide) rfl rfl rfl (Nat.le_of_ble_eq_true rfl) dX5_belief_42 (fun H locs hP hS => ?_)
        refine lv_aload_n hx hb dX5_belief_45 rfl (lv_at hl 0 rfl) ?_
        refine gf_X5_19 (o := 0) (o2 := 31) C0 hb hP (rfl : kR 0 = 5) rfl dX5_belief_46 ?_
        refine lv_iload_n hx hb dX5_belief_49 rfl (lv_at hl 3 rfl) ?_
        obtain ⟨q_7, hq_8, h⟩ := bd_s h
        refine m_cVv (As := [.int x3]) (rest := []) (o := 31) (ci := 2) C0 hb hml hl.1 wm_X5_134 md_X2_pass (k_X2_pass l G a q_5 hj 31 v31 x3 q_7 hq_8) rfl rfl ⟨(Nat.le_of_ble_eq_true rfl), (Nat.le_of_ble_eq_true rfl)⟩ hP hS (isV_k v31) (by decide) rfl rfl rfl (Nat.le_of_ble_eq_true rfl) dX5_belief_50 (fun H locs hP hS => ?_)
        refine lv_aload_n hx hb dX5_belief_53 rfl (lv_at hl 0 rfl) ?_
        refine gf_X5_19 (o := 0) (o2 := 31) C0 hb hP (rfl : kR 0 = 5) rfl dX5_belief_54 ?_
        refine gf_X5_92 (o := 31) (o2 := 36) C0 hb hP (isV_k v31) rfl dX5_belief_57 ?_
        refine lv_iload_n hx hb dX5_belief_60 rfl (lv_at hl 1 rfl) ?_
        obtain ⟨hi_9, h⟩ := chk_s h
        refine m_aldW (o := 36) (i := x1) (o2 := (38 + x1.toNatClampNeg)) C0 hb hP (isV_a v31) hi_9 rfl dX5_belief_61 ?_
        refine lv_astore (lv' := [(4, .ref (a (38 + x1.toNatClampNeg))), (0, .ref (a 0)), (1, .int x1), (2, .int x2), (3, .int x3)]) hx hb dX5_belief_62 hl (by decide) rfl (fun ls hl => ?_)
        refine lv_iload_n hx hb dX5_belief_64 rfl (lv_at hl 3 rfl) ?_
        refine lv_iconst (v := 3) hx hb dX5_belief_65 (by decide) ?_
        refine lv_icmp_ne (tgt := 77) hx hb dX5_belief_66 (by decide) (fun (c_10 : ¬ x2 = 3) => ?_) (fun (c_10 : x2 = 3) => ?_)
        · rw [if_neg c_10] at h
          refine lv_aload hx hb dX5_belief_77 (lv_at hl 0 rfl) ?_
          refine gf_X5_111 (o := (38 + x1.toNatClampNeg)) C0 hb hP (isV_t v31 (vp_lt hi_9)) dX5_belief_79 ?_
          exact m_ri hx hb hr hlk hP hS (Option.some.inj h) dX5_belief_82
        · rw [if_pos c_10] at h
          refine lv_aload hx hb dX5_belief_69 (lv_at hl 0 rfl) ?_
          refine gf_X5_108 (o := (38 + x1.toNatClampNeg)) C0 hb hP (isV_t v31 (vp_lt hi_9)) dX5_belief_71 ?_
          refine lv_goto (tgt := 82) hx hb dX5_belief_74 (by decide) ?_
          exact m_ri hx hb hr hlk hP hS (Option.some.inj h) dX5_belief_82
      · rw [if_neg c_4] at h
        refine lv_aload_n hx hb dX5_belief_27 rfl (lv_at hl 0 rfl) ?_
        refine lv_ldc hx hb hown (hts _ wk_X5_54) dX5_belief_28 ?_
        obtain ⟨q_11, hq_12, h⟩ := bd_s h
        refine m_cVi (As := [.int (-1000001)]) (rest := []) (o := 0) (ci := 5) C0 hb hml hl.1 wm_X5_55 md_X5_finding (k_X5_finding l G a σ hj (-1000001) q_11 hq_12) rfl rfl ⟨(Nat.le_of_ble_eq_true rfl), (Nat.le_of_ble_eq_true rfl)⟩ hP hS (rfl : kR 0 = 5) (by decide) rfl rfl rfl (Nat.le_of_ble_eq_true rfl) dX5_belief_30 (fun H locs hP hS => ?_)
        exact m_ri hx hb hr hlk hP hS (Option.some.inj h) dX5_belief_33
    refine lv_icmp_eq (tgt := 18) hx hb dX5_belief_10 (by decide) (fun (c_14 : x2 = 3) => ?_) (fun (c_14 : ¬ x2 = 3) => ?_)
    · rw [if_pos c_14] at h
      exact J_13  _ _ _ h hP hS (lv_sub hl [0, 1, 2, 3] rfl)
    · rw [if_neg c_14] at h
      refine lv_iload_n hx hb dX5_belief_13 rfl (lv_at hl 2 rfl) ?_
      refine lv_iconst (v := 4) hx hb dX5_belief_14 (by decide) ?_
      refine lv_icmp_ne (tgt := 27) hx hb dX5_belief_15 (by decide) (fun (c_15 : ¬ x2 = 4) => ?_) (fun (c_15 : x2 = 4) => ?_)
      · rw [if_neg c_15] at h
        refine lv_aload_n hx hb dX5_belief_27 rfl (lv_at hl 0 rfl) ?_
        refine lv_ldc hx hb hown (hts _ wk_X5_54) dX5_belief_28 ?_
        obtain ⟨q_16, hq_17, h⟩ := bd_s h
        refine m_cVi (As := [.int (-1000001)]) (rest := []) (o := 0) (ci := 5) C0 hb hml hl.1 wm_X5_55 md_X5_finding (k_X5_finding l G a σ hj (-1000001) q_16 hq_17) rfl rfl ⟨(Nat.le_of_ble_eq_true rfl), (Nat.le_of_ble_eq_true rfl)⟩ hP hS (rfl : kR 0 = 5) (by decide) rfl rfl rfl (Nat.le_of_ble_eq_true rfl) dX5_belief_30 (fun H locs hP hS => ?_)
        exact m_ri hx hb hr hlk hP hS (Option.some.inj h) dX5_belief_33
      · rw [if_pos c_15] at h
        exact J_13  _ _ _ h hP hS (lv_sub hl [0, 1, 2, 3] rfl)
def f_X5_when_B28 (x1 : Int32) (rec28 : Int32 → Mem → Option (Int32 × Mem)) (x2_4 : Int32) (σ_5 : Mem) : Option (Int32 × Mem) := (if 200 < x2_4 then ((f_X5_finding (-1000004) σ_5).bind fun q_7 => some (q_7.1, q_7.2)) else (chk x1 8 (if (f_X3_knows (38 + x1.toNatClampNeg) σ_5) = 0 then ((f_X2_pass 31 1 σ_5).bind fun q_11 => (rec28 (x2_4 + 1) q_11)) else some (x2_4, σ_5))))
def f_X5_when (x1 : Int32) (σ : Mem) : Option (Int32 × Mem) := (if (f_X5_noWatcher x1 σ) = 0 then ((f_X2_become 31 1 σ).bind fun q_2 => (it2 (f_X5_when_B28 x1) FU 0 q_2)) else ((f_X5_finding (-1000001) σ).bind fun q_14 => some (q_14.1, q_14.2)))
set_option maxHeartbeats 4000000 in
set_option maxRecDepth 100000 in
theorem k_X5_when (l : Launch) (G : GG) (a : Nat → Nat) (σ : Mem) (hj : INJ nR a) (x1 : Int32) (q : Int32 × Mem) (h : f_X5_when x1 σ = some q) : Met l yX5_when (Cond.code yX5_when cX5_when 3 (some .int) :: TB) ({ frames := 5, cells := 0, slots := 0, locals := 106 } : Room) (PA G kR nR a σ [.ref (a 0), .int x1]) (QI G kR nR a q) 0 0 (AW nR a) := by
  refine M_ofW (by decide) hj kR_lt (Nat.le_of_ble_eq_true rfl) (fun p e s m below meth c ls C0 hb hml hr hlk hP hS hl => ?_)
  have C0 : CT p s _ m RX5 G kR nR a := C0
  have hx := C0.1
  have hts := C0.2.1
  have hown := C0.2.2.1
  have hl : lv_has ls 3 [(0, .ref (a 0)), (1, .int x1)] := hl
  unfold f_X5_when at h
  refine lv_aload_n hx hb dX5_when_0 rfl (lv_at hl 0 rfl) ?_
  refine lv_iload_n hx hb dX5_when_1 rfl (lv_at hl 1 rfl) ?_
  refine m_rVi (As := [.int x1]) (rest := []) (o := 0) (ci := 5) C0 hb hml hl.1 wm_X5_88 md_X5_noWatcher (k_X5_noWatcher l G a σ hj x1) rfl rfl ⟨(Nat.le_of_ble_eq_true rfl), (Nat.le_of_ble_eq_true rfl)⟩ hP hS (rfl : kR 0 = 5) (by decide) rfl rfl rfl (Nat.le_of_ble_eq_true rfl) dX5_when_2 ?_
  refine lv_if_eq (tgt := 15) hx hb dX5_when_5 (by decide) (fun (c_1 : (f_X5_noWatcher x1 σ) = 0) => ?_) (fun (c_1 : ¬ (f_X5_noWatcher x1 σ) = 0) => ?_)
  · rw [if_pos c_1] at h
    refine lv_aload_n hx hb dX5_when_15 rfl (lv_at hl 0 rfl) ?_
    refine gf_X5_19 (o := 0) (o2 := 31) C0 hb hP (rfl : kR 0 = 5) rfl dX5_when_16 ?_
    refine lv_aload_n hx hb dX5_when_19 rfl (lv_at hl 0 rfl) ?_
    refine gf_X5_12 (o := 0) (o2 := 1) C0 hb hP (rfl : kR 0 = 5) rfl dX5_when_20 ?_
    obtain ⟨q_2, hq_3, h⟩ := bd_s h
    refine m_cVv (As := [.ref (a 1)]) (rest := []) (o := 31) (ci := 2) C0 hb hml hl.1 wm_X5_159 md_X2_become (k_X2_become l G a σ hj 31 v31 1 v1 q_2 hq_3) rfl rfl ⟨(Nat.le_of_ble_eq_true rfl), (Nat.le_of_ble_eq_true rfl)⟩ hP hS (isV_k v31) (by decide) rfl rfl rfl (Nat.le_of_ble_eq_true rfl) dX5_when_23 (fun H locs hP hS => ?_)
    refine lv_iconst (v := 0) hx hb dX5_when_26 (by decide) ?_
    refine lv_istore_n (lv' := [(2, .int 0), (0, .ref (a 0)), (1, .int x1)]) hx hb dX5_when_27 rfl hl (by decide) rfl (fun ls hl => ?_)
    have L_13 : ∀ (fu28 : Nat) (x2_4 : Int32) (σ_5 : Mem) (H : Heap) (locs : List Loc) (ls : Array Slot), it2 (f_X5_when_B28 x1) fu28 x2_4 σ_5 = some q → HP G kR nR a σ_5 H → va_S (AW nR a) s.heap H locs → lv_has ls 3 [(2, .int x2_4), (0, .ref (a 0)), (1, .int x1)] → W p l e ({ frames := 5, cells := 0, slots := 0, locals := 106 } : Room) s m ([.ref (a 0), .int x1] : List Value).toArray below meth c H locs 0 0 (MQ below (QI G kR nR a q) ([.ref (a 0), .int x1] : List Value).toArray s 0 0 (AW nR a)) (F0 m 28 ls []) := by
      intro fu28
      induction fu28 with
      | zero =>
        intro x2_4 σ_5 H locs ls h
        cases h
      | succ fu28 ih28 =>
        intro x2_4 σ_5 H locs ls h hP hS hl
        replace h : (f_X5_when_B28 x1) (it2 (f_X5_when_B28 x1) fu28) x2_4 σ_5 = some q := h
        generalize it2 (f_X5_when_B28 x1) fu28 = rec28 at h ih28
        unfold f_X5_when_B28 at h
        refine lv_iload_n hx hb dX5_when_28 rfl (lv_at hl 0 rfl) ?_
        refine lv_sipush (v := 200) hx hb dX5_when_29 (by decide) ?_
        refine lv_icmp_gt (tgt := 66) hx hb dX5_when_32 (by decide) (fun (c_6 : 200 < x2_4) => ?_) (fun (c_6 : ¬ 200 < x2_4) => ?_)
        · rw [if_pos c_6] at h
          refine lv_aload_n hx hb dX5_when_66 rfl (lv_at hl 1 rfl) ?_
          refine lv_ldc hx hb hown (hts _ wk_X5_166) dX5_when_67 ?_
          obtain ⟨q_7, hq_8, h⟩ := bd_s h
          refine m_cVi (As := [.int (-1000004)]) (rest := []) (o := 0) (ci := 5) C0 hb hml hl.1 wm_X5_55 md_X5_finding (k_X5_finding l G a σ_5 hj (-1000004) q_7 hq_8) rfl rfl ⟨(Nat.le_of_ble_eq_true rfl), (Nat.le_of_ble_eq_true rfl)⟩ hP hS (rfl : kR 0 = 5) (by decide) rfl rfl rfl (Nat.le_of_ble_eq_true rfl) dX5_when_69 (fun H locs hP hS => ?_)
          exact m_ri hx hb hr hlk hP hS (Option.some.inj h) dX5_when_72
        · rw [if_neg c_6] at h
          refine lv_aload_n hx hb dX5_when_35 rfl (lv_at hl 1 rfl) ?_
          refine gf_X5_19 (o := 0) (o2 := 31) C0 hb hP (rfl : kR 0 = 5) rfl dX5_when_36 ?_
          refine gf_X5_92 (o := 31) (o2 := 36) C0 hb hP (isV_k v31) rfl dX5_when_39 ?_
          refine lv_iload_n hx hb dX5_when_42 rfl (lv_at hl 2 rfl) ?_
          obtain ⟨hi_9, h⟩ := chk_s h
          refine m_aldW (o := 36) (i := x1) (o2 := (38 + x1.toNatClampNeg)) C0 hb hP (isV_a v31) hi_9 rfl dX5_when_43 ?_
          refine m_rVi (As := []) (rest := []) (o := (38 + x1.toNatClampNeg)) (ci := 3) C0 hb hml hl.1 wm_X5_163 md_X3_knows (k_X3_knows l G a σ_5 hj (38 + x1.toNatClampNeg) (isV_t v31 (vp_lt hi_9))) rfl rfl ⟨(Nat.le_of_ble_eq_true rfl), (Nat.le_of_ble_eq_true rfl)⟩ hP hS (isV_t v31 (vp_lt hi_9)) (by decide) rfl rfl rfl (Nat.le_of_ble_eq_true rfl) dX5_when_44 ?_
          refine lv_if_eq (tgt := 52) hx hb dX5_when_47 (by decide) (fun (c_10 : (f_X3_knows (38 + x1.toNatClampNeg) σ_5) = 0) => ?_) (fun (c_10 : ¬ (f_X3_knows (38 + x1.toNatClampNeg) σ_5) = 0) => ?_)
          · rw [if_pos c_10] at h
            refine lv_aload_n hx hb dX5_when_52 rfl (lv_at hl 1 rfl) ?_
            refine gf_X5_19 (o := 0) (o2 := 31) C0 hb hP (rfl : kR 0 = 5) rfl dX5_when_53 ?_
            refine lv_iconst (v := 1) hx hb dX5_when_56 (by decide) ?_
            obtain ⟨q_11, hq_12, h⟩ := bd_s h
            refine m_cVv (As := [.int 1]) (rest := []) (o := 31) (ci := 2) C0 hb hml hl.1 wm_X5_134 md_X2_pass (k_X2_pass l G a σ_5 hj 31 v31 1 q_11 hq_12) rfl rfl ⟨(Nat.le_of_ble_eq_true rfl), (Nat.le_of_ble_eq_true rfl)⟩ hP hS (isV_k v31) (by decide) rfl rfl rfl (Nat.le_of_ble_eq_true rfl) dX5_when_57 (fun H locs hP hS => ?_)
            refine lv_iinc (v := x2_4 + 1) (lv' := [(2, .int (x2_4 + 1)), (0, .ref (a 0)), (1, .int x1)]) hx hb dX5_when_60 hl (k := 0) rfl rfl (by decide) rfl (fun ls hl => ?_)
            refine lv_goto (tgt := 28) hx hb dX5_when_63 (by decide) ?_
            exact ih28 (x2_4 + 1) q_11 _ _ _ h hP hS (lv_sub hl [0, 1, 2] rfl)
          · rw [if_neg c_10] at h
            refine lv_iload_n hx hb dX5_when_50 rfl (lv_at hl 0 rfl) ?_
            exact m_ri hx hb hr hlk hP hS (Option.some.inj h) dX5_when_51
    exact L_13 FU 0 q_2 _ _ _ h hP hS (lv_sub hl [0, 1, 2] rfl)
  · rw [if_neg c_1] at h
    refine lv_aload_n hx hb dX5_when_8 rfl (lv_at hl 0 rfl) ?_
    refine lv_ldc hx hb hown (hts _ wk_X5_54) dX5_when_9 ?_
    obtain ⟨q_14, hq_15, h⟩ := bd_s h
    refine m_cVi (As := [.int (-1000001)]) (rest := []) (o := 0) (ci := 5) C0 hb hml hl.1 wm_X5_55 md_X5_finding (k_X5_finding l G a σ hj (-1000001) q_14 hq_15) rfl rfl ⟨(Nat.le_of_ble_eq_true rfl), (Nat.le_of_ble_eq_true rfl)⟩ hP hS (rfl : kR 0 = 5) (by decide) rfl rfl rfl (Nat.le_of_ble_eq_true rfl) dX5_when_11 (fun H locs hP hS => ?_)
    exact m_ri hx hb hr hlk hP hS (Option.some.inj h) dX5_when_14
def f_X5_first_B13  (rec13 : Int32 → Mem → Option (Int32 × Mem)) (x1_3 : Int32) (σ_4 : Mem) : Option (Int32 × Mem) := (if 200 < x1_3 then ((f_X5_finding (-1000004) σ_4).bind fun q_6 => some (q_6.1, q_6.2)) else ((f_X2_knowing 31 σ_4).bind fun q_8 => (if q_8 = 0 then ((f_X2_pass 31 1 σ_4).bind fun q_11 => (rec13 (x1_3 + 1) q_11)) else some (f_J6_numberOfTrailingZeros_0f7a4 q_8, σ_4))))
def f_X5_first (σ : Mem) : Option (Int32 × Mem) := ((f_X2_become 31 1 σ).bind fun q_1 => (it2 f_X5_first_B13 FU 0 q_1))
set_option maxHeartbeats 4000000 in
set_option maxRecDepth 100000 in
theorem k_X5_first (l : Launch) (G : GG) (a : Nat → Nat) (σ : Mem) (hj : INJ nR a)  (q : Int32 × Mem) (h : f_X5_first σ = some q) : Met l yX5_first (Cond.code yX5_first cX5_first 3 (some .int) :: TB) ({ frames := 5, cells := 0, slots := 0, locals := 106 } : Room) (PA G kR nR a σ [.ref (a 0)]) (QI G kR nR a q) 0 0 (AW nR a) := by
  refine M_ofW (by decide) hj kR_lt (Nat.le_of_ble_eq_true rfl) (fun p e s m below meth c ls C0 hb hml hr hlk hP hS hl => ?_)
  have C0 : CT p s _ m RX5 G kR nR a := C0
  have hx := C0.1
  have hts := C0.2.1
  have hown := C0.2.2.1
  have hl : lv_has ls 3 [(0, .ref (a 0))] := hl
  unfold f_X5_first at h
  refine lv_aload_n hx hb dX5_first_0 rfl (lv_at hl 0 rfl) ?_
  refine gf_X5_19 (o := 0) (o2 := 31) C0 hb hP (rfl : kR 0 = 5) rfl dX5_first_1 ?_
  refine lv_aload_n hx hb dX5_first_4 rfl (lv_at hl 0 rfl) ?_
  refine gf_X5_12 (o := 0) (o2 := 1) C0 hb hP (rfl : kR 0 = 5) rfl dX5_first_5 ?_
  obtain ⟨q_1, hq_2, h⟩ := bd_s h
  refine m_cVv (As := [.ref (a 1)]) (rest := []) (o := 31) (ci := 2) C0 hb hml hl.1 wm_X5_159 md_X2_become (k_X2_become l G a σ hj 31 v31 1 v1 q_1 hq_2) rfl rfl ⟨(Nat.le_of_ble_eq_true rfl), (Nat.le_of_ble_eq_true rfl)⟩ hP hS (isV_k v31) (by decide) rfl rfl rfl (Nat.le_of_ble_eq_true rfl) dX5_first_8 (fun H locs hP hS => ?_)
  refine lv_iconst (v := 0) hx hb dX5_first_11 (by decide) ?_
  refine lv_istore_n (lv' := [(1, .int 0), (0, .ref (a 0))]) hx hb dX5_first_12 rfl hl (by decide) rfl (fun ls hl => ?_)
  have L_13 : ∀ (fu13 : Nat) (x1_3 : Int32) (σ_4 : Mem) (H : Heap) (locs : List Loc) (ls : Array Slot), it2 f_X5_first_B13 fu13 x1_3 σ_4 = some q → HP G kR nR a σ_4 H → va_S (AW nR a) s.heap H locs → lv_has ls 3 [(1, .int x1_3), (0, .ref (a 0))] → W p l e ({ frames := 5, cells := 0, slots := 0, locals := 106 } : Room) s m ([.ref (a 0)] : List Value).toArray below meth c H locs 0 0 (MQ below (QI G kR nR a q) ([.ref (a 0)] : List Value).toArray s 0 0 (AW nR a)) (F0 m 13 ls []) := by
    intro fu13
    induction fu13 with
    | zero =>
      intro x1_3 σ_4 H locs ls h
      cases h
    | succ fu13 ih13 =>
      intro x1_3 σ_4 H locs ls h hP hS hl
      replace h : f_X5_first_B13 (it2 f_X5_first_B13 fu13) x1_3 σ_4 = some q := h
      generalize it2 f_X5_first_B13 fu13 = rec13 at h ih13
      unfold f_X5_first_B13 at h
      refine lv_iload_n hx hb dX5_first_13 rfl (lv_at hl 0 rfl) ?_
      refine lv_sipush (v := 200) hx hb dX5_first_14 (by decide) ?_
      refine lv_icmp_gt (tgt := 51) hx hb dX5_first_17 (by decide) (fun (c_5 : 200 < x1_3) => ?_) (fun (c_5 : ¬ 200 < x1_3) => ?_)
      · rw [if_pos c_5] at h
        refine lv_aload_n hx hb dX5_first_51 rfl (lv_at hl 1 rfl) ?_
        refine lv_ldc hx hb hown (hts _ wk_X5_166) dX5_first_52 ?_
        obtain ⟨q_6, hq_7, h⟩ := bd_s h
        refine m_cVi (As := [.int (-1000004)]) (rest := []) (o := 0) (ci := 5) C0 hb hml hl.1 wm_X5_55 md_X5_finding (k_X5_finding l G a σ_4 hj (-1000004) q_6 hq_7) rfl rfl ⟨(Nat.le_of_ble_eq_true rfl), (Nat.le_of_ble_eq_true rfl)⟩ hP hS (rfl : kR 0 = 5) (by decide) rfl rfl rfl (Nat.le_of_ble_eq_true rfl) dX5_first_54 (fun H locs hP hS => ?_)
        exact m_ri hx hb hr hlk hP hS (Option.some.inj h) dX5_first_57
      · rw [if_neg c_5] at h
        refine lv_aload_n hx hb dX5_first_20 rfl (lv_at hl 1 rfl) ?_
        refine gf_X5_19 (o := 0) (o2 := 31) C0 hb hP (rfl : kR 0 = 5) rfl dX5_first_21 ?_
        obtain ⟨q_8, hq_9, h⟩ := bd_s h
        refine m_rVi (As := []) (rest := []) (o := 31) (ci := 2) C0 hb hml hl.1 wm_X5_137 md_X2_knowing (k_X2_knowing l G a σ_4 hj 31 v31 q_8 hq_9) rfl rfl ⟨(Nat.le_of_ble_eq_true rfl), (Nat.le_of_ble_eq_true rfl)⟩ hP hS (isV_k v31) (by decide) rfl rfl rfl (Nat.le_of_ble_eq_true rfl) dX5_first_24 ?_
        refine lv_istore_n (lv' := [(2, .int q_8), (1, .int x1_3), (0, .ref (a 0))]) hx hb dX5_first_27 rfl hl (by decide) rfl (fun ls hl => ?_)
        refine lv_iload_n hx hb dX5_first_28 rfl (lv_at hl 0 rfl) ?_
        refine lv_if_eq (tgt := 37) hx hb dX5_first_29 (by decide) (fun (c_10 : q_8 = 0) => ?_) (fun (c_10 : ¬ q_8 = 0) => ?_)
        · rw [if_pos c_10] at h
          refine lv_aload_n hx hb dX5_first_37 rfl (lv_at hl 2 rfl) ?_
          refine gf_X5_19 (o := 0) (o2 := 31) C0 hb hP (rfl : kR 0 = 5) rfl dX5_first_38 ?_
          refine lv_iconst (v := 1) hx hb dX5_first_41 (by decide) ?_
          obtain ⟨q_11, hq_12, h⟩ := bd_s h
          refine m_cVv (As := [.int 1]) (rest := []) (o := 31) (ci := 2) C0 hb hml hl.1 wm_X5_134 md_X2_pass (k_X2_pass l G a σ_4 hj 31 v31 1 q_11 hq_12) rfl rfl ⟨(Nat.le_of_ble_eq_true rfl), (Nat.le_of_ble_eq_true rfl)⟩ hP hS (isV_k v31) (by decide) rfl rfl rfl (Nat.le_of_ble_eq_true rfl) dX5_first_42 (fun H locs hP hS => ?_)
          refine lv_iinc (v := x1_3 + 1) (lv' := [(1, .int (x1_3 + 1)), (2, .int q_8), (0, .ref (a 0))]) hx hb dX5_first_45 hl (k := 1) rfl rfl (by decide) rfl (fun ls hl => ?_)
          refine lv_goto (tgt := 13) hx hb dX5_first_48 (by decide) ?_
          exact ih13 (x1_3 + 1) q_11 _ _ _ h hP hS (lv_sub hl [0, 2] rfl)
        · rw [if_neg c_10] at h
          refine lv_iload_n hx hb dX5_first_32 rfl (lv_at hl 0 rfl) ?_
          refine m_pSi (As := [.int q_8]) (rest := []) C0.z hb hml hl.1 wm_X5_167 md_J6_numberOfTrailingZeros_0f7a4 (k_J6_numberOfTrailingZeros_0f7a4 l q_8) rfl rfl ⟨(Nat.le_of_ble_eq_true rfl), (Nat.le_of_ble_eq_true rfl)⟩ rfl rfl (Nat.le_of_ble_eq_true rfl) dX5_first_33 ?_
          exact m_ri hx hb hr hlk hP hS (Option.some.inj h) dX5_first_36
  exact L_13 FU 0 q_1 _ _ _ h hP hS (lv_sub hl [0, 1] rfl)
def f_X5_reaches_B34 (x1 : Int32) (x2 : Int32) (rec34 : Int32 → Mem → Option (Int32 × Mem)) (x4_5 : Int32) (σ_6 : Mem) : Option (Int32 × Mem) := (if 200 < x4_5 then ((f_X5_finding (-1000004) σ_6).bind fun q_8 => some (q_8.1, q_8.2)) else (chk x1 12 (if (σ_6 33 x1.toNatClampNeg) < x2 then ((f_X4_run 32 1 σ_6).bind fun q_12 => (rec34 (x4_5 + 1) q_12)) else some (x4_5, σ_6))))
def f_X5_reaches (x1 : Int32) (x2 : Int32) (σ : Mem) : Option (Int32 × Mem) := (if (f_X5_outside x1 11) = 0 then (if (f_X5_outside x2 9999) = 0 then (it2 (f_X5_reaches_B34 x1 x2) FU 0 (f_X5_waterTried σ)) else ((f_X5_finding (-1000001) σ).bind fun q_15 => some (q_15.1, q_15.2))) else ((f_X5_finding (-1000001) σ).bind fun q_2 => some (q_2.1, q_2.2)))
set_option maxHeartbeats 4000000 in
set_option maxRecDepth 100000 in
theorem k_X5_reaches (l : Launch) (G : GG) (a : Nat → Nat) (σ : Mem) (hj : INJ nR a) (x1 : Int32) (x2 : Int32) (q : Int32 × Mem) (h : f_X5_reaches x1 x2 σ = some q) : Met l yX5_reaches (Cond.code yX5_reaches cX5_reaches 5 (some .int) :: TB) ({ frames := 3, cells := 0, slots := 0, locals := 71 } : Room) (PA G kR nR a σ [.ref (a 0), .int x1, .int x2]) (QI G kR nR a q) 0 0 (AW nR a) := by
  refine M_ofW (by decide) hj kR_lt (Nat.le_of_ble_eq_true rfl) (fun p e s m below meth c ls C0 hb hml hr hlk hP hS hl => ?_)
  have C0 : CT p s _ m RX5 G kR nR a := C0
  have hx := C0.1
  have hts := C0.2.1
  have hown := C0.2.2.1
  have hl : lv_has ls 5 [(0, .ref (a 0)), (1, .int x1), (2, .int x2)] := hl
  unfold f_X5_reaches at h
  refine lv_iload_n hx hb dX5_reaches_0 rfl (lv_at hl 1 rfl) ?_
  refine lv_bipush (v := 11) hx hb dX5_reaches_1 (by decide) ?_
  refine m_pSi (As := [.int x1, .int 11]) (rest := []) C0.z hb hml hl.1 wm_X5_50 md_X5_outside (k_X5_outside l x1 11) rfl rfl ⟨(Nat.le_of_ble_eq_true rfl), (Nat.le_of_ble_eq_true rfl)⟩ rfl rfl (Nat.le_of_ble_eq_true rfl) dX5_reaches_3 ?_
  refine lv_if_ne (tgt := 19) hx hb dX5_reaches_6 (by decide) (fun (c_1 : ¬ (f_X5_outside x1 11) = 0) => ?_) (fun (c_1 : (f_X5_outside x1 11) = 0) => ?_)
  · rw [if_neg c_1] at h
    refine lv_aload_n hx hb dX5_reaches_19 rfl (lv_at hl 0 rfl) ?_
    refine lv_ldc hx hb hown (hts _ wk_X5_54) dX5_reaches_20 ?_
    obtain ⟨q_2, hq_3, h⟩ := bd_s h
    refine m_cVi (As := [.int (-1000001)]) (rest := []) (o := 0) (ci := 5) C0 hb hml hl.1 wm_X5_55 md_X5_finding (k_X5_finding l G a σ hj (-1000001) q_2 hq_3) rfl rfl ⟨(Nat.le_of_ble_eq_true rfl), (Nat.le_of_ble_eq_true rfl)⟩ hP hS (rfl : kR 0 = 5) (by decide) rfl rfl rfl (Nat.le_of_ble_eq_true rfl) dX5_reaches_22 (fun H locs hP hS => ?_)
    exact m_ri hx hb hr hlk hP hS (Option.some.inj h) dX5_reaches_25
  · rw [if_pos c_1] at h
    refine lv_iload_n hx hb dX5_reaches_9 rfl (lv_at hl 2 rfl) ?_
    refine lv_sipush (v := 9999) hx hb dX5_reaches_10 (by decide) ?_
    refine m_pSi (As := [.int x2, .int 9999]) (rest := []) C0.z hb hml hl.1 wm_X5_50 md_X5_outside (k_X5_outside l x2 9999) rfl rfl ⟨(Nat.le_of_ble_eq_true rfl), (Nat.le_of_ble_eq_true rfl)⟩ rfl rfl (Nat.le_of_ble_eq_true rfl) dX5_reaches_13 ?_
    refine lv_if_eq (tgt := 26) hx hb dX5_reaches_16 (by decide) (fun (c_4 : (f_X5_outside x2 9999) = 0) => ?_) (fun (c_4 : ¬ (f_X5_outside x2 9999) = 0) => ?_)
    · rw [if_pos c_4] at h
      refine lv_aload_n hx hb dX5_reaches_26 rfl (lv_at hl 0 rfl) ?_
      refine m_cVr (As := []) (rest := []) (o := 0) (ci := 5) C0 hb hml hl.1 wm_X5_152 md_X5_waterTried (k_X5_waterTried l G a σ hj) rfl rfl ⟨(Nat.le_of_ble_eq_true rfl), (Nat.le_of_ble_eq_true rfl)⟩ hP hS (rfl : kR 0 = 5) (by decide) rfl rfl rfl (Nat.le_of_ble_eq_true rfl) dX5_reaches_27 (fun H locs hP hS => ?_)
      refine lv_astore_n (lv' := [(3, .ref (a 32)), (0, .ref (a 0)), (1, .int x1), (2, .int x2)]) hx hb dX5_reaches_30 rfl hl (by decide) rfl (fun ls hl => ?_)
      refine lv_iconst (v := 0) hx hb dX5_reaches_31 (by decide) ?_
      refine lv_istore (lv' := [(4, .int 0), (3, .ref (a 32)), (0, .ref (a 0)), (1, .int x1), (2, .int x2)]) hx hb dX5_reaches_32 hl (by decide) rfl (fun ls hl => ?_)
      have L_14 : ∀ (fu34 : Nat) (x4_5 : Int32) (σ_6 : Mem) (H : Heap) (locs : List Loc) (ls : Array Slot), it2 (f_X5_reaches_B34 x1 x2) fu34 x4_5 σ_6 = some q → HP G kR nR a σ_6 H → va_S (AW nR a) s.heap H locs → lv_has ls 5 [(4, .int x4_5), (3, .ref (a 32)), (0, .ref (a 0)), (1, .int x1), (2, .int x2)] → W p l e ({ frames := 3, cells := 0, slots := 0, locals := 71 } : Room) s m ([.ref (a 0), .int x1, .int x2] : List Value).toArray below meth c H locs 0 0 (MQ below (QI G kR nR a q) ([.ref (a 0), .int x1, .int x2] : List Value).toArray s 0 0 (AW nR a)) (F0 m 34 ls []) := by
        intro fu34
        induction fu34 with
        | zero =>
          intro x4_5 σ_6 H locs ls h
          cases h
        | succ fu34 ih34 =>
          intro x4_5 σ_6 H locs ls h hP hS hl
          replace h : (f_X5_reaches_B34 x1 x2) (it2 (f_X5_reaches_B34 x1 x2) fu34) x4_5 σ_6 = some q := h
          generalize it2 (f_X5_reaches_B34 x1 x2) fu34 = rec34 at h ih34
          unfold f_X5_reaches_B34 at h
          refine lv_iload hx hb dX5_reaches_34 (lv_at hl 0 rfl) ?_
          refine lv_sipush (v := 200) hx hb dX5_reaches_36 (by decide) ?_
          refine lv_icmp_gt (tgt := 66) hx hb dX5_reaches_39 (by decide) (fun (c_7 : 200 < x4_5) => ?_) (fun (c_7 : ¬ 200 < x4_5) => ?_)
          · rw [if_pos c_7] at h
            refine lv_aload_n hx hb dX5_reaches_66 rfl (lv_at hl 2 rfl) ?_
            refine lv_ldc hx hb hown (hts _ wk_X5_166) dX5_reaches_67 ?_
            obtain ⟨q_8, hq_9, h⟩ := bd_s h
            refine m_cVi (As := [.int (-1000004)]) (rest := []) (o := 0) (ci := 5) C0 hb hml hl.1 wm_X5_55 md_X5_finding (k_X5_finding l G a σ_6 hj (-1000004) q_8 hq_9) rfl rfl ⟨(Nat.le_of_ble_eq_true rfl), (Nat.le_of_ble_eq_true rfl)⟩ hP hS (rfl : kR 0 = 5) (by decide) rfl rfl rfl (Nat.le_of_ble_eq_true rfl) dX5_reaches_69 (fun H locs hP hS => ?_)
            exact m_ri hx hb hr hlk hP hS (Option.some.inj h) dX5_reaches_72
          · rw [if_neg c_7] at h
            refine lv_aload_n hx hb dX5_reaches_42 rfl (lv_at hl 1 rfl) ?_
            refine gf_X5_63 (o := 32) (o2 := 33) C0 hb hP (isW_k (isV_w v31)) rfl dX5_reaches_43 ?_
            refine lv_iload_n hx hb dX5_reaches_46 rfl (lv_at hl 3 rfl) ?_
            obtain ⟨hi_10, h⟩ := chk_s h
            refine m_iald (o := 33) (N := 12) (i := x1) (j := x1.toNatClampNeg) C0 hb hP (isW_1 (isV_w v31)) (by decide) hi_10 rfl dX5_reaches_47 ?_
            refine lv_iload_n hx hb dX5_reaches_48 rfl (lv_at hl 4 rfl) ?_
            refine lv_icmp_lt (tgt := 55) hx hb dX5_reaches_49 (by decide) (fun (c_11 : (σ_6 33 x1.toNatClampNeg) < x2) => ?_) (fun (c_11 : ¬ (σ_6 33 x1.toNatClampNeg) < x2) => ?_)
            · rw [if_pos c_11] at h
              refine lv_aload_n hx hb dX5_reaches_55 rfl (lv_at hl 1 rfl) ?_
              refine lv_iconst (v := 1) hx hb dX5_reaches_56 (by decide) ?_
              obtain ⟨q_12, hq_13, h⟩ := bd_s h
              refine m_cVv (As := [.int 1]) (rest := []) (o := 32) (ci := 4) C0 hb hml hl.1 wm_X5_156 md_X4_run (k_X4_run l G a σ_6 hj 32 (isV_w v31) 1 q_12 hq_13) rfl rfl ⟨(Nat.le_of_ble_eq_true rfl), (Nat.le_of_ble_eq_true rfl)⟩ hP hS (isW_k (isV_w v31)) (by decide) rfl rfl rfl (Nat.le_of_ble_eq_true rfl) dX5_reaches_57 (fun H locs hP hS => ?_)
              refine lv_iinc (v := x4_5 + 1) (lv' := [(4, .int (x4_5 + 1)), (3, .ref (a 32)), (0, .ref (a 0)), (1, .int x1), (2, .int x2)]) hx hb dX5_reaches_60 hl (k := 0) rfl rfl (by decide) rfl (fun ls hl => ?_)
              refine lv_goto (tgt := 34) hx hb dX5_reaches_63 (by decide) ?_
              exact ih34 (x4_5 + 1) q_12 _ _ _ h hP hS (lv_sub hl [0, 1, 2, 3, 4] rfl)
            · rw [if_neg c_11] at h
              refine lv_iload hx hb dX5_reaches_52 (lv_at hl 0 rfl) ?_
              exact m_ri hx hb hr hlk hP hS (Option.some.inj h) dX5_reaches_54
      exact L_14 FU 0 (f_X5_waterTried σ) _ _ _ h hP hS (lv_sub hl [0, 1, 2, 3, 4] rfl)
    · rw [if_neg c_4] at h
      refine lv_aload_n hx hb dX5_reaches_19 rfl (lv_at hl 0 rfl) ?_
      refine lv_ldc hx hb hown (hts _ wk_X5_54) dX5_reaches_20 ?_
      obtain ⟨q_15, hq_16, h⟩ := bd_s h
      refine m_cVi (As := [.int (-1000001)]) (rest := []) (o := 0) (ci := 5) C0 hb hml hl.1 wm_X5_55 md_X5_finding (k_X5_finding l G a σ hj (-1000001) q_15 hq_16) rfl rfl ⟨(Nat.le_of_ble_eq_true rfl), (Nat.le_of_ble_eq_true rfl)⟩ hP hS (rfl : kR 0 = 5) (by decide) rfl rfl rfl (Nat.le_of_ble_eq_true rfl) dX5_reaches_22 (fun H locs hP hS => ?_)
      exact m_ri hx hb hr hlk hP hS (Option.some.inj h) dX5_reaches_25
def f_X5_range_B55 (x1 : Int32) (x2 : Int32) (x3 : Int32) (rec55 : Int32 → Int32 → Int32 → Mem → Option (Int32 × Mem)) (x5_9 : Int32) (x6_10 : Int32) (x7_11 : Int32) (σ_12 : Mem) : Option (Int32 × Mem) := (if x2 < x7_11 then (if x3 = 0 then some (x5_9, σ_12) else some (x6_10, σ_12)) else ((f_X4_run 32 1 σ_12).bind fun q_15 => (chk x1 12 (chk x1 12 (rec55 (jmin x5_9 (q_15 33 x1.toNatClampNeg)) (jmax x6_10 (q_15 33 x1.toNatClampNeg)) (x7_11 + 1) q_15)))))
def f_X5_range (x1 : Int32) (x2 : Int32) (x3 : Int32) (σ : Mem) : Option (Int32 × Mem) := (if (f_X5_outside x1 11) = 0 then (if (f_X5_outside x2 100) = 0 then (if (f_X5_outside x3 1) = 0 then (chk x1 12 (it4 (f_X5_range_B55 x1 x2 x3) FU ((f_X5_waterTried σ) 33 x1.toNatClampNeg) ((f_X5_waterTried σ) 33 x1.toNatClampNeg) 1 (f_X5_waterTried σ))) else ((f_X5_finding (-1000001) σ).bind fun q_20 => some (q_20.1, q_20.2))) else ((f_X5_finding (-1000001) σ).bind fun q_5 => some (q_5.1, q_5.2))) else ((f_X5_finding (-1000001) σ).bind fun q_2 => some (q_2.1, q_2.2)))
set_option maxHeartbeats 4000000 in
set_option maxRecDepth 100000 in
theorem k_X5_range (l : Launch) (G : GG) (a : Nat → Nat) (σ : Mem) (hj : INJ nR a) (x1 : Int32) (x2 : Int32) (x3 : Int32) (q : Int32 × Mem) (h : f_X5_range x1 x2 x3 σ = some q) : Met l yX5_range (Cond.code yX5_range cX5_range 8 (some .int) :: TB) ({ frames := 3, cells := 0, slots := 0, locals := 71 } : Room) (PA G kR nR a σ [.ref (a 0), .int x1, .int x2, .int x3]) (QI G kR nR a q) 0 0 (AW nR a) := by
  refine M_ofW (by decide) hj kR_lt (Nat.le_of_ble_eq_true rfl) (fun p e s m below meth c ls C0 hb hml hr hlk hP hS hl => ?_)
  have C0 : CT p s _ m RX5 G kR nR a := C0
  have hx := C0.1
  have hts := C0.2.1
  have hown := C0.2.2.1
  have hl : lv_has ls 8 [(0, .ref (a 0)), (1, .int x1), (2, .int x2), (3, .int x3)] := hl
  unfold f_X5_range at h
  refine lv_iload_n hx hb dX5_range_0 rfl (lv_at hl 1 rfl) ?_
  refine lv_bipush (v := 11) hx hb dX5_range_1 (by decide) ?_
  refine m_pSi (As := [.int x1, .int 11]) (rest := []) C0.z hb hml hl.1 wm_X5_50 md_X5_outside (k_X5_outside l x1 11) rfl rfl ⟨(Nat.le_of_ble_eq_true rfl), (Nat.le_of_ble_eq_true rfl)⟩ rfl rfl (Nat.le_of_ble_eq_true rfl) dX5_range_3 ?_
  refine lv_if_ne (tgt := 26) hx hb dX5_range_6 (by decide) (fun (c_1 : ¬ (f_X5_outside x1 11) = 0) => ?_) (fun (c_1 : (f_X5_outside x1 11) = 0) => ?_)
  · rw [if_neg c_1] at h
    refine lv_aload_n hx hb dX5_range_26 rfl (lv_at hl 0 rfl) ?_
    refine lv_ldc hx hb hown (hts _ wk_X5_54) dX5_range_27 ?_
    obtain ⟨q_2, hq_3, h⟩ := bd_s h
    refine m_cVi (As := [.int (-1000001)]) (rest := []) (o := 0) (ci := 5) C0 hb hml hl.1 wm_X5_55 md_X5_finding (k_X5_finding l G a σ hj (-1000001) q_2 hq_3) rfl rfl ⟨(Nat.le_of_ble_eq_true rfl), (Nat.le_of_ble_eq_true rfl)⟩ hP hS (rfl : kR 0 = 5) (by decide) rfl rfl rfl (Nat.le_of_ble_eq_true rfl) dX5_range_29 (fun H locs hP hS => ?_)
    exact m_ri hx hb hr hlk hP hS (Option.some.inj h) dX5_range_32
  · rw [if_pos c_1] at h
    refine lv_iload_n hx hb dX5_range_9 rfl (lv_at hl 2 rfl) ?_
    refine lv_bipush (v := 100) hx hb dX5_range_10 (by decide) ?_
    refine m_pSi (As := [.int x2, .int 100]) (rest := []) C0.z hb hml hl.1 wm_X5_50 md_X5_outside (k_X5_outside l x2 100) rfl rfl ⟨(Nat.le_of_ble_eq_true rfl), (Nat.le_of_ble_eq_true rfl)⟩ rfl rfl (Nat.le_of_ble_eq_true rfl) dX5_range_12 ?_
    refine lv_if_ne (tgt := 26) hx hb dX5_range_15 (by decide) (fun (c_4 : ¬ (f_X5_outside x2 100) = 0) => ?_) (fun (c_4 : (f_X5_outside x2 100) = 0) => ?_)
    · rw [if_neg c_4] at h
      refine lv_aload_n hx hb dX5_range_26 rfl (lv_at hl 0 rfl) ?_
      refine lv_ldc hx hb hown (hts _ wk_X5_54) dX5_range_27 ?_
      obtain ⟨q_5, hq_6, h⟩ := bd_s h
      refine m_cVi (As := [.int (-1000001)]) (rest := []) (o := 0) (ci := 5) C0 hb hml hl.1 wm_X5_55 md_X5_finding (k_X5_finding l G a σ hj (-1000001) q_5 hq_6) rfl rfl ⟨(Nat.le_of_ble_eq_true rfl), (Nat.le_of_ble_eq_true rfl)⟩ hP hS (rfl : kR 0 = 5) (by decide) rfl rfl rfl (Nat.le_of_ble_eq_true rfl) dX5_range_29 (fun H locs hP hS => ?_)
      exact m_ri hx hb hr hlk hP hS (Option.some.inj h) dX5_range_32
    · rw [if_pos c_4] at h
      refine lv_iload_n hx hb dX5_range_18 rfl (lv_at hl 3 rfl) ?_
      refine lv_iconst (v := 1) hx hb dX5_range_19 (by decide) ?_
      refine m_pSi (As := [.int x3, .int 1]) (rest := []) C0.z hb hml hl.1 wm_X5_50 md_X5_outside (k_X5_outside l x3 1) rfl rfl ⟨(Nat.le_of_ble_eq_true rfl), (Nat.le_of_ble_eq_true rfl)⟩ rfl rfl (Nat.le_of_ble_eq_true rfl) dX5_range_20 ?_
      refine lv_if_eq (tgt := 33) hx hb dX5_range_23 (by decide) (fun (c_7 : (f_X5_outside x3 1) = 0) => ?_) (fun (c_7 : ¬ (f_X5_outside x3 1) = 0) => ?_)
      · rw [if_pos c_7] at h
        refine lv_aload_n hx hb dX5_range_33 rfl (lv_at hl 0 rfl) ?_
        refine m_cVr (As := []) (rest := []) (o := 0) (ci := 5) C0 hb hml hl.1 wm_X5_152 md_X5_waterTried (k_X5_waterTried l G a σ hj) rfl rfl ⟨(Nat.le_of_ble_eq_true rfl), (Nat.le_of_ble_eq_true rfl)⟩ hP hS (rfl : kR 0 = 5) (by decide) rfl rfl rfl (Nat.le_of_ble_eq_true rfl) dX5_range_34 (fun H locs hP hS => ?_)
        refine lv_astore (lv' := [(4, .ref (a 32)), (0, .ref (a 0)), (1, .int x1), (2, .int x2), (3, .int x3)]) hx hb dX5_range_37 hl (by decide) rfl (fun ls hl => ?_)
        refine lv_aload hx hb dX5_range_39 (lv_at hl 0 rfl) ?_
        refine gf_X5_63 (o := 32) (o2 := 33) C0 hb hP (isW_k (isV_w v31)) rfl dX5_range_41 ?_
        refine lv_iload_n hx hb dX5_range_44 rfl (lv_at hl 2 rfl) ?_
        obtain ⟨hi_8, h⟩ := chk_s h
        refine m_iald (o := 33) (N := 12) (i := x1) (j := x1.toNatClampNeg) C0 hb hP (isW_1 (isV_w v31)) (by decide) hi_8 rfl dX5_range_45 ?_
        refine lv_istore (lv' := [(5, .int ((f_X5_waterTried σ) 33 x1.toNatClampNeg)), (4, .ref (a 32)), (0, .ref (a 0)), (1, .int x1), (2, .int x2), (3, .int x3)]) hx hb dX5_range_46 hl (by decide) rfl (fun ls hl => ?_)
        refine lv_iload hx hb dX5_range_48 (lv_at hl 0 rfl) ?_
        refine lv_istore (lv' := [(6, .int ((f_X5_waterTried σ) 33 x1.toNatClampNeg)), (5, .int ((f_X5_waterTried σ) 33 x1.toNatClampNeg)), (4, .ref (a 32)), (0, .ref (a 0)), (1, .int x1), (2, .int x2), (3, .int x3)]) hx hb dX5_range_50 hl (by decide) rfl (fun ls hl => ?_)
        refine lv_iconst (v := 1) hx hb dX5_range_52 (by decide) ?_
        refine lv_istore (lv' := [(7, .int 1), (6, .int ((f_X5_waterTried σ) 33 x1.toNatClampNeg)), (5, .int ((f_X5_waterTried σ) 33 x1.toNatClampNeg)), (4, .ref (a 32)), (0, .ref (a 0)), (1, .int x1), (2, .int x2), (3, .int x3)]) hx hb dX5_range_53 hl (by decide) rfl (fun ls hl => ?_)
        have L_19 : ∀ (fu55 : Nat) (x5_9 : Int32) (x6_10 : Int32) (x7_11 : Int32) (σ_12 : Mem) (H : Heap) (locs : List Loc) (ls : Array Slot), it4 (f_X5_range_B55 x1 x2 x3) fu55 x5_9 x6_10 x7_11 σ_12 = some q → HP G kR nR a σ_12 H → va_S (AW nR a) s.heap H locs → lv_has ls 8 [(7, .int x7_11), (6, .int x6_10), (5, .int x5_9), (4, .ref (a 32)), (1, .int x1), (2, .int x2), (3, .int x3)] → W p l e ({ frames := 3, cells := 0, slots := 0, locals := 71 } : Room) s m ([.ref (a 0), .int x1, .int x2, .int x3] : List Value).toArray below meth c H locs 0 0 (MQ below (QI G kR nR a q) ([.ref (a 0), .int x1, .int x2, .int x3] : List Value).toArray s 0 0 (AW nR a)) (F0 m 55 ls []) := by
          intro fu55
          induction fu55 with
          | zero =>
            intro x5_9 x6_10 x7_11 σ_12 H locs ls h
            cases h
          | succ fu55 ih55 =>
            intro x5_9 x6_10 x7_11 σ_12 H locs ls h hP hS hl
            replace h : (f_X5_range_B55 x1 x2 x3) (it4 (f_X5_range_B55 x1 x2 x3) fu55) x5_9 x6_10 x7_11 σ_12 = some q := h
            generalize it4 (f_X5_range_B55 x1 x2 x3) fu55 = rec55 at h ih55
            unfold f_X5_range_B55 at h
            refine lv_iload hx hb dX5_range_55 (lv_at hl 0 rfl) ?_
            refine lv_iload_n hx hb dX5_range_57 rfl (lv_at hl 5 rfl) ?_
            refine lv_icmp_gt (tgt := 101) hx hb dX5_range_58 (by decide) (fun (c_13 : x2 < x7_11) => ?_) (fun (c_13 : ¬ x2 < x7_11) => ?_)
            · rw [if_pos c_13] at h
              refine lv_iload_n hx hb dX5_range_101 rfl (lv_at hl 6 rfl) ?_
              refine lv_if_ne (tgt := 110) hx hb dX5_range_102 (by decide) (fun (c_14 : ¬ x3 = 0) => ?_) (fun (c_14 : x3 = 0) => ?_)
              · rw [if_neg c_14] at h
                refine lv_iload hx hb dX5_range_110 (lv_at hl 1 rfl) ?_
                exact m_ri hx hb hr hlk hP hS (Option.some.inj h) dX5_range_112
              · rw [if_pos c_14] at h
                refine lv_iload hx hb dX5_range_105 (lv_at hl 2 rfl) ?_
                refine lv_goto (tgt := 112) hx hb dX5_range_107 (by decide) ?_
                exact m_ri hx hb hr hlk hP hS (Option.some.inj h) dX5_range_112
            · rw [if_neg c_13] at h
              refine lv_aload hx hb dX5_range_61 (lv_at hl 3 rfl) ?_
              refine lv_iconst (v := 1) hx hb dX5_range_63 (by decide) ?_
              obtain ⟨q_15, hq_16, h⟩ := bd_s h
              refine m_cVv (As := [.int 1]) (rest := []) (o := 32) (ci := 4) C0 hb hml hl.1 wm_X5_156 md_X4_run (k_X4_run l G a σ_12 hj 32 (isV_w v31) 1 q_15 hq_16) rfl rfl ⟨(Nat.le_of_ble_eq_true rfl), (Nat.le_of_ble_eq_true rfl)⟩ hP hS (isW_k (isV_w v31)) (by decide) rfl rfl rfl (Nat.le_of_ble_eq_true rfl) dX5_range_64 (fun H locs hP hS => ?_)
              refine lv_iload hx hb dX5_range_67 (lv_at hl 2 rfl) ?_
              refine lv_aload hx hb dX5_range_69 (lv_at hl 3 rfl) ?_
              refine gf_X5_63 (o := 32) (o2 := 33) C0 hb hP (isW_k (isV_w v31)) rfl dX5_range_71 ?_
              refine lv_iload_n hx hb dX5_range_74 rfl (lv_at hl 4 rfl) ?_
              obtain ⟨hi_17, h⟩ := chk_s h
              refine m_iald (o := 33) (N := 12) (i := x1) (j := x1.toNatClampNeg) C0 hb hP (isW_1 (isV_w v31)) (by decide) hi_17 rfl dX5_range_75 ?_
              refine m_min (rest := []) C0 hb hml hl.1 wm_X5_172 (Nat.le_of_ble_eq_true rfl) (Nat.le_of_ble_eq_true rfl) (Nat.zero_le _) (Nat.zero_le _) dX5_range_76 ?_
              refine lv_istore (lv' := [(5, .int (jmin x5_9 (q_15 33 x1.toNatClampNeg))), (7, .int x7_11), (6, .int x6_10), (4, .ref (a 32)), (1, .int x1), (2, .int x2), (3, .int x3)]) hx hb dX5_range_79 hl (by decide) rfl (fun ls hl => ?_)
              refine lv_iload hx hb dX5_range_81 (lv_at hl 2 rfl) ?_
              refine lv_aload hx hb dX5_range_83 (lv_at hl 3 rfl) ?_
              refine gf_X5_63 (o := 32) (o2 := 33) C0 hb hP (isW_k (isV_w v31)) rfl dX5_range_85 ?_
              refine lv_iload_n hx hb dX5_range_88 rfl (lv_at hl 4 rfl) ?_
              obtain ⟨hi_18, h⟩ := chk_s h
              refine m_iald (o := 33) (N := 12) (i := x1) (j := x1.toNatClampNeg) C0 hb hP (isW_1 (isV_w v31)) (by decide) hi_18 rfl dX5_range_89 ?_
              refine m_max (rest := []) C0 hb hml hl.1 wm_X5_177 (Nat.le_of_ble_eq_true rfl) (Nat.le_of_ble_eq_true rfl) (Nat.zero_le _) (Nat.zero_le _) dX5_range_90 ?_
              refine lv_istore (lv' := [(6, .int (jmax x6_10 (q_15 33 x1.toNatClampNeg))), (5, .int (jmin x5_9 (q_15 33 x1.toNatClampNeg))), (7, .int x7_11), (4, .ref (a 32)), (1, .int x1), (2, .int x2), (3, .int x3)]) hx hb dX5_range_93 hl (by decide) rfl (fun ls hl => ?_)
              refine lv_iinc (v := x7_11 + 1) (lv' := [(7, .int (x7_11 + 1)), (6, .int (jmax x6_10 (q_15 33 x1.toNatClampNeg))), (5, .int (jmin x5_9 (q_15 33 x1.toNatClampNeg))), (4, .ref (a 32)), (1, .int x1), (2, .int x2), (3, .int x3)]) hx hb dX5_range_95 hl (k := 2) rfl rfl (by decide) rfl (fun ls hl => ?_)
              refine lv_goto (tgt := 55) hx hb dX5_range_98 (by decide) ?_
              exact ih55 (jmin x5_9 (q_15 33 x1.toNatClampNeg)) (jmax x6_10 (q_15 33 x1.toNatClampNeg)) (x7_11 + 1) q_15 _ _ _ h hP hS (lv_sub hl [0, 1, 2, 3, 4, 5, 6] rfl)
        exact L_19 FU ((f_X5_waterTried σ) 33 x1.toNatClampNeg) ((f_X5_waterTried σ) 33 x1.toNatClampNeg) 1 (f_X5_waterTried σ) _ _ _ h hP hS (lv_sub hl [0, 1, 2, 3, 5, 6, 7] rfl)
      · rw [if_neg c_7] at h
        refine lv_aload_n hx hb dX5_range_26 rfl (lv_at hl 0 rfl) ?_
        refine lv_ldc hx hb hown (hts _ wk_X5_54) dX5_range_27 ?_
        obtain ⟨q_20, hq_21, h⟩ := bd_s h
        refine m_cVi (As := [.int (-1000001)]) (rest := []) (o := 0) (ci := 5) C0 hb hml hl.1 wm_X5_55 md_X5_finding (k_X5_finding l G a σ hj (-1000001) q_20 hq_21) rfl rfl ⟨(Nat.le_of_ble_eq_true rfl), (Nat.le_of_ble_eq_true rfl)⟩ hP hS (rfl : kR 0 = 5) (by decide) rfl rfl rfl (Nat.le_of_ble_eq_true rfl) dX5_range_29 (fun H locs hP hS => ?_)
        exact m_ri hx hb hr hlk hP hS (Option.some.inj h) dX5_range_32
def f_X5_isEnough (x1 : Int32) (x2 : Int32) (σ : Mem) : Option (Int32 × Mem) := ((f_X2_become 31 1 σ).bind fun q_1 => ((f_X4_openAll 32 x1 q_1).bind fun q_3 => ((f_X4_run 32 x2 q_3).bind fun q_5 => ((f_X2_lacking 31 q_5).bind fun q_7 => (if q_7 = 0 then some (1, q_5) else some (0, q_5))))))
set_option maxHeartbeats 4000000 in
set_option maxRecDepth 100000 in
theorem k_X5_isEnough (l : Launch) (G : GG) (a : Nat → Nat) (σ : Mem) (hj : INJ nR a) (x1 : Int32) (x2 : Int32) (q : Int32 × Mem) (h : f_X5_isEnough x1 x2 σ = some q) : Met l yX5_isEnough (Cond.code yX5_isEnough cX5_isEnough 3 (some .boolean) :: TB) ({ frames := 3, cells := 0, slots := 0, locals := 71 } : Room) (PA G kR nR a σ [.ref (a 0), .int x1, .int x2]) (QI G kR nR a q) 0 0 (AW nR a) := by
  refine M_ofW (by decide) hj kR_lt (Nat.le_of_ble_eq_true rfl) (fun p e s m below meth c ls C0 hb hml hr hlk hP hS hl => ?_)
  have C0 : CT p s _ m RX5 G kR nR a := C0
  have hx := C0.1
  have hts := C0.2.1
  have hown := C0.2.2.1
  have hl : lv_has ls 3 [(0, .ref (a 0)), (1, .int x1), (2, .int x2)] := hl
  unfold f_X5_isEnough at h
  refine lv_aload_n hx hb dX5_isEnough_0 rfl (lv_at hl 0 rfl) ?_
  refine gf_X5_19 (o := 0) (o2 := 31) C0 hb hP (rfl : kR 0 = 5) rfl dX5_isEnough_1 ?_
  refine lv_aload_n hx hb dX5_isEnough_4 rfl (lv_at hl 0 rfl) ?_
  refine gf_X5_12 (o := 0) (o2 := 1) C0 hb hP (rfl : kR 0 = 5) rfl dX5_isEnough_5 ?_
  obtain ⟨q_1, hq_2, h⟩ := bd_s h
  refine m_cVv (As := [.ref (a 1)]) (rest := []) (o := 31) (ci := 2) C0 hb hml hl.1 wm_X5_159 md_X2_become (k_X2_become l G a σ hj 31 v31 1 v1 q_1 hq_2) rfl rfl ⟨(Nat.le_of_ble_eq_true rfl), (Nat.le_of_ble_eq_true rfl)⟩ hP hS (isV_k v31) (by decide) rfl rfl rfl (Nat.le_of_ble_eq_true rfl) dX5_isEnough_8 (fun H locs hP hS => ?_)
  refine lv_aload_n hx hb dX5_isEnough_11 rfl (lv_at hl 0 rfl) ?_
  refine gf_X5_19 (o := 0) (o2 := 31) C0 hb hP (rfl : kR 0 = 5) rfl dX5_isEnough_12 ?_
  refine gf_X5_59 (o := 31) (o2 := 32) C0 hb hP (isV_k v31) rfl dX5_isEnough_15 ?_
  refine lv_iload_n hx hb dX5_isEnough_18 rfl (lv_at hl 1 rfl) ?_
  obtain ⟨q_3, hq_4, h⟩ := bd_s h
  refine m_cVv (As := [.int x1]) (rest := []) (o := 32) (ci := 4) C0 hb hml hl.1 wm_X5_75 md_X4_openAll (k_X4_openAll l G a q_1 hj 32 (isV_w v31) x1 q_3 hq_4) rfl rfl ⟨(Nat.le_of_ble_eq_true rfl), (Nat.le_of_ble_eq_true rfl)⟩ hP hS (isW_k (isV_w v31)) (by decide) rfl rfl rfl (Nat.le_of_ble_eq_true rfl) dX5_isEnough_19 (fun H locs hP hS => ?_)
  refine lv_aload_n hx hb dX5_isEnough_22 rfl (lv_at hl 0 rfl) ?_
  refine gf_X5_19 (o := 0) (o2 := 31) C0 hb hP (rfl : kR 0 = 5) rfl dX5_isEnough_23 ?_
  refine gf_X5_59 (o := 31) (o2 := 32) C0 hb hP (isV_k v31) rfl dX5_isEnough_26 ?_
  refine lv_iload_n hx hb dX5_isEnough_29 rfl (lv_at hl 2 rfl) ?_
  obtain ⟨q_5, hq_6, h⟩ := bd_s h
  refine m_cVv (As := [.int x2]) (rest := []) (o := 32) (ci := 4) C0 hb hml hl.1 wm_X5_156 md_X4_run (k_X4_run l G a q_3 hj 32 (isV_w v31) x2 q_5 hq_6) rfl rfl ⟨(Nat.le_of_ble_eq_true rfl), (Nat.le_of_ble_eq_true rfl)⟩ hP hS (isW_k (isV_w v31)) (by decide) rfl rfl rfl (Nat.le_of_ble_eq_true rfl) dX5_isEnough_30 (fun H locs hP hS => ?_)
  refine lv_aload_n hx hb dX5_isEnough_33 rfl (lv_at hl 0 rfl) ?_
  refine gf_X5_19 (o := 0) (o2 := 31) C0 hb hP (rfl : kR 0 = 5) rfl dX5_isEnough_34 ?_
  obtain ⟨q_7, hq_8, h⟩ := bd_s h
  refine m_rVi (As := []) (rest := []) (o := 31) (ci := 2) C0 hb hml hl.1 wm_X5_146 md_X2_lacking (k_X2_lacking l G a q_5 hj 31 v31 q_7 hq_8) rfl rfl ⟨(Nat.le_of_ble_eq_true rfl), (Nat.le_of_ble_eq_true rfl)⟩ hP hS (isV_k v31) (by decide) rfl rfl rfl (Nat.le_of_ble_eq_true rfl) dX5_isEnough_37 ?_
  refine lv_if_ne (tgt := 47) hx hb dX5_isEnough_40 (by decide) (fun (c_9 : ¬ q_7 = 0) => ?_) (fun (c_9 : q_7 = 0) => ?_)
  · rw [if_neg c_9] at h
    refine lv_iconst (v := 0) hx hb dX5_isEnough_47 (by decide) ?_
    exact m_rz hx hb hr hlk hP hS (Or.inl rfl) (Option.some.inj h) dX5_isEnough_48
  · rw [if_pos c_9] at h
    refine lv_iconst (v := 1) hx hb dX5_isEnough_43 (by decide) ?_
    refine lv_goto (tgt := 48) hx hb dX5_isEnough_44 (by decide) ?_
    exact m_rz hx hb hr hlk hP hS (Or.inr rfl) (Option.some.inj h) dX5_isEnough_48
def f_X5_enough_J54 (x3_3 : Int32) (rec21 : Int32 → Int32 → Mem → Option (Int32 × Mem)) (x2_9 : Int32) (σ_10 : Mem) : Option (Int32 × Mem) := (rec21 x2_9 (x3_3 / 2) σ_10)
def f_X5_enough_B21 (x1 : Int32) (rec21 : Int32 → Int32 → Mem → Option (Int32 × Mem)) (x2_2 : Int32) (x3_3 : Int32) (σ_4 : Mem) : Option (Int32 × Mem) := (if x3_3 ≤ 0 then (if x2_2 ≤ 99 then some (x2_2, σ_4) else ((f_X5_finding (-1000004) σ_4).bind fun q_7 => some (q_7.1, q_7.2))) else (if 99 < ((x2_2 + x3_3) - 1) then (f_X5_enough_J54 x3_3 rec21 x2_2 σ_4) else ((f_X5_isEnough ((x2_2 + x3_3) - 1) x1 σ_4).bind fun q_13 => (f_X5_enough_J54 x3_3 rec21 (if q_13.1 = 0 then x2_2 + x3_3 else x2_2) q_13.2))))
def f_X5_enough (x1 : Int32) (σ : Mem) : Option (Int32 × Mem) := (if (f_X5_outside x1 80) = 0 then (it3 (f_X5_enough_B21 x1) FU 0 64 σ) else ((f_X5_finding (-1000001) σ).bind fun q_17 => some (q_17.1, q_17.2)))
set_option maxHeartbeats 4000000 in
set_option maxRecDepth 100000 in
theorem k_X5_enough (l : Launch) (G : GG) (a : Nat → Nat) (σ : Mem) (hj : INJ nR a) (x1 : Int32) (q : Int32 × Mem) (h : f_X5_enough x1 σ = some q) : Met l yX5_enough (Cond.code yX5_enough cX5_enough 5 (some .int) :: TB) ({ frames := 4, cells := 0, slots := 0, locals := 93 } : Room) (PA G kR nR a σ [.ref (a 0), .int x1]) (QI G kR nR a q) 0 0 (AW nR a) := by
  refine M_ofW (by decide) hj kR_lt (Nat.le_of_ble_eq_true rfl) (fun p e s m below meth c ls C0 hb hml hr hlk hP hS hl => ?_)
  have C0 : CT p s _ m RX5 G kR nR a := C0
  have hx := C0.1
  have hts := C0.2.1
  have hown := C0.2.2.1
  have hl : lv_has ls 5 [(0, .ref (a 0)), (1, .int x1)] := hl
  unfold f_X5_enough at h
  refine lv_iload_n hx hb dX5_enough_0 rfl (lv_at hl 1 rfl) ?_
  refine lv_bipush (v := 80) hx hb dX5_enough_1 (by decide) ?_
  refine m_pSi (As := [.int x1, .int 80]) (rest := []) C0.z hb hml hl.1 wm_X5_50 md_X5_outside (k_X5_outside l x1 80) rfl rfl ⟨(Nat.le_of_ble_eq_true rfl), (Nat.le_of_ble_eq_true rfl)⟩ rfl rfl (Nat.le_of_ble_eq_true rfl) dX5_enough_3 ?_
  refine lv_if_eq (tgt := 16) hx hb dX5_enough_6 (by decide) (fun (c_1 : (f_X5_outside x1 80) = 0) => ?_) (fun (c_1 : ¬ (f_X5_outside x1 80) = 0) => ?_)
  · rw [if_pos c_1] at h
    refine lv_iconst (v := 0) hx hb dX5_enough_16 (by decide) ?_
    refine lv_istore_n (lv' := [(2, .int 0), (0, .ref (a 0)), (1, .int x1)]) hx hb dX5_enough_17 rfl hl (by decide) rfl (fun ls hl => ?_)
    refine lv_bipush (v := 64) hx hb dX5_enough_18 (by decide) ?_
    refine lv_istore_n (lv' := [(3, .int 64), (2, .int 0), (0, .ref (a 0)), (1, .int x1)]) hx hb dX5_enough_20 rfl hl (by decide) rfl (fun ls hl => ?_)
    have L_16 : ∀ (fu21 : Nat) (x2_2 : Int32) (x3_3 : Int32) (σ_4 : Mem) (H : Heap) (locs : List Loc) (ls : Array Slot), it3 (f_X5_enough_B21 x1) fu21 x2_2 x3_3 σ_4 = some q → HP G kR nR a σ_4 H → va_S (AW nR a) s.heap H locs → lv_has ls 5 [(3, .int x3_3), (2, .int x2_2), (0, .ref (a 0)), (1, .int x1)] → W p l e ({ frames := 4, cells := 0, slots := 0, locals := 93 } : Room) s m ([.ref (a 0), .int x1] : List Value).toArray below meth c H locs 0 0 (MQ below (QI G kR nR a q) ([.ref (a 0), .int x1] : List Value).toArray s 0 0 (AW nR a)) (F0 m 21 ls []) := by
      intro fu21
      induction fu21 with
      | zero =>
        intro x2_2 x3_3 σ_4 H locs ls h
        cases h
      | succ fu21 ih21 =>
        intro x2_2 x3_3 σ_4 H locs ls h hP hS hl
        replace h : (f_X5_enough_B21 x1) (it3 (f_X5_enough_B21 x1) fu21) x2_2 x3_3 σ_4 = some q := h
        generalize it3 (f_X5_enough_B21 x1) fu21 = rec21 at h ih21
        unfold f_X5_enough_B21 at h
        refine lv_iload_n hx hb dX5_enough_21 rfl (lv_at hl 0 rfl) ?_
        refine lv_if_le (tgt := 61) hx hb dX5_enough_22 (by decide) (fun (c_5 : x3_3 ≤ 0) => ?_) (fun (c_5 : ¬ x3_3 ≤ 0) => ?_)
        · rw [if_pos c_5] at h
          refine lv_iload_n hx hb dX5_enough_61 rfl (lv_at hl 1 rfl) ?_
          refine lv_bipush (v := 99) hx hb dX5_enough_62 (by decide) ?_
          refine lv_icmp_le (tgt := 76) hx hb dX5_enough_64 (by decide) (fun (c_6 : x2_2 ≤ 99) => ?_) (fun (c_6 : ¬ x2_2 ≤ 99) => ?_)
          · rw [if_pos c_6] at h
            refine lv_iload_n hx hb dX5_enough_76 rfl (lv_at hl 1 rfl) ?_
            exact m_ri hx hb hr hlk hP hS (Option.some.inj h) dX5_enough_77
          · rw [if_neg c_6] at h
            refine lv_aload_n hx hb dX5_enough_67 rfl (lv_at hl 2 rfl) ?_
            refine lv_ldc hx hb hown (hts _ wk_X5_166) dX5_enough_68 ?_
            obtain ⟨q_7, hq_8, h⟩ := bd_s h
            refine m_cVi (As := [.int (-1000004)]) (rest := []) (o := 0) (ci := 5) C0 hb hml hl.1 wm_X5_55 md_X5_finding (k_X5_finding l G a σ_4 hj (-1000004) q_7 hq_8) rfl rfl ⟨(Nat.le_of_ble_eq_true rfl), (Nat.le_of_ble_eq_true rfl)⟩ hP hS (rfl : kR 0 = 5) (by decide) rfl rfl rfl (Nat.le_of_ble_eq_true rfl) dX5_enough_70 (fun H locs hP hS => ?_)
            refine lv_goto (tgt := 77) hx hb dX5_enough_73 (by decide) ?_
            exact m_ri hx hb hr hlk hP hS (Option.some.inj h) dX5_enough_77
        · rw [if_neg c_5] at h
          refine lv_iload_n hx hb dX5_enough_25 rfl (lv_at hl 1 rfl) ?_
          refine lv_iload_n hx hb dX5_enough_26 rfl (lv_at hl 0 rfl) ?_
          refine lv_iadd hx hb dX5_enough_27 ?_
          refine lv_istore (lv' := [(4, .int (x2_2 + x3_3)), (3, .int x3_3), (2, .int x2_2), (0, .ref (a 0)), (1, .int x1)]) hx hb dX5_enough_28 hl (by decide) rfl (fun ls hl => ?_)
          refine lv_iload hx hb dX5_enough_30 (lv_at hl 0 rfl) ?_
          refine lv_iconst (v := 1) hx hb dX5_enough_32 (by decide) ?_
          refine lv_isub hx hb dX5_enough_33 ?_
          refine lv_bipush (v := 99) hx hb dX5_enough_34 (by decide) ?_
          have J_11 : ∀ (x2_9 : Int32) (σ_10 : Mem) (H : Heap) (locs : List Loc) (ls : Array Slot), f_X5_enough_J54 x3_3 rec21 x2_9 σ_10 = some q → HP G kR nR a σ_10 H → va_S (AW nR a) s.heap H locs → lv_has ls 5 [(3, .int x3_3), (2, .int x2_9), (0, .ref (a 0)), (1, .int x1)] → W p l e ({ frames := 4, cells := 0, slots := 0, locals := 93 } : Room) s m ([.ref (a 0), .int x1] : List Value).toArray below meth c H locs 0 0 (MQ below (QI G kR nR a q) ([.ref (a 0), .int x1] : List Value).toArray s 0 0 (AW nR a)) (F0 m 54 ls []) := by
            intro x2_9 σ_10 H locs ls h hP hS hl
            unfold f_X5_enough_J54 at h
            refine lv_iload_n hx hb dX5_enough_54 rfl (lv_at hl 0 rfl) ?_
            refine lv_iconst (v := 2) hx hb dX5_enough_55 (by decide) ?_
            refine lv_idiv hx hb dX5_enough_56 (by decide) ?_
            refine lv_istore_n (lv' := [(3, .int (x3_3 / 2)), (2, .int x2_9), (0, .ref (a 0)), (1, .int x1)]) hx hb dX5_enough_57 rfl hl (by decide) rfl (fun ls hl => ?_)
            refine lv_goto (tgt := 21) hx hb dX5_enough_58 (by decide) ?_
            exact ih21 x2_9 (x3_3 / 2) σ_10 _ _ _ h hP hS (lv_sub hl [0, 1, 2, 3] rfl)
          refine lv_icmp_gt (tgt := 54) hx hb dX5_enough_36 (by decide) (fun (c_12 : 99 < ((x2_2 + x3_3) - 1)) => ?_) (fun (c_12 : ¬ 99 < ((x2_2 + x3_3) - 1)) => ?_)
          · rw [if_pos c_12] at h
            exact J_11 x2_2 σ_4 _ _ _ h hP hS (lv_sub hl [1, 2, 3, 4] rfl)
          · rw [if_neg c_12] at h
            refine lv_aload_n hx hb dX5_enough_39 rfl (lv_at hl 3 rfl) ?_
            refine lv_iload hx hb dX5_enough_40 (lv_at hl 0 rfl) ?_
            refine lv_iconst (v := 1) hx hb dX5_enough_42 (by decide) ?_
            refine lv_isub hx hb dX5_enough_43 ?_
            refine lv_iload_n hx hb dX5_enough_44 rfl (lv_at hl 4 rfl) ?_
            obtain ⟨q_13, hq_14, h⟩ := bd_s h
            refine m_cVi (As := [.int ((x2_2 + x3_3) - 1), .int x1]) (rest := []) (o := 0) (ci := 5) C0 hb hml hl.1 wm_X5_180 md_X5_isEnough (k_X5_isEnough l G a σ_4 hj ((x2_2 + x3_3) - 1) x1 q_13 hq_14) rfl rfl ⟨(Nat.le_of_ble_eq_true rfl), (Nat.le_of_ble_eq_true rfl)⟩ hP hS (rfl : kR 0 = 5) (by decide) rfl rfl rfl (Nat.le_of_ble_eq_true rfl) dX5_enough_45 (fun H locs hP hS => ?_)
            refine lv_if_ne (tgt := 54) hx hb dX5_enough_48 (by decide) (fun (c_15 : ¬ q_13.1 = 0) => ?_) (fun (c_15 : q_13.1 = 0) => ?_)
            · rw [if_neg c_15] at h
              exact J_11 x2_2 q_13.2 _ _ _ h hP hS (lv_sub hl [1, 2, 3, 4] rfl)
            · rw [if_pos c_15] at h
              refine lv_iload hx hb dX5_enough_51 (lv_at hl 0 rfl) ?_
              refine lv_istore_n (lv' := [(2, .int (x2_2 + x3_3)), (4, .int (x2_2 + x3_3)), (3, .int x3_3), (0, .ref (a 0)), (1, .int x1)]) hx hb dX5_enough_53 rfl hl (by decide) rfl (fun ls hl => ?_)
              exact J_11 (x2_2 + x3_3) q_13.2 _ _ _ h hP hS (lv_sub hl [2, 0, 3, 4] rfl)
    exact L_16 FU 0 64 σ _ _ _ h hP hS (lv_sub hl [0, 1, 2, 3] rfl)
  · rw [if_neg c_1] at h
    refine lv_aload_n hx hb dX5_enough_9 rfl (lv_at hl 0 rfl) ?_
    refine lv_ldc hx hb hown (hts _ wk_X5_54) dX5_enough_10 ?_
    obtain ⟨q_17, hq_18, h⟩ := bd_s h
    refine m_cVi (As := [.int (-1000001)]) (rest := []) (o := 0) (ci := 5) C0 hb hml hl.1 wm_X5_55 md_X5_finding (k_X5_finding l G a σ hj (-1000001) q_17 hq_18) rfl rfl ⟨(Nat.le_of_ble_eq_true rfl), (Nat.le_of_ble_eq_true rfl)⟩ hP hS (rfl : kR 0 = 5) (by decide) rfl rfl rfl (Nat.le_of_ble_eq_true rfl) dX5_enough_12 (fun H locs hP hS => ?_)
    exact m_ri hx hb hr hlk hP hS (Option.some.inj h) dX5_enough_15
def f_X5_hide_J100 (x5_7 : Int32) (rec34 : Int32 → Int32 → Int32 → Mem → Option (Int32 × Mem)) (q_13 : Mem) (x4_17 : Int32) (x3_18 : Int32) : Option (Int32 × Mem) := (rec34 x3_18 x4_17 (x5_7 + 1) q_13)
def f_X5_hide_B34 (x1 : Int32) (x2 : Int32) (rec34 : Int32 → Int32 → Int32 → Mem → Option (Int32 × Mem)) (x3_5 : Int32) (x4_6 : Int32) (x5_7 : Int32) (σ_8 : Mem) : Option (Int32 × Mem) := (if 8 ≤ x5_7 then some (x3_5, σ_8) else ((f_X2_become 31 1 σ_8).bind fun q_10 => (chk x5_7 8 ((f_X2_pass 31 x2 (mst q_10 35 x5_7.toNatClampNeg x1)).bind fun q_13 => ((f_X2_knowing 31 q_13).bind fun q_15 => (if x4_6 ≤ (f_J6_bitCount_0f7a4 q_15) then (f_X5_hide_J100 x5_7 rec34 q_13 x4_6 x3_5) else (f_X5_hide_J100 x5_7 rec34 q_13 (f_J6_bitCount_0f7a4 q_15) x5_7)))))))
def f_X5_hide (x1 : Int32) (x2 : Int32) (σ : Mem) : Option (Int32 × Mem) := (if (f_X5_outside x1 99) = 0 then (if (f_X5_outside x2 60) = 0 then (it4 (f_X5_hide_B34 x1 x2) FU 0 9 0 σ) else ((f_X5_finding (-1000001) σ).bind fun q_22 => some (q_22.1, q_22.2))) else ((f_X5_finding (-1000001) σ).bind fun q_2 => some (q_2.1, q_2.2)))
set_option maxHeartbeats 4000000 in
set_option maxRecDepth 100000 in
theorem k_X5_hide (l : Launch) (G : GG) (a : Nat → Nat) (σ : Mem) (hj : INJ nR a) (x1 : Int32) (x2 : Int32) (q : Int32 × Mem) (h : f_X5_hide x1 x2 σ = some q) : Met l yX5_hide (Cond.code yX5_hide cX5_hide 7 (some .int) :: TB) ({ frames := 5, cells := 0, slots := 0, locals := 106 } : Room) (PA G kR nR a σ [.ref (a 0), .int x1, .int x2]) (QI G kR nR a q) 0 0 (AW nR a) := by
  refine M_ofW (by decide) hj kR_lt (Nat.le_of_ble_eq_true rfl) (fun p e s m below meth c ls C0 hb hml hr hlk hP hS hl => ?_)
  have C0 : CT p s _ m RX5 G kR nR a := C0
  have hx := C0.1
  have hts := C0.2.1
  have hown := C0.2.2.1
  have hl : lv_has ls 7 [(0, .ref (a 0)), (1, .int x1), (2, .int x2)] := hl
  unfold f_X5_hide at h
  refine lv_iload_n hx hb dX5_hide_0 rfl (lv_at hl 1 rfl) ?_
  refine lv_bipush (v := 99) hx hb dX5_hide_1 (by decide) ?_
  refine m_pSi (As := [.int x1, .int 99]) (rest := []) C0.z hb hml hl.1 wm_X5_50 md_X5_outside (k_X5_outside l x1 99) rfl rfl ⟨(Nat.le_of_ble_eq_true rfl), (Nat.le_of_ble_eq_true rfl)⟩ rfl rfl (Nat.le_of_ble_eq_true rfl) dX5_hide_3 ?_
  refine lv_if_ne (tgt := 18) hx hb dX5_hide_6 (by decide) (fun (c_1 : ¬ (f_X5_outside x1 99) = 0) => ?_) (fun (c_1 : (f_X5_outside x1 99) = 0) => ?_)
  · rw [if_neg c_1] at h
    refine lv_aload_n hx hb dX5_hide_18 rfl (lv_at hl 0 rfl) ?_
    refine lv_ldc hx hb hown (hts _ wk_X5_54) dX5_hide_19 ?_
    obtain ⟨q_2, hq_3, h⟩ := bd_s h
    refine m_cVi (As := [.int (-1000001)]) (rest := []) (o := 0) (ci := 5) C0 hb hml hl.1 wm_X5_55 md_X5_finding (k_X5_finding l G a σ hj (-1000001) q_2 hq_3) rfl rfl ⟨(Nat.le_of_ble_eq_true rfl), (Nat.le_of_ble_eq_true rfl)⟩ hP hS (rfl : kR 0 = 5) (by decide) rfl rfl rfl (Nat.le_of_ble_eq_true rfl) dX5_hide_21 (fun H locs hP hS => ?_)
    exact m_ri hx hb hr hlk hP hS (Option.some.inj h) dX5_hide_24
  · rw [if_pos c_1] at h
    refine lv_iload_n hx hb dX5_hide_9 rfl (lv_at hl 2 rfl) ?_
    refine lv_bipush (v := 60) hx hb dX5_hide_10 (by decide) ?_
    refine m_pSi (As := [.int x2, .int 60]) (rest := []) C0.z hb hml hl.1 wm_X5_50 md_X5_outside (k_X5_outside l x2 60) rfl rfl ⟨(Nat.le_of_ble_eq_true rfl), (Nat.le_of_ble_eq_true rfl)⟩ rfl rfl (Nat.le_of_ble_eq_true rfl) dX5_hide_12 ?_
    refine lv_if_eq (tgt := 25) hx hb dX5_hide_15 (by decide) (fun (c_4 : (f_X5_outside x2 60) = 0) => ?_) (fun (c_4 : ¬ (f_X5_outside x2 60) = 0) => ?_)
    · rw [if_pos c_4] at h
      refine lv_iconst (v := 0) hx hb dX5_hide_25 (by decide) ?_
      refine lv_istore_n (lv' := [(3, .int 0), (0, .ref (a 0)), (1, .int x1), (2, .int x2)]) hx hb dX5_hide_26 rfl hl (by decide) rfl (fun ls hl => ?_)
      refine lv_bipush (v := 9) hx hb dX5_hide_27 (by decide) ?_
      refine lv_istore (lv' := [(4, .int 9), (3, .int 0), (0, .ref (a 0)), (1, .int x1), (2, .int x2)]) hx hb dX5_hide_29 hl (by decide) rfl (fun ls hl => ?_)
      refine lv_iconst (v := 0) hx hb dX5_hide_31 (by decide) ?_
      refine lv_istore (lv' := [(5, .int 0), (4, .int 9), (3, .int 0), (0, .ref (a 0)), (1, .int x1), (2, .int x2)]) hx hb dX5_hide_32 hl (by decide) rfl (fun ls hl => ?_)
      have L_21 : ∀ (fu34 : Nat) (x3_5 : Int32) (x4_6 : Int32) (x5_7 : Int32) (σ_8 : Mem) (H : Heap) (locs : List Loc) (ls : Array Slot), it4 (f_X5_hide_B34 x1 x2) fu34 x3_5 x4_6 x5_7 σ_8 = some q → HP G kR nR a σ_8 H → va_S (AW nR a) s.heap H locs → lv_has ls 7 [(5, .int x5_7), (4, .int x4_6), (3, .int x3_5), (0, .ref (a 0)), (1, .int x1), (2, .int x2)] → W p l e ({ frames := 5, cells := 0, slots := 0, locals := 106 } : Room) s m ([.ref (a 0), .int x1, .int x2] : List Value).toArray below meth c H locs 0 0 (MQ below (QI G kR nR a q) ([.ref (a 0), .int x1, .int x2] : List Value).toArray s 0 0 (AW nR a)) (F0 m 34 ls []) := by
        intro fu34
        induction fu34 with
        | zero =>
          intro x3_5 x4_6 x5_7 σ_8 H locs ls h
          cases h
        | succ fu34 ih34 =>
          intro x3_5 x4_6 x5_7 σ_8 H locs ls h hP hS hl
          replace h : (f_X5_hide_B34 x1 x2) (it4 (f_X5_hide_B34 x1 x2) fu34) x3_5 x4_6 x5_7 σ_8 = some q := h
          generalize it4 (f_X5_hide_B34 x1 x2) fu34 = rec34 at h ih34
          unfold f_X5_hide_B34 at h
          refine lv_iload hx hb dX5_hide_34 (lv_at hl 0 rfl) ?_
          refine lv_bipush (v := 8) hx hb dX5_hide_36 (by decide) ?_
          refine lv_icmp_ge (tgt := 106) hx hb dX5_hide_38 (by decide) (fun (c_9 : 8 ≤ x5_7) => ?_) (fun (c_9 : ¬ 8 ≤ x5_7) => ?_)
          · rw [if_pos c_9] at h
            refine lv_iload_n hx hb dX5_hide_106 rfl (lv_at hl 2 rfl) ?_
            exact m_ri hx hb hr hlk hP hS (Option.some.inj h) dX5_hide_107
          · rw [if_neg c_9] at h
            refine lv_aload_n hx hb dX5_hide_41 rfl (lv_at hl 3 rfl) ?_
            refine gf_X5_19 (o := 0) (o2 := 31) C0 hb hP (rfl : kR 0 = 5) rfl dX5_hide_42 ?_
            refine lv_aload_n hx hb dX5_hide_45 rfl (lv_at hl 3 rfl) ?_
            refine gf_X5_12 (o := 0) (o2 := 1) C0 hb hP (rfl : kR 0 = 5) rfl dX5_hide_46 ?_
            obtain ⟨q_10, hq_11, h⟩ := bd_s h
            refine m_cVv (As := [.ref (a 1)]) (rest := []) (o := 31) (ci := 2) C0 hb hml hl.1 wm_X5_159 md_X2_become (k_X2_become l G a σ_8 hj 31 v31 1 v1 q_10 hq_11) rfl rfl ⟨(Nat.le_of_ble_eq_true rfl), (Nat.le_of_ble_eq_true rfl)⟩ hP hS (isV_k v31) (by decide) rfl rfl rfl (Nat.le_of_ble_eq_true rfl) dX5_hide_49 (fun H locs hP hS => ?_)
            refine lv_aload_n hx hb dX5_hide_52 rfl (lv_at hl 3 rfl) ?_
            refine gf_X5_19 (o := 0) (o2 := 31) C0 hb hP (rfl : kR 0 = 5) rfl dX5_hide_53 ?_
            refine gf_X5_59 (o := 31) (o2 := 32) C0 hb hP (isV_k v31) rfl dX5_hide_56 ?_
            refine gf_X5_68 (o := 32) (o2 := 35) C0 hb hP (isW_k (isV_w v31)) rfl dX5_hide_59 ?_
            refine lv_iload hx hb dX5_hide_62 (lv_at hl 0 rfl) ?_
            refine lv_iload_n hx hb dX5_hide_64 rfl (lv_at hl 4 rfl) ?_
            obtain ⟨hi_12, h⟩ := chk_s h
            refine m_iast (o := 35) (N := 8) (i := x5_7) (j := x5_7.toNatClampNeg) C0 hb hP hS (isW_3 (isV_w v31)) (by decide) hi_12 rfl dX5_hide_65 (fun H locs hP hS => ?_)
            refine lv_aload_n hx hb dX5_hide_66 rfl (lv_at hl 3 rfl) ?_
            refine gf_X5_19 (o := 0) (o2 := 31) C0 hb hP (rfl : kR 0 = 5) rfl dX5_hide_67 ?_
            refine lv_iload_n hx hb dX5_hide_70 rfl (lv_at hl 5 rfl) ?_
            obtain ⟨q_13, hq_14, h⟩ := bd_s h
            refine m_cVv (As := [.int x2]) (rest := []) (o := 31) (ci := 2) C0 hb hml hl.1 wm_X5_134 md_X2_pass (k_X2_pass l G a (mst q_10 35 x5_7.toNatClampNeg x1) hj 31 v31 x2 q_13 hq_14) rfl rfl ⟨(Nat.le_of_ble_eq_true rfl), (Nat.le_of_ble_eq_true rfl)⟩ hP hS (isV_k v31) (by decide) rfl rfl rfl (Nat.le_of_ble_eq_true rfl) dX5_hide_71 (fun H locs hP hS => ?_)
            refine lv_aload_n hx hb dX5_hide_74 rfl (lv_at hl 3 rfl) ?_
            refine gf_X5_19 (o := 0) (o2 := 31) C0 hb hP (rfl : kR 0 = 5) rfl dX5_hide_75 ?_
            obtain ⟨q_15, hq_16, h⟩ := bd_s h
            refine m_rVi (As := []) (rest := []) (o := 31) (ci := 2) C0 hb hml hl.1 wm_X5_137 md_X2_knowing (k_X2_knowing l G a q_13 hj 31 v31 q_15 hq_16) rfl rfl ⟨(Nat.le_of_ble_eq_true rfl), (Nat.le_of_ble_eq_true rfl)⟩ hP hS (isV_k v31) (by decide) rfl rfl rfl (Nat.le_of_ble_eq_true rfl) dX5_hide_78 ?_
            refine m_pSi (As := [.int q_15]) (rest := []) C0.z hb hml hl.1 wm_X5_183 md_J6_bitCount_0f7a4 (k_J6_bitCount_0f7a4 l q_15) rfl rfl ⟨(Nat.le_of_ble_eq_true rfl), (Nat.le_of_ble_eq_true rfl)⟩ rfl rfl (Nat.le_of_ble_eq_true rfl) dX5_hide_81 ?_
            refine lv_istore (lv' := [(6, .int (f_J6_bitCount_0f7a4 q_15)), (5, .int x5_7), (4, .int x4_6), (3, .int x3_5), (0, .ref (a 0)), (1, .int x1), (2, .int x2)]) hx hb dX5_hide_84 hl (by decide) rfl (fun ls hl => ?_)
            refine lv_iload hx hb dX5_hide_86 (lv_at hl 0 rfl) ?_
            refine lv_iload hx hb dX5_hide_88 (lv_at hl 2 rfl) ?_
            have J_19 : ∀ (x4_17 : Int32) (x3_18 : Int32) (H : Heap) (locs : List Loc) (ls : Array Slot), f_X5_hide_J100 x5_7 rec34 q_13 x4_17 x3_18 = some q → HP G kR nR a q_13 H → va_S (AW nR a) s.heap H locs → lv_has ls 7 [(5, .int x5_7), (4, .int x4_17), (3, .int x3_18), (0, .ref (a 0)), (1, .int x1), (2, .int x2)] → W p l e ({ frames := 5, cells := 0, slots := 0, locals := 106 } : Room) s m ([.ref (a 0), .int x1, .int x2] : List Value).toArray below meth c H locs 0 0 (MQ below (QI G kR nR a q) ([.ref (a 0), .int x1, .int x2] : List Value).toArray s 0 0 (AW nR a)) (F0 m 100 ls []) := by
              intro x4_17 x3_18 H locs ls h hP hS hl
              unfold f_X5_hide_J100 at h
              refine lv_iinc (v := x5_7 + 1) (lv' := [(5, .int (x5_7 + 1)), (4, .int x4_17), (3, .int x3_18), (0, .ref (a 0)), (1, .int x1), (2, .int x2)]) hx hb dX5_hide_100 hl (k := 0) rfl rfl (by decide) rfl (fun ls hl => ?_)
              refine lv_goto (tgt := 34) hx hb dX5_hide_103 (by decide) ?_
              exact ih34 x3_18 x4_17 (x5_7 + 1) q_13 _ _ _ h hP hS (lv_sub hl [0, 1, 2, 3, 4, 5] rfl)
            refine lv_icmp_ge (tgt := 100) hx hb dX5_hide_90 (by decide) (fun (c_20 : x4_6 ≤ (f_J6_bitCount_0f7a4 q_15)) => ?_) (fun (c_20 : ¬ x4_6 ≤ (f_J6_bitCount_0f7a4 q_15)) => ?_)
            · rw [if_pos c_20] at h
              exact J_19 x4_6 x3_5 _ _ _ h hP hS (lv_sub hl [1, 2, 3, 4, 5, 6] rfl)
            · rw [if_neg c_20] at h
              refine lv_iload hx hb dX5_hide_93 (lv_at hl 0 rfl) ?_
              refine lv_istore (lv' := [(4, .int (f_J6_bitCount_0f7a4 q_15)), (6, .int (f_J6_bitCount_0f7a4 q_15)), (5, .int x5_7), (3, .int x3_5), (0, .ref (a 0)), (1, .int x1), (2, .int x2)]) hx hb dX5_hide_95 hl (by decide) rfl (fun ls hl => ?_)
              refine lv_iload hx hb dX5_hide_97 (lv_at hl 2 rfl) ?_
              refine lv_istore_n (lv' := [(3, .int x5_7), (4, .int (f_J6_bitCount_0f7a4 q_15)), (6, .int (f_J6_bitCount_0f7a4 q_15)), (5, .int x5_7), (0, .ref (a 0)), (1, .int x1), (2, .int x2)]) hx hb dX5_hide_99 rfl hl (by decide) rfl (fun ls hl => ?_)
              exact J_19 (f_J6_bitCount_0f7a4 q_15) x5_7 _ _ _ h hP hS (lv_sub hl [3, 1, 0, 4, 5, 6] rfl)
      exact L_21 FU 0 9 0 σ _ _ _ h hP hS (lv_sub hl [0, 1, 2, 3, 4, 5] rfl)
    · rw [if_neg c_4] at h
      refine lv_aload_n hx hb dX5_hide_18 rfl (lv_at hl 0 rfl) ?_
      refine lv_ldc hx hb hown (hts _ wk_X5_54) dX5_hide_19 ?_
      obtain ⟨q_22, hq_23, h⟩ := bd_s h
      refine m_cVi (As := [.int (-1000001)]) (rest := []) (o := 0) (ci := 5) C0 hb hml hl.1 wm_X5_55 md_X5_finding (k_X5_finding l G a σ hj (-1000001) q_22 hq_23) rfl rfl ⟨(Nat.le_of_ble_eq_true rfl), (Nat.le_of_ble_eq_true rfl)⟩ hP hS (rfl : kR 0 = 5) (by decide) rfl rfl rfl (Nat.le_of_ble_eq_true rfl) dX5_hide_21 (fun H locs hP hS => ?_)
      exact m_ri hx hb hr hlk hP hS (Option.some.inj h) dX5_hide_24
def f_X2_staysHidden_B2 (b : Nat) (x1 : Int32) (x2 : Int32) (rec2 : Int32 → Mem → Option (Int32 × Mem)) (x3_1 : Int32) (σ_2 : Mem) : Option (Int32 × Mem) := (if x1 ≤ x3_1 then some (1, σ_2) else ((f_X2_pass b 1 σ_2).bind fun q_4 => ((f_X2_knowing b q_4).bind fun q_6 => (if q_6 = x2 then (rec2 (x3_1 + 1) q_4) else some (0, q_4)))))
def f_X2_staysHidden (b : Nat) (x1 : Int32) (x2 : Int32) (σ : Mem) : Option (Int32 × Mem) := (it2 (f_X2_staysHidden_B2 b x1 x2) FU 0 σ)
set_option maxHeartbeats 4000000 in
set_option maxRecDepth 100000 in
theorem k_X2_staysHidden (l : Launch) (G : GG) (a : Nat → Nat) (σ : Mem) (hj : INJ nR a) (b : Nat) (hb0 : isV b) (x1 : Int32) (x2 : Int32) (q : Int32 × Mem) (h : f_X2_staysHidden b x1 x2 σ = some q) : Met l yX2_staysHidden (Cond.code yX2_staysHidden cX2_staysHidden 4 (some .boolean) :: TB) ({ frames := 5, cells := 0, slots := 0, locals := 106 } : Room) (PA G kR nR a σ [.ref (a b), .int x1, .int x2]) (QI G kR nR a q) 0 0 (AW nR a) := by
  refine M_ofW (by decide) hj kR_lt (Nat.le_of_ble_eq_true rfl) (fun p e s m below meth c ls C0 hb hml hr hlk hP hS hl => ?_)
  have C0 : CT p s _ m RX2 G kR nR a := C0
  have hx := C0.1
  have hts := C0.2.1
  have hown := C0.2.2.1
  have hl : lv_has ls 4 [(0, .ref (a b)), (1, .int x1), (2, .int x2)] := hl
  unfold f_X2_staysHidden at h
  refine lv_iconst (v := 0) hx hb dX2_staysHidden_0 (by decide) ?_
  refine lv_istore_n (lv' := [(3, .int 0), (0, .ref (a b)), (1, .int x1), (2, .int x2)]) hx hb dX2_staysHidden_1 rfl hl (by decide) rfl (fun ls hl => ?_)
  have L_9 : ∀ (fu2 : Nat) (x3_1 : Int32) (σ_2 : Mem) (H : Heap) (locs : List Loc) (ls : Array Slot), it2 (f_X2_staysHidden_B2 b x1 x2) fu2 x3_1 σ_2 = some q → HP G kR nR a σ_2 H → va_S (AW nR a) s.heap H locs → lv_has ls 4 [(3, .int x3_1), (0, .ref (a b)), (1, .int x1), (2, .int x2)] → W p l e ({ frames := 5, cells := 0, slots := 0, locals := 106 } : Room) s m ([.ref (a b), .int x1, .int x2] : List Value).toArray below meth c H locs 0 0 (MQ below (QI G kR nR a q) ([.ref (a b), .int x1, .int x2] : List Value).toArray s 0 0 (AW nR a)) (F0 m 2 ls []) := by
    intro fu2
    induction fu2 with
    | zero =>
      intro x3_1 σ_2 H locs ls h
      cases h
    | succ fu2 ih2 =>
      intro x3_1 σ_2 H locs ls h hP hS hl
      replace h : (f_X2_staysHidden_B2 b x1 x2) (it2 (f_X2_staysHidden_B2 b x1 x2) fu2) x3_1 σ_2 = some q := h
      generalize it2 (f_X2_staysHidden_B2 b x1 x2) fu2 = rec2 at h ih2
      unfold f_X2_staysHidden_B2 at h
      refine lv_iload_n hx hb dX2_staysHidden_2 rfl (lv_at hl 0 rfl) ?_
      refine lv_iload_n hx hb dX2_staysHidden_3 rfl (lv_at hl 2 rfl) ?_
      refine lv_icmp_ge (tgt := 28) hx hb dX2_staysHidden_4 (by decide) (fun (c_3 : x1 ≤ x3_1) => ?_) (fun (c_3 : ¬ x1 ≤ x3_1) => ?_)
      · rw [if_pos c_3] at h
        refine lv_iconst (v := 1) hx hb dX2_staysHidden_28 (by decide) ?_
        exact m_rz hx hb hr hlk hP hS (Or.inr rfl) (Option.some.inj h) dX2_staysHidden_29
      · rw [if_neg c_3] at h
        refine lv_aload_n hx hb dX2_staysHidden_7 rfl (lv_at hl 1 rfl) ?_
        refine lv_iconst (v := 1) hx hb dX2_staysHidden_8 (by decide) ?_
        obtain ⟨q_4, hq_5, h⟩ := bd_s h
        refine m_cVv (As := [.int 1]) (rest := []) (o := b) (ci := 2) C0 hb hml hl.1 wm_X2_75 md_X2_pass (k_X2_pass l G a σ_2 hj b hb0 1 q_4 hq_5) rfl rfl ⟨(Nat.le_of_ble_eq_true rfl), (Nat.le_of_ble_eq_true rfl)⟩ hP hS (isV_k hb0) (by decide) rfl rfl rfl (Nat.le_of_ble_eq_true rfl) dX2_staysHidden_9 (fun H locs hP hS => ?_)
        refine lv_aload_n hx hb dX2_staysHidden_12 rfl (lv_at hl 1 rfl) ?_
        obtain ⟨q_6, hq_7, h⟩ := bd_s h
        refine m_rVi (As := []) (rest := []) (o := b) (ci := 2) C0 hb hml hl.1 wm_X2_78 md_X2_knowing (k_X2_knowing l G a q_4 hj b hb0 q_6 hq_7) rfl rfl ⟨(Nat.le_of_ble_eq_true rfl), (Nat.le_of_ble_eq_true rfl)⟩ hP hS (isV_k hb0) (by decide) rfl rfl rfl (Nat.le_of_ble_eq_true rfl) dX2_staysHidden_13 ?_
        refine lv_iload_n hx hb dX2_staysHidden_16 rfl (lv_at hl 3 rfl) ?_
        refine lv_icmp_eq (tgt := 22) hx hb dX2_staysHidden_17 (by decide) (fun (c_8 : q_6 = x2) => ?_) (fun (c_8 : ¬ q_6 = x2) => ?_)
        · rw [if_pos c_8] at h
          refine lv_iinc (v := x3_1 + 1) (lv' := [(3, .int (x3_1 + 1)), (0, .ref (a b)), (1, .int x1), (2, .int x2)]) hx hb dX2_staysHidden_22 hl (k := 0) rfl rfl (by decide) rfl (fun ls hl => ?_)
          refine lv_goto (tgt := 2) hx hb dX2_staysHidden_25 (by decide) ?_
          exact ih2 (x3_1 + 1) q_4 _ _ _ h hP hS (lv_sub hl [0, 1, 2, 3] rfl)
        · rw [if_neg c_8] at h
          refine lv_iconst (v := 0) hx hb dX2_staysHidden_20 (by decide) ?_
          exact m_rz hx hb hr hlk hP hS (Or.inl rfl) (Option.some.inj h) dX2_staysHidden_21
  exact L_9 FU 0 σ _ _ _ h hP hS (lv_sub hl [0, 1, 2, 3] rfl)
def f_X5_safe_B36 (x1 : Int32) (x2 : Int32) (q_5 : Int32) (rec36 : Int32 → Mem → Option (Int32 × Mem)) (x4_7 : Int32) (σ_8 : Mem) : Option (Int32 × Mem) := (if 99 < x4_7 then ((f_X5_finding (-1000004) σ_8).bind fun q_10 => some (q_10.1, q_10.2)) else ((f_X2_become 31 1 σ_8).bind fun q_12 => (chk x1 8 ((f_X2_staysHidden 31 x2 q_5 (mst q_12 35 x1.toNatClampNeg x4_7)).bind fun q_15 => (if q_15.1 = 0 then (rec36 (x4_7 + 1) q_15.2) else some (x4_7, q_15.2))))))
def f_X5_safe (x1 : Int32) (x2 : Int32) (σ : Mem) : Option (Int32 × Mem) := (if (f_X5_outside x1 7) = 0 then (if (f_X5_outside x2 60) = 0 then ((f_X2_knowing 1 σ).bind fun q_5 => (it2 (f_X5_safe_B36 x1 x2 q_5) FU 0 σ)) else ((f_X5_finding (-1000001) σ).bind fun q_19 => some (q_19.1, q_19.2))) else ((f_X5_finding (-1000001) σ).bind fun q_2 => some (q_2.1, q_2.2)))
set_option maxHeartbeats 4000000 in
set_option maxRecDepth 100000 in
theorem k_X5_safe (l : Launch) (G : GG) (a : Nat → Nat) (σ : Mem) (hj : INJ nR a) (x1 : Int32) (x2 : Int32) (q : Int32 × Mem) (h : f_X5_safe x1 x2 σ = some q) : Met l yX5_safe (Cond.code yX5_safe cX5_safe 5 (some .int) :: TB) ({ frames := 6, cells := 0, slots := 0, locals := 129 } : Room) (PA G kR nR a σ [.ref (a 0), .int x1, .int x2]) (QI G kR nR a q) 0 0 (AW nR a) := by
  refine M_ofW (by decide) hj kR_lt (Nat.le_of_ble_eq_true rfl) (fun p e s m below meth c ls C0 hb hml hr hlk hP hS hl => ?_)
  have C0 : CT p s _ m RX5 G kR nR a := C0
  have hx := C0.1
  have hts := C0.2.1
  have hown := C0.2.2.1
  have hl : lv_has ls 5 [(0, .ref (a 0)), (1, .int x1), (2, .int x2)] := hl
  unfold f_X5_safe at h
  refine lv_iload_n hx hb dX5_safe_0 rfl (lv_at hl 1 rfl) ?_
  refine lv_bipush (v := 7) hx hb dX5_safe_1 (by decide) ?_
  refine m_pSi (As := [.int x1, .int 7]) (rest := []) C0.z hb hml hl.1 wm_X5_50 md_X5_outside (k_X5_outside l x1 7) rfl rfl ⟨(Nat.le_of_ble_eq_true rfl), (Nat.le_of_ble_eq_true rfl)⟩ rfl rfl (Nat.le_of_ble_eq_true rfl) dX5_safe_3 ?_
  refine lv_if_ne (tgt := 18) hx hb dX5_safe_6 (by decide) (fun (c_1 : ¬ (f_X5_outside x1 7) = 0) => ?_) (fun (c_1 : (f_X5_outside x1 7) = 0) => ?_)
  · rw [if_neg c_1] at h
    refine lv_aload_n hx hb dX5_safe_18 rfl (lv_at hl 0 rfl) ?_
    refine lv_ldc hx hb hown (hts _ wk_X5_54) dX5_safe_19 ?_
    obtain ⟨q_2, hq_3, h⟩ := bd_s h
    refine m_cVi (As := [.int (-1000001)]) (rest := []) (o := 0) (ci := 5) C0 hb hml hl.1 wm_X5_55 md_X5_finding (k_X5_finding l G a σ hj (-1000001) q_2 hq_3) rfl rfl ⟨(Nat.le_of_ble_eq_true rfl), (Nat.le_of_ble_eq_true rfl)⟩ hP hS (rfl : kR 0 = 5) (by decide) rfl rfl rfl (Nat.le_of_ble_eq_true rfl) dX5_safe_21 (fun H locs hP hS => ?_)
    exact m_ri hx hb hr hlk hP hS (Option.some.inj h) dX5_safe_24
  · rw [if_pos c_1] at h
    refine lv_iload_n hx hb dX5_safe_9 rfl (lv_at hl 2 rfl) ?_
    refine lv_bipush (v := 60) hx hb dX5_safe_10 (by decide) ?_
    refine m_pSi (As := [.int x2, .int 60]) (rest := []) C0.z hb hml hl.1 wm_X5_50 md_X5_outside (k_X5_outside l x2 60) rfl rfl ⟨(Nat.le_of_ble_eq_true rfl), (Nat.le_of_ble_eq_true rfl)⟩ rfl rfl (Nat.le_of_ble_eq_true rfl) dX5_safe_12 ?_
    refine lv_if_eq (tgt := 25) hx hb dX5_safe_15 (by decide) (fun (c_4 : (f_X5_outside x2 60) = 0) => ?_) (fun (c_4 : ¬ (f_X5_outside x2 60) = 0) => ?_)
    · rw [if_pos c_4] at h
      refine lv_aload_n hx hb dX5_safe_25 rfl (lv_at hl 0 rfl) ?_
      refine gf_X5_12 (o := 0) (o2 := 1) C0 hb hP (rfl : kR 0 = 5) rfl dX5_safe_26 ?_
      obtain ⟨q_5, hq_6, h⟩ := bd_s h
      refine m_rVi (As := []) (rest := []) (o := 1) (ci := 2) C0 hb hml hl.1 wm_X5_137 md_X2_knowing (k_X2_knowing l G a σ hj 1 v1 q_5 hq_6) rfl rfl ⟨(Nat.le_of_ble_eq_true rfl), (Nat.le_of_ble_eq_true rfl)⟩ hP hS (isV_k v1) (by decide) rfl rfl rfl (Nat.le_of_ble_eq_true rfl) dX5_safe_29 ?_
      refine lv_istore_n (lv' := [(3, .int q_5), (0, .ref (a 0)), (1, .int x1), (2, .int x2)]) hx hb dX5_safe_32 rfl hl (by decide) rfl (fun ls hl => ?_)
      refine lv_iconst (v := 0) hx hb dX5_safe_33 (by decide) ?_
      refine lv_istore (lv' := [(4, .int 0), (3, .int q_5), (0, .ref (a 0)), (1, .int x1), (2, .int x2)]) hx hb dX5_safe_34 hl (by decide) rfl (fun ls hl => ?_)
      have L_18 : ∀ (fu36 : Nat) (x4_7 : Int32) (σ_8 : Mem) (H : Heap) (locs : List Loc) (ls : Array Slot), it2 (f_X5_safe_B36 x1 x2 q_5) fu36 x4_7 σ_8 = some q → HP G kR nR a σ_8 H → va_S (AW nR a) s.heap H locs → lv_has ls 5 [(4, .int x4_7), (3, .int q_5), (0, .ref (a 0)), (1, .int x1), (2, .int x2)] → W p l e ({ frames := 6, cells := 0, slots := 0, locals := 129 } : Room) s m ([.ref (a 0), .int x1, .int x2] : List Value).toArray below meth c H locs 0 0 (MQ below (QI G kR nR a q) ([.ref (a 0), .int x1, .int x2] : List Value).toArray s 0 0 (AW nR a)) (F0 m 36 ls []) := by
        intro fu36
        induction fu36 with
        | zero =>
          intro x4_7 σ_8 H locs ls h
          cases h
        | succ fu36 ih36 =>
          intro x4_7 σ_8 H locs ls h hP hS hl
          replace h : (f_X5_safe_B36 x1 x2 q_5) (it2 (f_X5_safe_B36 x1 x2 q_5) fu36) x4_7 σ_8 = some q := h
          generalize it2 (f_X5_safe_B36 x1 x2 q_5) fu36 = rec36 at h ih36
          unfold f_X5_safe_B36 at h
          refine lv_iload hx hb dX5_safe_36 (lv_at hl 0 rfl) ?_
          refine lv_bipush (v := 99) hx hb dX5_safe_38 (by decide) ?_
          refine lv_icmp_gt (tgt := 89) hx hb dX5_safe_40 (by decide) (fun (c_9 : 99 < x4_7) => ?_) (fun (c_9 : ¬ 99 < x4_7) => ?_)
          · rw [if_pos c_9] at h
            refine lv_aload_n hx hb dX5_safe_89 rfl (lv_at hl 2 rfl) ?_
            refine lv_ldc hx hb hown (hts _ wk_X5_166) dX5_safe_90 ?_
            obtain ⟨q_10, hq_11, h⟩ := bd_s h
            refine m_cVi (As := [.int (-1000004)]) (rest := []) (o := 0) (ci := 5) C0 hb hml hl.1 wm_X5_55 md_X5_finding (k_X5_finding l G a σ_8 hj (-1000004) q_10 hq_11) rfl rfl ⟨(Nat.le_of_ble_eq_true rfl), (Nat.le_of_ble_eq_true rfl)⟩ hP hS (rfl : kR 0 = 5) (by decide) rfl rfl rfl (Nat.le_of_ble_eq_true rfl) dX5_safe_92 (fun H locs hP hS => ?_)
            exact m_ri hx hb hr hlk hP hS (Option.some.inj h) dX5_safe_95
          · rw [if_neg c_9] at h
            refine lv_aload_n hx hb dX5_safe_43 rfl (lv_at hl 2 rfl) ?_
            refine gf_X5_19 (o := 0) (o2 := 31) C0 hb hP (rfl : kR 0 = 5) rfl dX5_safe_44 ?_
            refine lv_aload_n hx hb dX5_safe_47 rfl (lv_at hl 2 rfl) ?_
            refine gf_X5_12 (o := 0) (o2 := 1) C0 hb hP (rfl : kR 0 = 5) rfl dX5_safe_48 ?_
            obtain ⟨q_12, hq_13, h⟩ := bd_s h
            refine m_cVv (As := [.ref (a 1)]) (rest := []) (o := 31) (ci := 2) C0 hb hml hl.1 wm_X5_159 md_X2_become (k_X2_become l G a σ_8 hj 31 v31 1 v1 q_12 hq_13) rfl rfl ⟨(Nat.le_of_ble_eq_true rfl), (Nat.le_of_ble_eq_true rfl)⟩ hP hS (isV_k v31) (by decide) rfl rfl rfl (Nat.le_of_ble_eq_true rfl) dX5_safe_51 (fun H locs hP hS => ?_)
            refine lv_aload_n hx hb dX5_safe_54 rfl (lv_at hl 2 rfl) ?_
            refine gf_X5_19 (o := 0) (o2 := 31) C0 hb hP (rfl : kR 0 = 5) rfl dX5_safe_55 ?_
            refine gf_X5_59 (o := 31) (o2 := 32) C0 hb hP (isV_k v31) rfl dX5_safe_58 ?_
            refine gf_X5_68 (o := 32) (o2 := 35) C0 hb hP (isW_k (isV_w v31)) rfl dX5_safe_61 ?_
            refine lv_iload_n hx hb dX5_safe_64 rfl (lv_at hl 3 rfl) ?_
            refine lv_iload hx hb dX5_safe_65 (lv_at hl 0 rfl) ?_
            obtain ⟨hi_14, h⟩ := chk_s h
            refine m_iast (o := 35) (N := 8) (i := x1) (j := x1.toNatClampNeg) C0 hb hP hS (isW_3 (isV_w v31)) (by decide) hi_14 rfl dX5_safe_67 (fun H locs hP hS => ?_)
            refine lv_aload_n hx hb dX5_safe_68 rfl (lv_at hl 2 rfl) ?_
            refine gf_X5_19 (o := 0) (o2 := 31) C0 hb hP (rfl : kR 0 = 5) rfl dX5_safe_69 ?_
            refine lv_iload_n hx hb dX5_safe_72 rfl (lv_at hl 4 rfl) ?_
            refine lv_iload_n hx hb dX5_safe_73 rfl (lv_at hl 1 rfl) ?_
            obtain ⟨q_15, hq_16, h⟩ := bd_s h
            refine m_cVi (As := [.int x2, .int q_5]) (rest := []) (o := 31) (ci := 2) C0 hb hml hl.1 wm_X5_186 md_X2_staysHidden (k_X2_staysHidden l G a (mst q_12 35 x1.toNatClampNeg x4_7) hj 31 v31 x2 q_5 q_15 hq_16) rfl rfl ⟨(Nat.le_of_ble_eq_true rfl), (Nat.le_of_ble_eq_true rfl)⟩ hP hS (isV_k v31) (by decide) rfl rfl rfl (Nat.le_of_ble_eq_true rfl) dX5_safe_74 (fun H locs hP hS => ?_)
            refine lv_if_eq (tgt := 83) hx hb dX5_safe_77 (by decide) (fun (c_17 : q_15.1 = 0) => ?_) (fun (c_17 : ¬ q_15.1 = 0) => ?_)
            · rw [if_pos c_17] at h
              refine lv_iinc (v := x4_7 + 1) (lv' := [(4, .int (x4_7 + 1)), (3, .int q_5), (0, .ref (a 0)), (1, .int x1), (2, .int x2)]) hx hb dX5_safe_83 hl (k := 0) rfl rfl (by decide) rfl (fun ls hl => ?_)
              refine lv_goto (tgt := 36) hx hb dX5_safe_86 (by decide) ?_
              exact ih36 (x4_7 + 1) q_15.2 _ _ _ h hP hS (lv_sub hl [0, 1, 2, 3, 4] rfl)
            · rw [if_neg c_17] at h
              refine lv_iload hx hb dX5_safe_80 (lv_at hl 0 rfl) ?_
              exact m_ri hx hb hr hlk hP hS (Option.some.inj h) dX5_safe_82
      exact L_18 FU 0 σ _ _ _ h hP hS (lv_sub hl [0, 1, 2, 3, 4] rfl)
    · rw [if_neg c_4] at h
      refine lv_aload_n hx hb dX5_safe_18 rfl (lv_at hl 0 rfl) ?_
      refine lv_ldc hx hb hown (hts _ wk_X5_54) dX5_safe_19 ?_
      obtain ⟨q_19, hq_20, h⟩ := bd_s h
      refine m_cVi (As := [.int (-1000001)]) (rest := []) (o := 0) (ci := 5) C0 hb hml hl.1 wm_X5_55 md_X5_finding (k_X5_finding l G a σ hj (-1000001) q_19 hq_20) rfl rfl ⟨(Nat.le_of_ble_eq_true rfl), (Nat.le_of_ble_eq_true rfl)⟩ hP hS (rfl : kR 0 = 5) (by decide) rfl rfl rfl (Nat.le_of_ble_eq_true rfl) dX5_safe_21 (fun H locs hP hS => ?_)
      exact m_ri hx hb hr hlk hP hS (Option.some.inj h) dX5_safe_24
def f_X2_passShut (b : Nat) (σ : Mem) : Option (Mem) := ((f_X4_flow (b + 1) 0 σ).bind fun q_1 => ((f_X2_liveAll b q_1).bind fun q_3 => some q_3))
set_option maxHeartbeats 4000000 in
set_option maxRecDepth 100000 in
theorem k_X2_passShut (l : Launch) (G : GG) (a : Nat → Nat) (σ : Mem) (hj : INJ nR a) (b : Nat) (hb0 : isV b) (q : Mem) (h : f_X2_passShut b σ = some q) : Met l yX2_passShut (Cond.code yX2_passShut cX2_passShut 1 none :: TB) ({ frames := 4, cells := 0, slots := 0, locals := 84 } : Room) (PA G kR nR a σ [.ref (a b)]) (QV G kR nR a q) 0 0 (AW nR a) := by
  refine M_ofW (by decide) hj kR_lt (Nat.le_of_ble_eq_true rfl) (fun p e s m below meth c ls C0 hb hml hr hlk hP hS hl => ?_)
  have C0 : CT p s _ m RX2 G kR nR a := C0
  have hx := C0.1
  have hts := C0.2.1
  have hown := C0.2.2.1
  have hl : lv_has ls 1 [(0, .ref (a b))] := hl
  unfold f_X2_passShut at h
  refine lv_aload_n hx hb dX2_passShut_0 rfl (lv_at hl 0 rfl) ?_
  refine gf_X2_12 (o := b) (o2 := (b + 1)) C0 hb hP (isV_k hb0) rfl dX2_passShut_1 ?_
  refine lv_iconst (v := 0) hx hb dX2_passShut_4 (by decide) ?_
  obtain ⟨q_1, hq_2, h⟩ := bd_s h
  refine m_cVv (As := [.int 0]) (rest := []) (o := (b + 1)) (ci := 4) C0 hb hml hl.1 wm_X2_60 md_X4_flow (k_X4_flow l G a σ hj (b + 1) (isV_w hb0) 0 q_1 hq_2) rfl rfl ⟨(Nat.le_of_ble_eq_true rfl), (Nat.le_of_ble_eq_true rfl)⟩ hP hS (isW_k (isV_w hb0)) (by decide) rfl rfl rfl (Nat.le_of_ble_eq_true rfl) dX2_passShut_5 (fun H locs hP hS => ?_)
  refine lv_aload_n hx hb dX2_passShut_8 rfl (lv_at hl 0 rfl) ?_
  obtain ⟨q_3, hq_4, h⟩ := bd_s h
  refine m_cVv (As := []) (rest := []) (o := b) (ci := 2) C0 hb hml hl.1 wm_X2_57 md_X2_liveAll (k_X2_liveAll l G a q_1 hj b hb0 q_3 hq_4) rfl rfl ⟨(Nat.le_of_ble_eq_true rfl), (Nat.le_of_ble_eq_true rfl)⟩ hP hS (isV_k hb0) (by decide) rfl rfl rfl (Nat.le_of_ble_eq_true rfl) dX2_passShut_9 (fun H locs hP hS => ?_)
  exact m_rv hx hb hr hlk hP hS (Option.some.inj h) dX2_passShut_12
def f_X5_sleep_J97 (x3_6 : Int32) (σ_8 : Mem) : Option (Int32 × Mem) := (if 0 ≤ x3_6 then some (x3_6, σ_8) else ((f_X5_finding (-1000004) σ_8).bind fun q_10 => some (q_10.1, q_10.2)))
def f_X5_sleep_J84 (x4_7 : Int32) (rec40 : Int32 → Int32 → Mem → Option (Int32 × Mem)) (q_19 : Int32 × Mem) (x3_21 : Int32) : Option (Int32 × Mem) := ((f_X2_passShut 46 q_19.2).bind fun q_22 => (rec40 x3_21 (x4_7 + 1) q_22))
def f_X5_sleep_B40 (x1 : Int32) (q_2 : Int32) (rec40 : Int32 → Int32 → Mem → Option (Int32 × Mem)) (x3_6 : Int32) (x4_7 : Int32) (σ_8 : Mem) : Option (Int32 × Mem) := (if 60 < x4_7 then (f_X5_sleep_J97 x3_6 σ_8) else ((f_X2_knowing 46 σ_8).bind fun q_14 => (if q_14 = q_2 then ((f_X2_become 31 46 σ_8).bind fun q_17 => ((f_X2_staysHidden 31 x1 q_2 q_17).bind fun q_19 => (f_X5_sleep_J84 x4_7 rec40 q_19 (if q_19.1 = 0 then x3_6 else x4_7)))) else (f_X5_sleep_J97 x3_6 σ_8))))
def f_X5_sleep (x1 : Int32) (σ : Mem) : Option (Int32 × Mem) := (if (f_X5_outside x1 20) = 0 then ((f_X2_knowing 1 σ).bind fun q_2 => ((f_X2_become 46 1 σ).bind fun q_4 => (it3 (f_X5_sleep_B40 x1 q_2) FU (-1) 0 q_4))) else ((f_X5_finding (-1000001) σ).bind fun q_27 => some (q_27.1, q_27.2)))
set_option maxHeartbeats 4000000 in
set_option maxRecDepth 100000 in
theorem k_X5_sleep (l : Launch) (G : GG) (a : Nat → Nat) (σ : Mem) (hj : INJ nR a) (x1 : Int32) (q : Int32 × Mem) (h : f_X5_sleep x1 σ = some q) : Met l yX5_sleep (Cond.code yX5_sleep cX5_sleep 5 (some .int) :: TB) ({ frames := 6, cells := 0, slots := 0, locals := 129 } : Room) (PA G kR nR a σ [.ref (a 0), .int x1]) (QI G kR nR a q) 0 0 (AW nR a) := by
  refine M_ofW (by decide) hj kR_lt (Nat.le_of_ble_eq_true rfl) (fun p e s m below meth c ls C0 hb hml hr hlk hP hS hl => ?_)
  have C0 : CT p s _ m RX5 G kR nR a := C0
  have hx := C0.1
  have hts := C0.2.1
  have hown := C0.2.2.1
  have hl : lv_has ls 5 [(0, .ref (a 0)), (1, .int x1)] := hl
  unfold f_X5_sleep at h
  refine lv_iload_n hx hb dX5_sleep_0 rfl (lv_at hl 1 rfl) ?_
  refine lv_bipush (v := 20) hx hb dX5_sleep_1 (by decide) ?_
  refine m_pSi (As := [.int x1, .int 20]) (rest := []) C0.z hb hml hl.1 wm_X5_50 md_X5_outside (k_X5_outside l x1 20) rfl rfl ⟨(Nat.le_of_ble_eq_true rfl), (Nat.le_of_ble_eq_true rfl)⟩ rfl rfl (Nat.le_of_ble_eq_true rfl) dX5_sleep_3 ?_
  refine lv_if_eq (tgt := 16) hx hb dX5_sleep_6 (by decide) (fun (c_1 : (f_X5_outside x1 20) = 0) => ?_) (fun (c_1 : ¬ (f_X5_outside x1 20) = 0) => ?_)
  · rw [if_pos c_1] at h
    refine lv_aload_n hx hb dX5_sleep_16 rfl (lv_at hl 0 rfl) ?_
    refine gf_X5_12 (o := 0) (o2 := 1) C0 hb hP (rfl : kR 0 = 5) rfl dX5_sleep_17 ?_
    obtain ⟨q_2, hq_3, h⟩ := bd_s h
    refine m_rVi (As := []) (rest := []) (o := 1) (ci := 2) C0 hb hml hl.1 wm_X5_137 md_X2_knowing (k_X2_knowing l G a σ hj 1 v1 q_2 hq_3) rfl rfl ⟨(Nat.le_of_ble_eq_true rfl), (Nat.le_of_ble_eq_true rfl)⟩ hP hS (isV_k v1) (by decide) rfl rfl rfl (Nat.le_of_ble_eq_true rfl) dX5_sleep_20 ?_
    refine lv_istore_n (lv' := [(2, .int q_2), (0, .ref (a 0)), (1, .int x1)]) hx hb dX5_sleep_23 rfl hl (by decide) rfl (fun ls hl => ?_)
    refine lv_iconst (v := (-1)) hx hb dX5_sleep_24 (by decide) ?_
    refine lv_istore_n (lv' := [(3, .int (-1)), (2, .int q_2), (0, .ref (a 0)), (1, .int x1)]) hx hb dX5_sleep_25 rfl hl (by decide) rfl (fun ls hl => ?_)
    refine lv_aload_n hx hb dX5_sleep_26 rfl (lv_at hl 2 rfl) ?_
    refine gf_X5_22 (o := 0) (o2 := 46) C0 hb hP (rfl : kR 0 = 5) rfl dX5_sleep_27 ?_
    refine lv_aload_n hx hb dX5_sleep_30 rfl (lv_at hl 2 rfl) ?_
    refine gf_X5_12 (o := 0) (o2 := 1) C0 hb hP (rfl : kR 0 = 5) rfl dX5_sleep_31 ?_
    obtain ⟨q_4, hq_5, h⟩ := bd_s h
    refine m_cVv (As := [.ref (a 1)]) (rest := []) (o := 46) (ci := 2) C0 hb hml hl.1 wm_X5_159 md_X2_become (k_X2_become l G a σ hj 46 v46 1 v1 q_4 hq_5) rfl rfl ⟨(Nat.le_of_ble_eq_true rfl), (Nat.le_of_ble_eq_true rfl)⟩ hP hS (isV_k v46) (by decide) rfl rfl rfl (Nat.le_of_ble_eq_true rfl) dX5_sleep_34 (fun H locs hP hS => ?_)
    refine lv_iconst (v := 0) hx hb dX5_sleep_37 (by decide) ?_
    refine lv_istore (lv' := [(4, .int 0), (3, .int (-1)), (2, .int q_2), (0, .ref (a 0)), (1, .int x1)]) hx hb dX5_sleep_38 hl (by decide) rfl (fun ls hl => ?_)
    have L_26 : ∀ (fu40 : Nat) (x3_6 : Int32) (x4_7 : Int32) (σ_8 : Mem) (H : Heap) (locs : List Loc) (ls : Array Slot), it3 (f_X5_sleep_B40 x1 q_2) fu40 x3_6 x4_7 σ_8 = some q → HP G kR nR a σ_8 H → va_S (AW nR a) s.heap H locs → lv_has ls 5 [(4, .int x4_7), (3, .int x3_6), (2, .int q_2), (0, .ref (a 0)), (1, .int x1)] → W p l e ({ frames := 6, cells := 0, slots := 0, locals := 129 } : Room) s m ([.ref (a 0), .int x1] : List Value).toArray below meth c H locs 0 0 (MQ below (QI G kR nR a q) ([.ref (a 0), .int x1] : List Value).toArray s 0 0 (AW nR a)) (F0 m 40 ls []) := by
      intro fu40
      induction fu40 with
      | zero =>
        intro x3_6 x4_7 σ_8 H locs ls h
        cases h
      | succ fu40 ih40 =>
        intro x3_6 x4_7 σ_8 H locs ls h hP hS hl
        replace h : (f_X5_sleep_B40 x1 q_2) (it3 (f_X5_sleep_B40 x1 q_2) fu40) x3_6 x4_7 σ_8 = some q := h
        generalize it3 (f_X5_sleep_B40 x1 q_2) fu40 = rec40 at h ih40
        unfold f_X5_sleep_B40 at h
        refine lv_iload hx hb dX5_sleep_40 (lv_at hl 0 rfl) ?_
        refine lv_bipush (v := 60) hx hb dX5_sleep_42 (by decide) ?_
        have J_12 : ∀  (H : Heap) (locs : List Loc) (ls : Array Slot), f_X5_sleep_J97 x3_6 σ_8 = some q → HP G kR nR a σ_8 H → va_S (AW nR a) s.heap H locs → lv_has ls 5 [(3, .int x3_6), (0, .ref (a 0))] → W p l e ({ frames := 6, cells := 0, slots := 0, locals := 129 } : Room) s m ([.ref (a 0), .int x1] : List Value).toArray below meth c H locs 0 0 (MQ below (QI G kR nR a q) ([.ref (a 0), .int x1] : List Value).toArray s 0 0 (AW nR a)) (F0 m 97 ls []) := by
          intro  H locs ls h hP hS hl
          unfold f_X5_sleep_J97 at h
          refine lv_iload_n hx hb dX5_sleep_97 rfl (lv_at hl 0 rfl) ?_
          refine lv_if_ge (tgt := 110) hx hb dX5_sleep_98 (by decide) (fun (c_9 : 0 ≤ x3_6) => ?_) (fun (c_9 : ¬ 0 ≤ x3_6) => ?_)
          · rw [if_pos c_9] at h
            refine lv_iload_n hx hb dX5_sleep_110 rfl (lv_at hl 0 rfl) ?_
            exact m_ri hx hb hr hlk hP hS (Option.some.inj h) dX5_sleep_111
          · rw [if_neg c_9] at h
            refine lv_aload_n hx hb dX5_sleep_101 rfl (lv_at hl 1 rfl) ?_
            refine lv_ldc hx hb hown (hts _ wk_X5_166) dX5_sleep_102 ?_
            obtain ⟨q_10, hq_11, h⟩ := bd_s h
            refine m_cVi (As := [.int (-1000004)]) (rest := []) (o := 0) (ci := 5) C0 hb hml hl.1 wm_X5_55 md_X5_finding (k_X5_finding l G a σ_8 hj (-1000004) q_10 hq_11) rfl rfl ⟨(Nat.le_of_ble_eq_true rfl), (Nat.le_of_ble_eq_true rfl)⟩ hP hS (rfl : kR 0 = 5) (by decide) rfl rfl rfl (Nat.le_of_ble_eq_true rfl) dX5_sleep_104 (fun H locs hP hS => ?_)
            refine lv_goto (tgt := 111) hx hb dX5_sleep_107 (by decide) ?_
            exact m_ri hx hb hr hlk hP hS (Option.some.inj h) dX5_sleep_111
        refine lv_icmp_gt (tgt := 97) hx hb dX5_sleep_44 (by decide) (fun (c_13 : 60 < x4_7) => ?_) (fun (c_13 : ¬ 60 < x4_7) => ?_)
        · rw [if_pos c_13] at h
          exact J_12  _ _ _ h hP hS (lv_sub hl [1, 3] rfl)
        · rw [if_neg c_13] at h
          refine lv_aload_n hx hb dX5_sleep_47 rfl (lv_at hl 3 rfl) ?_
          refine gf_X5_22 (o := 0) (o2 := 46) C0 hb hP (rfl : kR 0 = 5) rfl dX5_sleep_48 ?_
          obtain ⟨q_14, hq_15, h⟩ := bd_s h
          refine m_rVi (As := []) (rest := []) (o := 46) (ci := 2) C0 hb hml hl.1 wm_X5_137 md_X2_knowing (k_X2_knowing l G a σ_8 hj 46 v46 q_14 hq_15) rfl rfl ⟨(Nat.le_of_ble_eq_true rfl), (Nat.le_of_ble_eq_true rfl)⟩ hP hS (isV_k v46) (by decide) rfl rfl rfl (Nat.le_of_ble_eq_true rfl) dX5_sleep_51 ?_
          refine lv_iload_n hx hb dX5_sleep_54 rfl (lv_at hl 2 rfl) ?_
          refine lv_icmp_ne (tgt := 97) hx hb dX5_sleep_55 (by decide) (fun (c_16 : ¬ q_14 = q_2) => ?_) (fun (c_16 : q_14 = q_2) => ?_)
          · rw [if_neg c_16] at h
            exact J_12  _ _ _ h hP hS (lv_sub hl [1, 3] rfl)
          · rw [if_pos c_16] at h
            refine lv_aload_n hx hb dX5_sleep_58 rfl (lv_at hl 3 rfl) ?_
            refine gf_X5_19 (o := 0) (o2 := 31) C0 hb hP (rfl : kR 0 = 5) rfl dX5_sleep_59 ?_
            refine lv_aload_n hx hb dX5_sleep_62 rfl (lv_at hl 3 rfl) ?_
            refine gf_X5_22 (o := 0) (o2 := 46) C0 hb hP (rfl : kR 0 = 5) rfl dX5_sleep_63 ?_
            obtain ⟨q_17, hq_18, h⟩ := bd_s h
            refine m_cVv (As := [.ref (a 46)]) (rest := []) (o := 31) (ci := 2) C0 hb hml hl.1 wm_X5_159 md_X2_become (k_X2_become l G a σ_8 hj 31 v31 46 v46 q_17 hq_18) rfl rfl ⟨(Nat.le_of_ble_eq_true rfl), (Nat.le_of_ble_eq_true rfl)⟩ hP hS (isV_k v31) (by decide) rfl rfl rfl (Nat.le_of_ble_eq_true rfl) dX5_sleep_66 (fun H locs hP hS => ?_)
            refine lv_aload_n hx hb dX5_sleep_69 rfl (lv_at hl 3 rfl) ?_
            refine gf_X5_19 (o := 0) (o2 := 31) C0 hb hP (rfl : kR 0 = 5) rfl dX5_sleep_70 ?_
            refine lv_iload_n hx hb dX5_sleep_73 rfl (lv_at hl 4 rfl) ?_
            refine lv_iload_n hx hb dX5_sleep_74 rfl (lv_at hl 2 rfl) ?_
            obtain ⟨q_19, hq_20, h⟩ := bd_s h
            refine m_cVi (As := [.int x1, .int q_2]) (rest := []) (o := 31) (ci := 2) C0 hb hml hl.1 wm_X5_186 md_X2_staysHidden (k_X2_staysHidden l G a q_17 hj 31 v31 x1 q_2 q_19 hq_20) rfl rfl ⟨(Nat.le_of_ble_eq_true rfl), (Nat.le_of_ble_eq_true rfl)⟩ hP hS (isV_k v31) (by decide) rfl rfl rfl (Nat.le_of_ble_eq_true rfl) dX5_sleep_75 (fun H locs hP hS => ?_)
            have J_24 : ∀ (x3_21 : Int32) (H : Heap) (locs : List Loc) (ls : Array Slot), f_X5_sleep_J84 x4_7 rec40 q_19 x3_21 = some q → HP G kR nR a q_19.2 H → va_S (AW nR a) s.heap H locs → lv_has ls 5 [(4, .int x4_7), (3, .int x3_21), (2, .int q_2), (0, .ref (a 0)), (1, .int x1)] → W p l e ({ frames := 6, cells := 0, slots := 0, locals := 129 } : Room) s m ([.ref (a 0), .int x1] : List Value).toArray below meth c H locs 0 0 (MQ below (QI G kR nR a q) ([.ref (a 0), .int x1] : List Value).toArray s 0 0 (AW nR a)) (F0 m 84 ls []) := by
              intro x3_21 H locs ls h hP hS hl
              unfold f_X5_sleep_J84 at h
              refine lv_aload_n hx hb dX5_sleep_84 rfl (lv_at hl 3 rfl) ?_
              refine gf_X5_22 (o := 0) (o2 := 46) C0 hb hP (rfl : kR 0 = 5) rfl dX5_sleep_85 ?_
              obtain ⟨q_22, hq_23, h⟩ := bd_s h
              refine m_cVv (As := []) (rest := []) (o := 46) (ci := 2) C0 hb hml hl.1 wm_X5_189 md_X2_passShut (k_X2_passShut l G a q_19.2 hj 46 v46 q_22 hq_23) rfl rfl ⟨(Nat.le_of_ble_eq_true rfl), (Nat.le_of_ble_eq_true rfl)⟩ hP hS (isV_k v46) (by decide) rfl rfl rfl (Nat.le_of_ble_eq_true rfl) dX5_sleep_88 (fun H locs hP hS => ?_)
              refine lv_iinc (v := x4_7 + 1) (lv' := [(4, .int (x4_7 + 1)), (3, .int x3_21), (2, .int q_2), (0, .ref (a 0)), (1, .int x1)]) hx hb dX5_sleep_91 hl (k := 0) rfl rfl (by decide) rfl (fun ls hl => ?_)
              refine lv_goto (tgt := 40) hx hb dX5_sleep_94 (by decide) ?_
              exact ih40 x3_21 (x4_7 + 1) q_22 _ _ _ h hP hS (lv_sub hl [0, 1, 2, 3, 4] rfl)
            refine lv_if_eq (tgt := 84) hx hb dX5_sleep_78 (by decide) (fun (c_25 : q_19.1 = 0) => ?_) (fun (c_25 : ¬ q_19.1 = 0) => ?_)
            · rw [if_pos c_25] at h
              exact J_24 x3_6 _ _ _ h hP hS (lv_sub hl [0, 1, 2, 3, 4] rfl)
            · rw [if_neg c_25] at h
              refine lv_iload hx hb dX5_sleep_81 (lv_at hl 0 rfl) ?_
              refine lv_istore_n (lv' := [(3, .int x4_7), (4, .int x4_7), (2, .int q_2), (0, .ref (a 0)), (1, .int x1)]) hx hb dX5_sleep_83 rfl hl (by decide) rfl (fun ls hl => ?_)
              exact J_24 x4_7 _ _ _ h hP hS (lv_sub hl [1, 0, 2, 3, 4] rfl)
    exact L_26 FU (-1) 0 q_4 _ _ _ h hP hS (lv_sub hl [0, 1, 2, 3, 4] rfl)
  · rw [if_neg c_1] at h
    refine lv_aload_n hx hb dX5_sleep_9 rfl (lv_at hl 0 rfl) ?_
    refine lv_ldc hx hb hown (hts _ wk_X5_54) dX5_sleep_10 ?_
    obtain ⟨q_27, hq_28, h⟩ := bd_s h
    refine m_cVi (As := [.int (-1000001)]) (rest := []) (o := 0) (ci := 5) C0 hb hml hl.1 wm_X5_55 md_X5_finding (k_X5_finding l G a σ hj (-1000001) q_27 hq_28) rfl rfl ⟨(Nat.le_of_ble_eq_true rfl), (Nat.le_of_ble_eq_true rfl)⟩ hP hS (rfl : kR 0 = 5) (by decide) rfl rfl rfl (Nat.le_of_ble_eq_true rfl) dX5_sleep_12 (fun H locs hP hS => ?_)
    exact m_ri hx hb hr hlk hP hS (Option.some.inj h) dX5_sleep_15
def f_X5_turns_J41 (x3_2 : Int32) (rec15 : Int32 → Int32 → Option (Int32)) (x2_6 : Int32) : Option (Int32) := (rec15 x2_6 (x3_2 + 1))
def f_X5_turns_B15 (σ : Mem) (rec15 : Int32 → Int32 → Option (Int32)) (x2_1 : Int32) (x3_2 : Int32) : Option (Int32) := (if 8 ≤ x3_2 then some x2_1 else (chk x3_2 8 (chk (jrem ((x3_2 + 8) - 1) 8) 8 (f_X5_turns_J41 x3_2 rec15 (if (σ 5 x3_2.toNatClampNeg) = (σ 5 ((jrem ((x3_2 + 8) - 1) 8).toNatClampNeg)) then x2_1 else x2_1 + 1)))))
def f_X5_turns (σ : Mem) : Option (Int32) := (it2 (f_X5_turns_B15 σ) FU 0 0)
set_option maxHeartbeats 4000000 in
set_option maxRecDepth 100000 in
theorem k_X5_turns (l : Launch) (G : GG) (a : Nat → Nat) (σ : Mem) (hj : INJ nR a)  (q : Int32) (h : f_X5_turns σ = some q) : Met l yX5_turns (Cond.code yX5_turns cX5_turns 4 (some .int) :: TB) ({ frames := 0, cells := 0, slots := 0, locals := 0 } : Room) (PA G kR nR a σ [.ref (a 0)]) (SI q) 0 0 NF := by
  refine M_ofW (by decide) hj kR_lt (Nat.le_of_ble_eq_true rfl) (fun p e s m below meth c ls C0 hb hml hr hlk hP hS hl => ?_)
  have C0 : CT p s _ m RX5 G kR nR a := C0
  have hx := C0.1
  have hts := C0.2.1
  have hown := C0.2.2.1
  have hl : lv_has ls 4 [(0, .ref (a 0))] := hl
  unfold f_X5_turns at h
  refine lv_aload_n hx hb dX5_turns_0 rfl (lv_at hl 0 rfl) ?_
  refine gf_X5_12 (o := 0) (o2 := 1) C0 hb hP (rfl : kR 0 = 5) rfl dX5_turns_1 ?_
  refine gf_X5_59 (o := 1) (o2 := 2) C0 hb hP (isV_k v1) rfl dX5_turns_4 ?_
  refine gf_X5_68 (o := 2) (o2 := 5) C0 hb hP (isW_k (isV_w v1)) rfl dX5_turns_7 ?_
  refine lv_astore_n (lv' := [(1, .ref (a 5)), (0, .ref (a 0))]) hx hb dX5_turns_10 rfl hl (by decide) rfl (fun ls hl => ?_)
  refine lv_iconst (v := 0) hx hb dX5_turns_11 (by decide) ?_
  refine lv_istore_n (lv' := [(2, .int 0), (1, .ref (a 5)), (0, .ref (a 0))]) hx hb dX5_turns_12 rfl hl (by decide) rfl (fun ls hl => ?_)
  refine lv_iconst (v := 0) hx hb dX5_turns_13 (by decide) ?_
  refine lv_istore_n (lv' := [(3, .int 0), (2, .int 0), (1, .ref (a 5)), (0, .ref (a 0))]) hx hb dX5_turns_14 rfl hl (by decide) rfl (fun ls hl => ?_)
  have L_9 : ∀ (fu15 : Nat) (x2_1 : Int32) (x3_2 : Int32) (ls : Array Slot), it2 (f_X5_turns_B15 σ) fu15 x2_1 x3_2 = some q → lv_has ls 4 [(3, .int x3_2), (2, .int x2_1), (1, .ref (a 5))] → W p l e ({ frames := 0, cells := 0, slots := 0, locals := 0 } : Room) s m ([.ref (a 0)] : List Value).toArray below meth c s.heap [] 0 0 (MQ below (SI q) ([.ref (a 0)] : List Value).toArray s 0 0 NF) (F0 m 15 ls []) := by
    intro fu15
    induction fu15 with
    | zero =>
      intro x2_1 x3_2 ls h
      cases h
    | succ fu15 ih15 =>
      intro x2_1 x3_2 ls h hl
      replace h : (f_X5_turns_B15 σ) (it2 (f_X5_turns_B15 σ) fu15) x2_1 x3_2 = some q := h
      generalize it2 (f_X5_turns_B15 σ) fu15 = rec15 at h ih15
      unfold f_X5_turns_B15 at h
      refine lv_iload_n hx hb dX5_turns_15 rfl (lv_at hl 0 rfl) ?_
      refine lv_bipush (v := 8) hx hb dX5_turns_16 (by decide) ?_
      refine lv_icmp_ge (tgt := 47) hx hb dX5_turns_18 (by decide) (fun (c_3 : 8 ≤ x3_2) => ?_) (fun (c_3 : ¬ 8 ≤ x3_2) => ?_)
      · rw [if_pos c_3] at h
        refine lv_iload_n hx hb dX5_turns_47 rfl (lv_at hl 1 rfl) ?_
        exact m_si hx hb hr hlk (Option.some.inj h) dX5_turns_48
      · rw [if_neg c_3] at h
        refine lv_aload_n hx hb dX5_turns_21 rfl (lv_at hl 2 rfl) ?_
        refine lv_iload_n hx hb dX5_turns_22 rfl (lv_at hl 0 rfl) ?_
        obtain ⟨hi_4, h⟩ := chk_s h
        refine m_iald (o := 5) (N := 8) (i := x3_2) (j := x3_2.toNatClampNeg) C0 hb hP (isW_3 (isV_w v1)) (by decide) hi_4 rfl dX5_turns_23 ?_
        refine lv_aload_n hx hb dX5_turns_24 rfl (lv_at hl 2 rfl) ?_
        refine lv_iload_n hx hb dX5_turns_25 rfl (lv_at hl 0 rfl) ?_
        refine lv_bipush (v := 8) hx hb dX5_turns_26 (by decide) ?_
        refine lv_iadd hx hb dX5_turns_28 ?_
        refine lv_iconst (v := 1) hx hb dX5_turns_29 (by decide) ?_
        refine lv_isub hx hb dX5_turns_30 ?_
        refine lv_bipush (v := 8) hx hb dX5_turns_31 (by decide) ?_
        refine lv_irem hx hb dX5_turns_33 (by decide) ?_
        obtain ⟨hi_5, h⟩ := chk_s h
        refine m_iald (o := 5) (N := 8) (i := jrem ((x3_2 + 8) - 1) 8) (j := (jrem ((x3_2 + 8) - 1) 8).toNatClampNeg) C0 hb hP (isW_3 (isV_w v1)) (by decide) hi_5 rfl dX5_turns_34 ?_
        have J_7 : ∀ (x2_6 : Int32) (ls : Array Slot), f_X5_turns_J41 x3_2 rec15 x2_6 = some q → lv_has ls 4 [(3, .int x3_2), (2, .int x2_6), (1, .ref (a 5))] → W p l e ({ frames := 0, cells := 0, slots := 0, locals := 0 } : Room) s m ([.ref (a 0)] : List Value).toArray below meth c s.heap [] 0 0 (MQ below (SI q) ([.ref (a 0)] : List Value).toArray s 0 0 NF) (F0 m 41 ls []) := by
          intro x2_6 ls h hl
          unfold f_X5_turns_J41 at h
          refine lv_iinc (v := x3_2 + 1) (lv' := [(3, .int (x3_2 + 1)), (2, .int x2_6), (1, .ref (a 5))]) hx hb dX5_turns_41 hl (k := 0) rfl rfl (by decide) rfl (fun ls hl => ?_)
          refine lv_goto (tgt := 15) hx hb dX5_turns_44 (by decide) ?_
          exact ih15 x2_6 (x3_2 + 1) _ h (lv_sub hl [0, 1, 2] rfl)
        refine lv_icmp_eq (tgt := 41) hx hb dX5_turns_35 (by decide) (fun (c_8 : (σ 5 x3_2.toNatClampNeg) = (σ 5 ((jrem ((x3_2 + 8) - 1) 8).toNatClampNeg))) => ?_) (fun (c_8 : ¬ (σ 5 x3_2.toNatClampNeg) = (σ 5 ((jrem ((x3_2 + 8) - 1) 8).toNatClampNeg))) => ?_)
        · rw [if_pos c_8] at h
          exact J_7 x2_1 _ h (lv_sub hl [0, 1, 2] rfl)
        · rw [if_neg c_8] at h
          refine lv_iinc (v := x2_1 + 1) (lv' := [(2, .int (x2_1 + 1)), (3, .int x3_2), (1, .ref (a 5))]) hx hb dX5_turns_38 hl (k := 1) rfl rfl (by decide) rfl (fun ls hl => ?_)
          exact J_7 (x2_1 + 1) _ h (lv_sub hl [1, 0, 2] rfl)
  exact L_9 FU 0 0 _ h (lv_sub hl [0, 1, 2] rfl)
def f_X5_mostBelieving_J82 (x6_3 : Int32) (rec9 : Int32 → Int32 → Int32 → Mem → Option (Int32 × Mem)) (q_9 : Mem) (x5_12 : Int32) (x4_13 : Int32) : Option (Int32 × Mem) := (rec9 x4_13 x5_12 (x6_3 + 1) q_9)
def f_X5_mostBelieving_B9 (x1 : Int32) (x2 : Int32) (x3 : Int32) (rec9 : Int32 → Int32 → Int32 → Mem → Option (Int32 × Mem)) (x4_1 : Int32) (x5_2 : Int32) (x6_3 : Int32) (σ_4 : Mem) : Option (Int32 × Mem) := (if (f_X5_mostOf x2) < x6_3 then some (x4_1, σ_4) else ((f_X2_become 31 1 σ_4).bind fun q_6 => (chk x1 8 ((f_X2_pass 31 x3 ((f_X3_set (38 + x1.toNatClampNeg) x2 x6_3 q_6).2)).bind fun q_9 => (chk x1 8 (if (q_9 (38 + x1.toNatClampNeg) 3) ≤ x5_2 then (f_X5_mostBelieving_J82 x6_3 rec9 q_9 x5_2 x4_1) else (f_X5_mostBelieving_J82 x6_3 rec9 q_9 (q_9 (38 + x1.toNatClampNeg) 3) x6_3)))))))
def f_X5_mostBelieving (x1 : Int32) (x2 : Int32) (x3 : Int32) (σ : Mem) : Option (Int32 × Mem) := (it4 (f_X5_mostBelieving_B9 x1 x2 x3) FU 0 (-1) 0 σ)
set_option maxHeartbeats 4000000 in
set_option maxRecDepth 100000 in
theorem k_X5_mostBelieving (l : Launch) (G : GG) (a : Nat → Nat) (σ : Mem) (hj : INJ nR a) (x1 : Int32) (x2 : Int32) (x3 : Int32) (q : Int32 × Mem) (h : f_X5_mostBelieving x1 x2 x3 σ = some q) : Met l yX5_mostBelieving (Cond.code yX5_mostBelieving cX5_mostBelieving 8 (some .int) :: TB) ({ frames := 5, cells := 0, slots := 0, locals := 106 } : Room) (PA G kR nR a σ [.ref (a 0), .int x1, .int x2, .int x3]) (QI G kR nR a q) 0 0 (AW nR a) := by
  refine M_ofW (by decide) hj kR_lt (Nat.le_of_ble_eq_true rfl) (fun p e s m below meth c ls C0 hb hml hr hlk hP hS hl => ?_)
  have C0 : CT p s _ m RX5 G kR nR a := C0
  have hx := C0.1
  have hts := C0.2.1
  have hown := C0.2.2.1
  have hl : lv_has ls 8 [(0, .ref (a 0)), (1, .int x1), (2, .int x2), (3, .int x3)] := hl
  unfold f_X5_mostBelieving at h
  refine lv_iconst (v := 0) hx hb dX5_mostBelieving_0 (by decide) ?_
  refine lv_istore (lv' := [(4, .int 0), (0, .ref (a 0)), (1, .int x1), (2, .int x2), (3, .int x3)]) hx hb dX5_mostBelieving_1 hl (by decide) rfl (fun ls hl => ?_)
  refine lv_iconst (v := (-1)) hx hb dX5_mostBelieving_3 (by decide) ?_
  refine lv_istore (lv' := [(5, .int (-1)), (4, .int 0), (0, .ref (a 0)), (1, .int x1), (2, .int x2), (3, .int x3)]) hx hb dX5_mostBelieving_4 hl (by decide) rfl (fun ls hl => ?_)
  refine lv_iconst (v := 0) hx hb dX5_mostBelieving_6 (by decide) ?_
  refine lv_istore (lv' := [(6, .int 0), (5, .int (-1)), (4, .int 0), (0, .ref (a 0)), (1, .int x1), (2, .int x2), (3, .int x3)]) hx hb dX5_mostBelieving_7 hl (by decide) rfl (fun ls hl => ?_)
  have L_16 : ∀ (fu9 : Nat) (x4_1 : Int32) (x5_2 : Int32) (x6_3 : Int32) (σ_4 : Mem) (H : Heap) (locs : List Loc) (ls : Array Slot), it4 (f_X5_mostBelieving_B9 x1 x2 x3) fu9 x4_1 x5_2 x6_3 σ_4 = some q → HP G kR nR a σ_4 H → va_S (AW nR a) s.heap H locs → lv_has ls 8 [(6, .int x6_3), (5, .int x5_2), (4, .int x4_1), (0, .ref (a 0)), (1, .int x1), (2, .int x2), (3, .int x3)] → W p l e ({ frames := 5, cells := 0, slots := 0, locals := 106 } : Room) s m ([.ref (a 0), .int x1, .int x2, .int x3] : List Value).toArray below meth c H locs 0 0 (MQ below (QI G kR nR a q) ([.ref (a 0), .int x1, .int x2, .int x3] : List Value).toArray s 0 0 (AW nR a)) (F0 m 9 ls []) := by
    intro fu9
    induction fu9 with
    | zero =>
      intro x4_1 x5_2 x6_3 σ_4 H locs ls h
      cases h
    | succ fu9 ih9 =>
      intro x4_1 x5_2 x6_3 σ_4 H locs ls h hP hS hl
      replace h : (f_X5_mostBelieving_B9 x1 x2 x3) (it4 (f_X5_mostBelieving_B9 x1 x2 x3) fu9) x4_1 x5_2 x6_3 σ_4 = some q := h
      generalize it4 (f_X5_mostBelieving_B9 x1 x2 x3) fu9 = rec9 at h ih9
      unfold f_X5_mostBelieving_B9 at h
      refine lv_iload hx hb dX5_mostBelieving_9 (lv_at hl 0 rfl) ?_
      refine lv_iload_n hx hb dX5_mostBelieving_11 rfl (lv_at hl 5 rfl) ?_
      refine m_pSi (As := [.int x2]) (rest := [.int x6_3]) C0.z hb hml hl.1 wm_X5_123 md_X5_mostOf (k_X5_mostOf l x2) rfl rfl ⟨(Nat.le_of_ble_eq_true rfl), (Nat.le_of_ble_eq_true rfl)⟩ rfl rfl (Nat.le_of_ble_eq_true rfl) dX5_mostBelieving_12 ?_
      refine lv_icmp_gt (tgt := 88) hx hb dX5_mostBelieving_15 (by decide) (fun (c_5 : (f_X5_mostOf x2) < x6_3) => ?_) (fun (c_5 : ¬ (f_X5_mostOf x2) < x6_3) => ?_)
      · rw [if_pos c_5] at h
        refine lv_iload hx hb dX5_mostBelieving_88 (lv_at hl 2 rfl) ?_
        exact m_ri hx hb hr hlk hP hS (Option.some.inj h) dX5_mostBelieving_90
      · rw [if_neg c_5] at h
        refine lv_aload_n hx hb dX5_mostBelieving_18 rfl (lv_at hl 3 rfl) ?_
        refine gf_X5_19 (o := 0) (o2 := 31) C0 hb hP (rfl : kR 0 = 5) rfl dX5_mostBelieving_19 ?_
        refine lv_aload_n hx hb dX5_mostBelieving_22 rfl (lv_at hl 3 rfl) ?_
        refine gf_X5_12 (o := 0) (o2 := 1) C0 hb hP (rfl : kR 0 = 5) rfl dX5_mostBelieving_23 ?_
        obtain ⟨q_6, hq_7, h⟩ := bd_s h
        refine m_cVv (As := [.ref (a 1)]) (rest := []) (o := 31) (ci := 2) C0 hb hml hl.1 wm_X5_159 md_X2_become (k_X2_become l G a σ_4 hj 31 v31 1 v1 q_6 hq_7) rfl rfl ⟨(Nat.le_of_ble_eq_true rfl), (Nat.le_of_ble_eq_true rfl)⟩ hP hS (isV_k v31) (by decide) rfl rfl rfl (Nat.le_of_ble_eq_true rfl) dX5_mostBelieving_26 (fun H locs hP hS => ?_)
        refine lv_aload_n hx hb dX5_mostBelieving_29 rfl (lv_at hl 3 rfl) ?_
        refine gf_X5_19 (o := 0) (o2 := 31) C0 hb hP (rfl : kR 0 = 5) rfl dX5_mostBelieving_30 ?_
        refine gf_X5_92 (o := 31) (o2 := 36) C0 hb hP (isV_k v31) rfl dX5_mostBelieving_33 ?_
        refine lv_iload_n hx hb dX5_mostBelieving_36 rfl (lv_at hl 4 rfl) ?_
        obtain ⟨hi_8, h⟩ := chk_s h
        refine m_aldW (o := 36) (i := x1) (o2 := (38 + x1.toNatClampNeg)) C0 hb hP (isV_a v31) hi_8 rfl dX5_mostBelieving_37 ?_
        refine lv_iload_n hx hb dX5_mostBelieving_38 rfl (lv_at hl 5 rfl) ?_
        refine lv_iload hx hb dX5_mostBelieving_39 (lv_at hl 0 rfl) ?_
        refine m_cVi (As := [.int x2, .int x6_3]) (rest := []) (o := (38 + x1.toNatClampNeg)) (ci := 3) C0 hb hml hl.1 wm_X5_126 md_X3_set (k_X3_set l G a q_6 hj (38 + x1.toNatClampNeg) (isV_t v31 (vp_lt hi_8)) x2 x6_3) rfl rfl ⟨(Nat.le_of_ble_eq_true rfl), (Nat.le_of_ble_eq_true rfl)⟩ hP hS (isV_t v31 (vp_lt hi_8)) (by decide) rfl rfl rfl (Nat.le_of_ble_eq_true rfl) dX5_mostBelieving_41 (fun H locs hP hS => ?_)
        refine lv_pop hx hb dX5_mostBelieving_44 rfl ?_
        refine lv_aload_n hx hb dX5_mostBelieving_45 rfl (lv_at hl 3 rfl) ?_
        refine gf_X5_19 (o := 0) (o2 := 31) C0 hb hP (rfl : kR 0 = 5) rfl dX5_mostBelieving_46 ?_
        refine lv_iload_n hx hb dX5_mostBelieving_49 rfl (lv_at hl 6 rfl) ?_
        obtain ⟨q_9, hq_10, h⟩ := bd_s h
        refine m_cVv (As := [.int x3]) (rest := []) (o := 31) (ci := 2) C0 hb hml hl.1 wm_X5_134 md_X2_pass (k_X2_pass l G a ((f_X3_set (38 + x1.toNatClampNeg) x2 x6_3 q_6).2) hj 31 v31 x3 q_9 hq_10) rfl rfl ⟨(Nat.le_of_ble_eq_true rfl), (Nat.le_of_ble_eq_true rfl)⟩ hP hS (isV_k v31) (by decide) rfl rfl rfl (Nat.le_of_ble_eq_true rfl) dX5_mostBelieving_50 (fun H locs hP hS => ?_)
        refine lv_aload_n hx hb dX5_mostBelieving_53 rfl (lv_at hl 3 rfl) ?_
        refine gf_X5_19 (o := 0) (o2 := 31) C0 hb hP (rfl : kR 0 = 5) rfl dX5_mostBelieving_54 ?_
        refine gf_X5_92 (o := 31) (o2 := 36) C0 hb hP (isV_k v31) rfl dX5_mostBelieving_57 ?_
        refine lv_iload_n hx hb dX5_mostBelieving_60 rfl (lv_at hl 4 rfl) ?_
        obtain ⟨hi_11, h⟩ := chk_s h
        refine m_aldW (o := 36) (i := x1) (o2 := (38 + x1.toNatClampNeg)) C0 hb hP (isV_a v31) hi_11 rfl dX5_mostBelieving_61 ?_
        refine gf_X5_108 (o := (38 + x1.toNatClampNeg)) C0 hb hP (isV_t v31 (vp_lt hi_11)) dX5_mostBelieving_62 ?_
        refine lv_istore (lv' := [(7, .int (q_9 (38 + x1.toNatClampNeg) 3)), (6, .int x6_3), (5, .int x5_2), (4, .int x4_1), (0, .ref (a 0)), (1, .int x1), (2, .int x2), (3, .int x3)]) hx hb dX5_mostBelieving_65 hl (by decide) rfl (fun ls hl => ?_)
        refine lv_iload hx hb dX5_mostBelieving_67 (lv_at hl 0 rfl) ?_
        refine lv_iload hx hb dX5_mostBelieving_69 (lv_at hl 2 rfl) ?_
        have J_14 : ∀ (x5_12 : Int32) (x4_13 : Int32) (H : Heap) (locs : List Loc) (ls : Array Slot), f_X5_mostBelieving_J82 x6_3 rec9 q_9 x5_12 x4_13 = some q → HP G kR nR a q_9 H → va_S (AW nR a) s.heap H locs → lv_has ls 8 [(6, .int x6_3), (5, .int x5_12), (4, .int x4_13), (0, .ref (a 0)), (1, .int x1), (2, .int x2), (3, .int x3)] → W p l e ({ frames := 5, cells := 0, slots := 0, locals := 106 } : Room) s m ([.ref (a 0), .int x1, .int x2, .int x3] : List Value).toArray below meth c H locs 0 0 (MQ below (QI G kR nR a q) ([.ref (a 0), .int x1, .int x2, .int x3] : List Value).toArray s 0 0 (AW nR a)) (F0 m 82 ls []) := by
          intro x5_12 x4_13 H locs ls h hP hS hl
          unfold f_X5_mostBelieving_J82 at h
          refine lv_iinc (v := x6_3 + 1) (lv' := [(6, .int (x6_3 + 1)), (5, .int x5_12), (4, .int x4_13), (0, .ref (a 0)), (1, .int x1), (2, .int x2), (3, .int x3)]) hx hb dX5_mostBelieving_82 hl (k := 0) rfl rfl (by decide) rfl (fun ls hl => ?_)
          refine lv_goto (tgt := 9) hx hb dX5_mostBelieving_85 (by decide) ?_
          exact ih9 x4_13 x5_12 (x6_3 + 1) q_9 _ _ _ h hP hS (lv_sub hl [0, 1, 2, 3, 4, 5, 6] rfl)
        refine lv_icmp_le (tgt := 82) hx hb dX5_mostBelieving_71 (by decide) (fun (c_15 : (q_9 (38 + x1.toNatClampNeg) 3) ≤ x5_2) => ?_) (fun (c_15 : ¬ (q_9 (38 + x1.toNatClampNeg) 3) ≤ x5_2) => ?_)
        · rw [if_pos c_15] at h
          exact J_14 x5_2 x4_1 _ _ _ h hP hS (lv_sub hl [1, 2, 3, 4, 5, 6, 7] rfl)
        · rw [if_neg c_15] at h
          refine lv_iload hx hb dX5_mostBelieving_74 (lv_at hl 0 rfl) ?_
          refine lv_istore (lv' := [(5, .int (q_9 (38 + x1.toNatClampNeg) 3)), (7, .int (q_9 (38 + x1.toNatClampNeg) 3)), (6, .int x6_3), (4, .int x4_1), (0, .ref (a 0)), (1, .int x1), (2, .int x2), (3, .int x3)]) hx hb dX5_mostBelieving_76 hl (by decide) rfl (fun ls hl => ?_)
          refine lv_iload hx hb dX5_mostBelieving_78 (lv_at hl 2 rfl) ?_
          refine lv_istore (lv' := [(4, .int x6_3), (5, .int (q_9 (38 + x1.toNatClampNeg) 3)), (7, .int (q_9 (38 + x1.toNatClampNeg) 3)), (6, .int x6_3), (0, .ref (a 0)), (1, .int x1), (2, .int x2), (3, .int x3)]) hx hb dX5_mostBelieving_80 hl (by decide) rfl (fun ls hl => ?_)
          exact J_14 (q_9 (38 + x1.toNatClampNeg) 3) x6_3 _ _ _ h hP hS (lv_sub hl [3, 1, 0, 4, 5, 6, 7] rfl)
  exact L_16 FU 0 (-1) 0 σ _ _ _ h hP hS (lv_sub hl [0, 1, 2, 3, 4, 5, 6] rfl)
def f_X5_noTrial (x1 : Int32) (x2 : Int32) (σ : Mem) : Int32 := (if (f_X5_noWatcher x1 σ) = 0 then (if (f_X5_outside x2 60) = 0 then 0 else 1) else 1)
theorem bz_X5_noTrial (x1 : Int32) (x2 : Int32) (σ : Mem) : f_X5_noTrial x1 x2 σ = 0 ∨ f_X5_noTrial x1 x2 σ = 1 := by
  unfold f_X5_noTrial
  repeat' split
  all_goals first | exact Or.inl rfl | exact Or.inr rfl | exact (bz_X5_noWatcher x1 σ) | exact (bz_X5_outside x2 60)
set_option maxHeartbeats 4000000 in
set_option maxRecDepth 100000 in
theorem k_X5_noTrial (l : Launch) (G : GG) (a : Nat → Nat) (σ : Mem) (hj : INJ nR a) (x1 : Int32) (x2 : Int32) : Met l yX5_noTrial (Cond.code yX5_noTrial cX5_noTrial 3 (some .boolean) :: TB) ({ frames := 2, cells := 0, slots := 0, locals := 42 } : Room) (PA G kR nR a σ [.ref (a 0), .int x1, .int x2]) (SI (f_X5_noTrial x1 x2 σ)) 0 0 NF := by
  generalize h : f_X5_noTrial x1 x2 σ = q
  refine M_ofW (by decide) hj kR_lt (Nat.le_of_ble_eq_true rfl) (fun p e s m below meth c ls C0 hb hml hr hlk hP hS hl => ?_)
  have C0 : CT p s _ m RX5 G kR nR a := C0
  have hx := C0.1
  have hts := C0.2.1
  have hown := C0.2.2.1
  have hl : lv_has ls 3 [(0, .ref (a 0)), (1, .int x1), (2, .int x2)] := hl
  unfold f_X5_noTrial at h
  refine lv_aload_n hx hb dX5_noTrial_0 rfl (lv_at hl 0 rfl) ?_
  refine lv_iload_n hx hb dX5_noTrial_1 rfl (lv_at hl 1 rfl) ?_
  refine m_rVi (As := [.int x1]) (rest := []) (o := 0) (ci := 5) C0 hb hml hl.1 wm_X5_88 md_X5_noWatcher (k_X5_noWatcher l G a σ hj x1) rfl rfl ⟨(Nat.le_of_ble_eq_true rfl), (Nat.le_of_ble_eq_true rfl)⟩ hP hS (rfl : kR 0 = 5) (by decide) rfl rfl rfl (Nat.le_of_ble_eq_true rfl) dX5_noTrial_2 ?_
  refine lv_if_ne (tgt := 17) hx hb dX5_noTrial_5 (by decide) (fun (c_1 : ¬ (f_X5_noWatcher x1 σ) = 0) => ?_) (fun (c_1 : (f_X5_noWatcher x1 σ) = 0) => ?_)
  · rw [if_neg c_1] at h
    refine lv_iconst (v := 1) hx hb dX5_noTrial_17 (by decide) ?_
    refine lv_goto (tgt := 22) hx hb dX5_noTrial_18 (by decide) ?_
    exact m_sz hx hb hr hlk (Or.inr rfl) h dX5_noTrial_22
  · rw [if_pos c_1] at h
    refine lv_iload_n hx hb dX5_noTrial_8 rfl (lv_at hl 2 rfl) ?_
    refine lv_bipush (v := 60) hx hb dX5_noTrial_9 (by decide) ?_
    refine m_pSi (As := [.int x2, .int 60]) (rest := []) C0.z hb hml hl.1 wm_X5_50 md_X5_outside (k_X5_outside l x2 60) rfl rfl ⟨(Nat.le_of_ble_eq_true rfl), (Nat.le_of_ble_eq_true rfl)⟩ rfl rfl (Nat.le_of_ble_eq_true rfl) dX5_noTrial_11 ?_
    refine lv_if_eq (tgt := 21) hx hb dX5_noTrial_14 (by decide) (fun (c_2 : (f_X5_outside x2 60) = 0) => ?_) (fun (c_2 : ¬ (f_X5_outside x2 60) = 0) => ?_)
    · rw [if_pos c_2] at h
      refine lv_iconst (v := 0) hx hb dX5_noTrial_21 (by decide) ?_
      exact m_sz hx hb hr hlk (Or.inl rfl) h dX5_noTrial_22
    · rw [if_neg c_2] at h
      refine lv_iconst (v := 1) hx hb dX5_noTrial_17 (by decide) ?_
      refine lv_goto (tgt := 22) hx hb dX5_noTrial_18 (by decide) ?_
      exact m_sz hx hb hr hlk (Or.inr rfl) h dX5_noTrial_22
def f_X5_seat (x1 : Int32) (x2 : Int32) (σ : Mem) : Option (Int32 × Mem) := (if (f_X5_noTrial x1 x2 σ) = 0 then ((f_X5_mostBelieving x1 1 x2 σ).bind fun q_2 => some (q_2.1, q_2.2)) else ((f_X5_finding (-1000001) σ).bind fun q_4 => some (q_4.1, q_4.2)))
set_option maxHeartbeats 4000000 in
set_option maxRecDepth 100000 in
theorem k_X5_seat (l : Launch) (G : GG) (a : Nat → Nat) (σ : Mem) (hj : INJ nR a) (x1 : Int32) (x2 : Int32) (q : Int32 × Mem) (h : f_X5_seat x1 x2 σ = some q) : Met l yX5_seat (Cond.code yX5_seat cX5_seat 3 (some .int) :: TB) ({ frames := 6, cells := 0, slots := 0, locals := 133 } : Room) (PA G kR nR a σ [.ref (a 0), .int x1, .int x2]) (QI G kR nR a q) 0 0 (AW nR a) := by
  refine M_ofW (by decide) hj kR_lt (Nat.le_of_ble_eq_true rfl) (fun p e s m below meth c ls C0 hb hml hr hlk hP hS hl => ?_)
  have C0 : CT p s _ m RX5 G kR nR a := C0
  have hx := C0.1
  have hts := C0.2.1
  have hown := C0.2.2.1
  have hl : lv_has ls 3 [(0, .ref (a 0)), (1, .int x1), (2, .int x2)] := hl
  unfold f_X5_seat at h
  refine lv_aload_n hx hb dX5_seat_0 rfl (lv_at hl 0 rfl) ?_
  refine lv_iload_n hx hb dX5_seat_1 rfl (lv_at hl 1 rfl) ?_
  refine lv_iload_n hx hb dX5_seat_2 rfl (lv_at hl 2 rfl) ?_
  refine m_rVi (As := [.int x1, .int x2]) (rest := []) (o := 0) (ci := 5) C0 hb hml hl.1 wm_X5_192 md_X5_noTrial (k_X5_noTrial l G a σ hj x1 x2) rfl rfl ⟨(Nat.le_of_ble_eq_true rfl), (Nat.le_of_ble_eq_true rfl)⟩ hP hS (rfl : kR 0 = 5) (by decide) rfl rfl rfl (Nat.le_of_ble_eq_true rfl) dX5_seat_3 ?_
  refine lv_if_eq (tgt := 18) hx hb dX5_seat_6 (by decide) (fun (c_1 : (f_X5_noTrial x1 x2 σ) = 0) => ?_) (fun (c_1 : ¬ (f_X5_noTrial x1 x2 σ) = 0) => ?_)
  · rw [if_pos c_1] at h
    refine lv_aload_n hx hb dX5_seat_18 rfl (lv_at hl 0 rfl) ?_
    refine lv_iload_n hx hb dX5_seat_19 rfl (lv_at hl 1 rfl) ?_
    refine lv_iconst (v := 1) hx hb dX5_seat_20 (by decide) ?_
    refine lv_iload_n hx hb dX5_seat_21 rfl (lv_at hl 2 rfl) ?_
    obtain ⟨q_2, hq_3, h⟩ := bd_s h
    refine m_cVi (As := [.int x1, .int 1, .int x2]) (rest := []) (o := 0) (ci := 5) C0 hb hml hl.1 wm_X5_195 md_X5_mostBelieving (k_X5_mostBelieving l G a σ hj x1 1 x2 q_2 hq_3) rfl rfl ⟨(Nat.le_of_ble_eq_true rfl), (Nat.le_of_ble_eq_true rfl)⟩ hP hS (rfl : kR 0 = 5) (by decide) rfl rfl rfl (Nat.le_of_ble_eq_true rfl) dX5_seat_22 (fun H locs hP hS => ?_)
    exact m_ri hx hb hr hlk hP hS (Option.some.inj h) dX5_seat_25
  · rw [if_neg c_1] at h
    refine lv_aload_n hx hb dX5_seat_9 rfl (lv_at hl 0 rfl) ?_
    refine lv_ldc hx hb hown (hts _ wk_X5_54) dX5_seat_10 ?_
    obtain ⟨q_4, hq_5, h⟩ := bd_s h
    refine m_cVi (As := [.int (-1000001)]) (rest := []) (o := 0) (ci := 5) C0 hb hml hl.1 wm_X5_55 md_X5_finding (k_X5_finding l G a σ hj (-1000001) q_4 hq_5) rfl rfl ⟨(Nat.le_of_ble_eq_true rfl), (Nat.le_of_ble_eq_true rfl)⟩ hP hS (rfl : kR 0 = 5) (by decide) rfl rfl rfl (Nat.le_of_ble_eq_true rfl) dX5_seat_12 (fun H locs hP hS => ?_)
    refine lv_goto (tgt := 25) hx hb dX5_seat_15 (by decide) ?_
    exact m_ri hx hb hr hlk hP hS (Option.some.inj h) dX5_seat_25
def f_X5_kindFor (x1 : Int32) (x2 : Int32) (σ : Mem) : Option (Int32 × Mem) := (if (f_X5_noTrial x1 x2 σ) = 0 then ((f_X5_mostBelieving x1 0 x2 σ).bind fun q_2 => some (q_2.1, q_2.2)) else ((f_X5_finding (-1000001) σ).bind fun q_4 => some (q_4.1, q_4.2)))
set_option maxHeartbeats 4000000 in
set_option maxRecDepth 100000 in
theorem k_X5_kindFor (l : Launch) (G : GG) (a : Nat → Nat) (σ : Mem) (hj : INJ nR a) (x1 : Int32) (x2 : Int32) (q : Int32 × Mem) (h : f_X5_kindFor x1 x2 σ = some q) : Met l yX5_kindFor (Cond.code yX5_kindFor cX5_kindFor 3 (some .int) :: TB) ({ frames := 6, cells := 0, slots := 0, locals := 133 } : Room) (PA G kR nR a σ [.ref (a 0), .int x1, .int x2]) (QI G kR nR a q) 0 0 (AW nR a) := by
  refine M_ofW (by decide) hj kR_lt (Nat.le_of_ble_eq_true rfl) (fun p e s m below meth c ls C0 hb hml hr hlk hP hS hl => ?_)
  have C0 : CT p s _ m RX5 G kR nR a := C0
  have hx := C0.1
  have hts := C0.2.1
  have hown := C0.2.2.1
  have hl : lv_has ls 3 [(0, .ref (a 0)), (1, .int x1), (2, .int x2)] := hl
  unfold f_X5_kindFor at h
  refine lv_aload_n hx hb dX5_kindFor_0 rfl (lv_at hl 0 rfl) ?_
  refine lv_iload_n hx hb dX5_kindFor_1 rfl (lv_at hl 1 rfl) ?_
  refine lv_iload_n hx hb dX5_kindFor_2 rfl (lv_at hl 2 rfl) ?_
  refine m_rVi (As := [.int x1, .int x2]) (rest := []) (o := 0) (ci := 5) C0 hb hml hl.1 wm_X5_192 md_X5_noTrial (k_X5_noTrial l G a σ hj x1 x2) rfl rfl ⟨(Nat.le_of_ble_eq_true rfl), (Nat.le_of_ble_eq_true rfl)⟩ hP hS (rfl : kR 0 = 5) (by decide) rfl rfl rfl (Nat.le_of_ble_eq_true rfl) dX5_kindFor_3 ?_
  refine lv_if_eq (tgt := 18) hx hb dX5_kindFor_6 (by decide) (fun (c_1 : (f_X5_noTrial x1 x2 σ) = 0) => ?_) (fun (c_1 : ¬ (f_X5_noTrial x1 x2 σ) = 0) => ?_)
  · rw [if_pos c_1] at h
    refine lv_aload_n hx hb dX5_kindFor_18 rfl (lv_at hl 0 rfl) ?_
    refine lv_iload_n hx hb dX5_kindFor_19 rfl (lv_at hl 1 rfl) ?_
    refine lv_iconst (v := 0) hx hb dX5_kindFor_20 (by decide) ?_
    refine lv_iload_n hx hb dX5_kindFor_21 rfl (lv_at hl 2 rfl) ?_
    obtain ⟨q_2, hq_3, h⟩ := bd_s h
    refine m_cVi (As := [.int x1, .int 0, .int x2]) (rest := []) (o := 0) (ci := 5) C0 hb hml hl.1 wm_X5_195 md_X5_mostBelieving (k_X5_mostBelieving l G a σ hj x1 0 x2 q_2 hq_3) rfl rfl ⟨(Nat.le_of_ble_eq_true rfl), (Nat.le_of_ble_eq_true rfl)⟩ hP hS (rfl : kR 0 = 5) (by decide) rfl rfl rfl (Nat.le_of_ble_eq_true rfl) dX5_kindFor_22 (fun H locs hP hS => ?_)
    exact m_ri hx hb hr hlk hP hS (Option.some.inj h) dX5_kindFor_25
  · rw [if_neg c_1] at h
    refine lv_aload_n hx hb dX5_kindFor_9 rfl (lv_at hl 0 rfl) ?_
    refine lv_ldc hx hb hown (hts _ wk_X5_54) dX5_kindFor_10 ?_
    obtain ⟨q_4, hq_5, h⟩ := bd_s h
    refine m_cVi (As := [.int (-1000001)]) (rest := []) (o := 0) (ci := 5) C0 hb hml hl.1 wm_X5_55 md_X5_finding (k_X5_finding l G a σ hj (-1000001) q_4 hq_5) rfl rfl ⟨(Nat.le_of_ble_eq_true rfl), (Nat.le_of_ble_eq_true rfl)⟩ hP hS (rfl : kR 0 = 5) (by decide) rfl rfl rfl (Nat.le_of_ble_eq_true rfl) dX5_kindFor_12 (fun H locs hP hS => ?_)
    refine lv_goto (tgt := 25) hx hb dX5_kindFor_15 (by decide) ?_
    exact m_ri hx hb hr hlk hP hS (Option.some.inj h) dX5_kindFor_25
def f_X5_wantFor_B54 (x1 : Int32) (x2 : Int32) (rec54 : Int32 → Int32 → Mem → Option (Int32 × Mem)) (x5_4 : Int32) (x6_5 : Int32) (σ_6 : Mem) : Option (Int32 × Mem) := (if x2 < x6_5 then some (x5_4, σ_6) else ((f_X4_run 32 1 σ_6).bind fun q_8 => (chk (q_8 (8 + x1.toNatClampNeg) 1) 12 (rec54 (jmin x5_4 (q_8 33 ((q_8 (8 + x1.toNatClampNeg) 1).toNatClampNeg))) (x6_5 + 1) q_8))))
def f_X5_wantFor (x1 : Int32) (x2 : Int32) (σ : Mem) : Option (Int32 × Mem) := (if (f_X5_noTrial x1 x2 σ) = 0 then (chk x1 8 (if (σ (8 + x1.toNatClampNeg) 4) = 9999 then some (999, σ) else (it3 (f_X5_wantFor_B54 x1 x2) FU 999 1 (f_X5_waterTried σ)))) else ((f_X5_finding (-1000001) σ).bind fun q_12 => some (q_12.1, q_12.2)))
set_option maxHeartbeats 4000000 in
set_option maxRecDepth 100000 in
theorem k_X5_wantFor (l : Launch) (G : GG) (a : Nat → Nat) (σ : Mem) (hj : INJ nR a) (x1 : Int32) (x2 : Int32) (q : Int32 × Mem) (h : f_X5_wantFor x1 x2 σ = some q) : Met l yX5_wantFor (Cond.code yX5_wantFor cX5_wantFor 7 (some .int) :: TB) ({ frames := 3, cells := 0, slots := 0, locals := 71 } : Room) (PA G kR nR a σ [.ref (a 0), .int x1, .int x2]) (QI G kR nR a q) 0 0 (AW nR a) := by
  refine M_ofW (by decide) hj kR_lt (Nat.le_of_ble_eq_true rfl) (fun p e s m below meth c ls C0 hb hml hr hlk hP hS hl => ?_)
  have C0 : CT p s _ m RX5 G kR nR a := C0
  have hx := C0.1
  have hts := C0.2.1
  have hown := C0.2.2.1
  have hl : lv_has ls 7 [(0, .ref (a 0)), (1, .int x1), (2, .int x2)] := hl
  unfold f_X5_wantFor at h
  refine lv_aload_n hx hb dX5_wantFor_0 rfl (lv_at hl 0 rfl) ?_
  refine lv_iload_n hx hb dX5_wantFor_1 rfl (lv_at hl 1 rfl) ?_
  refine lv_iload_n hx hb dX5_wantFor_2 rfl (lv_at hl 2 rfl) ?_
  refine m_rVi (As := [.int x1, .int x2]) (rest := []) (o := 0) (ci := 5) C0 hb hml hl.1 wm_X5_192 md_X5_noTrial (k_X5_noTrial l G a σ hj x1 x2) rfl rfl ⟨(Nat.le_of_ble_eq_true rfl), (Nat.le_of_ble_eq_true rfl)⟩ hP hS (rfl : kR 0 = 5) (by decide) rfl rfl rfl (Nat.le_of_ble_eq_true rfl) dX5_wantFor_3 ?_
  refine lv_if_eq (tgt := 16) hx hb dX5_wantFor_6 (by decide) (fun (c_1 : (f_X5_noTrial x1 x2 σ) = 0) => ?_) (fun (c_1 : ¬ (f_X5_noTrial x1 x2 σ) = 0) => ?_)
  · rw [if_pos c_1] at h
    refine lv_aload_n hx hb dX5_wantFor_16 rfl (lv_at hl 0 rfl) ?_
    refine gf_X5_12 (o := 0) (o2 := 1) C0 hb hP (rfl : kR 0 = 5) rfl dX5_wantFor_17 ?_
    refine gf_X5_92 (o := 1) (o2 := 6) C0 hb hP (isV_k v1) rfl dX5_wantFor_20 ?_
    refine lv_iload_n hx hb dX5_wantFor_23 rfl (lv_at hl 1 rfl) ?_
    obtain ⟨hi_2, h⟩ := chk_s h
    refine m_aldW (o := 6) (i := x1) (o2 := (8 + x1.toNatClampNeg)) C0 hb hP (isV_a v1) hi_2 rfl dX5_wantFor_24 ?_
    refine lv_astore_n (lv' := [(3, .ref (a (8 + x1.toNatClampNeg))), (0, .ref (a 0)), (1, .int x1), (2, .int x2)]) hx hb dX5_wantFor_25 rfl hl (by decide) rfl (fun ls hl => ?_)
    refine lv_aload_n hx hb dX5_wantFor_26 rfl (lv_at hl 0 rfl) ?_
    refine gf_X5_111 (o := (8 + x1.toNatClampNeg)) C0 hb hP (isV_t v1 (vp_lt hi_2)) dX5_wantFor_27 ?_
    refine lv_sipush (v := 9999) hx hb dX5_wantFor_30 (by decide) ?_
    refine lv_icmp_ne (tgt := 40) hx hb dX5_wantFor_33 (by decide) (fun (c_3 : ¬ (σ (8 + x1.toNatClampNeg) 4) = 9999) => ?_) (fun (c_3 : (σ (8 + x1.toNatClampNeg) 4) = 9999) => ?_)
    · rw [if_neg c_3] at h
      refine lv_aload_n hx hb dX5_wantFor_40 rfl (lv_at hl 1 rfl) ?_
      refine m_cVr (As := []) (rest := []) (o := 0) (ci := 5) C0 hb hml hl.1 wm_X5_152 md_X5_waterTried (k_X5_waterTried l G a σ hj) rfl rfl ⟨(Nat.le_of_ble_eq_true rfl), (Nat.le_of_ble_eq_true rfl)⟩ hP hS (rfl : kR 0 = 5) (by decide) rfl rfl rfl (Nat.le_of_ble_eq_true rfl) dX5_wantFor_41 (fun H locs hP hS => ?_)
      refine lv_astore (lv' := [(4, .ref (a 32)), (3, .ref (a (8 + x1.toNatClampNeg))), (0, .ref (a 0)), (1, .int x1), (2, .int x2)]) hx hb dX5_wantFor_44 hl (by decide) rfl (fun ls hl => ?_)
      refine lv_sipush (v := 999) hx hb dX5_wantFor_46 (by decide) ?_
      refine lv_istore (lv' := [(5, .int 999), (4, .ref (a 32)), (3, .ref (a (8 + x1.toNatClampNeg))), (0, .ref (a 0)), (1, .int x1), (2, .int x2)]) hx hb dX5_wantFor_49 hl (by decide) rfl (fun ls hl => ?_)
      refine lv_iconst (v := 1) hx hb dX5_wantFor_51 (by decide) ?_
      refine lv_istore (lv' := [(6, .int 1), (5, .int 999), (4, .ref (a 32)), (3, .ref (a (8 + x1.toNatClampNeg))), (0, .ref (a 0)), (1, .int x1), (2, .int x2)]) hx hb dX5_wantFor_52 hl (by decide) rfl (fun ls hl => ?_)
      have L_11 : ∀ (fu54 : Nat) (x5_4 : Int32) (x6_5 : Int32) (σ_6 : Mem) (H : Heap) (locs : List Loc) (ls : Array Slot), it3 (f_X5_wantFor_B54 x1 x2) fu54 x5_4 x6_5 σ_6 = some q → HP G kR nR a σ_6 H → va_S (AW nR a) s.heap H locs → lv_has ls 7 [(6, .int x6_5), (5, .int x5_4), (4, .ref (a 32)), (3, .ref (a (8 + x1.toNatClampNeg))), (2, .int x2)] → W p l e ({ frames := 3, cells := 0, slots := 0, locals := 71 } : Room) s m ([.ref (a 0), .int x1, .int x2] : List Value).toArray below meth c H locs 0 0 (MQ below (QI G kR nR a q) ([.ref (a 0), .int x1, .int x2] : List Value).toArray s 0 0 (AW nR a)) (F0 m 54 ls []) := by
        intro fu54
        induction fu54 with
        | zero =>
          intro x5_4 x6_5 σ_6 H locs ls h
          cases h
        | succ fu54 ih54 =>
          intro x5_4 x6_5 σ_6 H locs ls h hP hS hl
          replace h : (f_X5_wantFor_B54 x1 x2) (it3 (f_X5_wantFor_B54 x1 x2) fu54) x5_4 x6_5 σ_6 = some q := h
          generalize it3 (f_X5_wantFor_B54 x1 x2) fu54 = rec54 at h ih54
          unfold f_X5_wantFor_B54 at h
          refine lv_iload hx hb dX5_wantFor_54 (lv_at hl 0 rfl) ?_
          refine lv_iload_n hx hb dX5_wantFor_56 rfl (lv_at hl 4 rfl) ?_
          refine lv_icmp_gt (tgt := 89) hx hb dX5_wantFor_57 (by decide) (fun (c_7 : x2 < x6_5) => ?_) (fun (c_7 : ¬ x2 < x6_5) => ?_)
          · rw [if_pos c_7] at h
            refine lv_iload hx hb dX5_wantFor_89 (lv_at hl 1 rfl) ?_
            exact m_ri hx hb hr hlk hP hS (Option.some.inj h) dX5_wantFor_91
          · rw [if_neg c_7] at h
            refine lv_aload hx hb dX5_wantFor_60 (lv_at hl 2 rfl) ?_
            refine lv_iconst (v := 1) hx hb dX5_wantFor_62 (by decide) ?_
            obtain ⟨q_8, hq_9, h⟩ := bd_s h
            refine m_cVv (As := [.int 1]) (rest := []) (o := 32) (ci := 4) C0 hb hml hl.1 wm_X5_156 md_X4_run (k_X4_run l G a σ_6 hj 32 (isV_w v31) 1 q_8 hq_9) rfl rfl ⟨(Nat.le_of_ble_eq_true rfl), (Nat.le_of_ble_eq_true rfl)⟩ hP hS (isW_k (isV_w v31)) (by decide) rfl rfl rfl (Nat.le_of_ble_eq_true rfl) dX5_wantFor_63 (fun H locs hP hS => ?_)
            refine lv_iload hx hb dX5_wantFor_66 (lv_at hl 1 rfl) ?_
            refine lv_aload hx hb dX5_wantFor_68 (lv_at hl 2 rfl) ?_
            refine gf_X5_63 (o := 32) (o2 := 33) C0 hb hP (isW_k (isV_w v31)) rfl dX5_wantFor_70 ?_
            refine lv_aload_n hx hb dX5_wantFor_73 rfl (lv_at hl 3 rfl) ?_
            refine gf_X5_102 (o := (8 + x1.toNatClampNeg)) C0 hb hP (isV_t v1 (vp_lt hi_2)) dX5_wantFor_74 ?_
            obtain ⟨hi_10, h⟩ := chk_s h
            refine m_iald (o := 33) (N := 12) (i := q_8 (8 + x1.toNatClampNeg) 1) (j := (q_8 (8 + x1.toNatClampNeg) 1).toNatClampNeg) C0 hb hP (isW_1 (isV_w v31)) (by decide) hi_10 rfl dX5_wantFor_77 ?_
            refine m_min (rest := []) C0 hb hml hl.1 wm_X5_172 (Nat.le_of_ble_eq_true rfl) (Nat.le_of_ble_eq_true rfl) (Nat.zero_le _) (Nat.zero_le _) dX5_wantFor_78 ?_
            refine lv_istore (lv' := [(5, .int (jmin x5_4 (q_8 33 ((q_8 (8 + x1.toNatClampNeg) 1).toNatClampNeg)))), (6, .int x6_5), (4, .ref (a 32)), (3, .ref (a (8 + x1.toNatClampNeg))), (2, .int x2)]) hx hb dX5_wantFor_81 hl (by decide) rfl (fun ls hl => ?_)
            refine lv_iinc (v := x6_5 + 1) (lv' := [(6, .int (x6_5 + 1)), (5, .int (jmin x5_4 (q_8 33 ((q_8 (8 + x1.toNatClampNeg) 1).toNatClampNeg)))), (4, .ref (a 32)), (3, .ref (a (8 + x1.toNatClampNeg))), (2, .int x2)]) hx hb dX5_wantFor_83 hl (k := 1) rfl rfl (by decide) rfl (fun ls hl => ?_)
            refine lv_goto (tgt := 54) hx hb dX5_wantFor_86 (by decide) ?_
            exact ih54 (jmin x5_4 (q_8 33 ((q_8 (8 + x1.toNatClampNeg) 1).toNatClampNeg))) (x6_5 + 1) q_8 _ _ _ h hP hS (lv_sub hl [0, 1, 2, 3, 4] rfl)
      exact L_11 FU 999 1 (f_X5_waterTried σ) _ _ _ h hP hS (lv_sub hl [0, 1, 2, 3, 6] rfl)
    · rw [if_pos c_3] at h
      refine lv_sipush (v := 999) hx hb dX5_wantFor_36 (by decide) ?_
      exact m_ri hx hb hr hlk hP hS (Option.some.inj h) dX5_wantFor_39
  · rw [if_neg c_1] at h
    refine lv_aload_n hx hb dX5_wantFor_9 rfl (lv_at hl 0 rfl) ?_
    refine lv_ldc hx hb hown (hts _ wk_X5_54) dX5_wantFor_10 ?_
    obtain ⟨q_12, hq_13, h⟩ := bd_s h
    refine m_cVi (As := [.int (-1000001)]) (rest := []) (o := 0) (ci := 5) C0 hb hml hl.1 wm_X5_55 md_X5_finding (k_X5_finding l G a σ hj (-1000001) q_12 hq_13) rfl rfl ⟨(Nat.le_of_ble_eq_true rfl), (Nat.le_of_ble_eq_true rfl)⟩ hP hS (rfl : kR 0 = 5) (by decide) rfl rfl rfl (Nat.le_of_ble_eq_true rfl) dX5_wantFor_12 (fun H locs hP hS => ?_)
    exact m_ri hx hb hr hlk hP hS (Option.some.inj h) dX5_wantFor_15
def f_X5_stir_B41 (x3_4 : Int32) (rec28 : Int32 → Mem → Option (Mem)) (rec41 : Int32 → Mem → Option (Mem)) (x4_9 : Int32) (σ_10 : Mem) : Option (Mem) := (if 12 ≤ x4_9 then (rec28 (x3_4 + 1) σ_10) else (chk x4_9 12 (chk x4_9 12 (chk x4_9 12 (chk x4_9 12 (rec41 (x4_9 + 1) (mst σ_10 61 x4_9.toNatClampNeg ((σ_10 61 x4_9.toNatClampNeg) + (jabs ((σ_10 33 x4_9.toNatClampNeg) - (σ_10 34 x4_9.toNatClampNeg)))))))))))
def f_X5_stir_B28 (x1 : Int32) (rec28 : Int32 → Mem → Option (Mem)) (x3_4 : Int32) (σ_5 : Mem) : Option (Mem) := (if x1 < x3_4 then some σ_5 else ((f_X4_run 32 1 σ_5).bind fun q_7 => (it2 (f_X5_stir_B41 x3_4 rec28) FU 0 q_7)))
def f_X5_stir_B2 (x1 : Int32) (rec2 : Int32 → Mem → Option (Mem)) (x2_1 : Int32) (σ_2 : Mem) : Option (Mem) := (if 12 ≤ x2_1 then (it2 (f_X5_stir_B28 x1) FU 1 (f_X5_waterTried σ_2)) else (chk x2_1 12 (rec2 (x2_1 + 1) (mst σ_2 61 x2_1.toNatClampNeg 0))))
def f_X5_stir (x1 : Int32) (σ : Mem) : Option (Mem) := (it2 (f_X5_stir_B2 x1) FU 0 σ)
set_option maxHeartbeats 4000000 in
set_option maxRecDepth 100000 in
theorem k_X5_stir (l : Launch) (G : GG) (a : Nat → Nat) (σ : Mem) (hj : INJ nR a) (x1 : Int32) (q : Mem) (h : f_X5_stir x1 σ = some q) : Met l yX5_stir (Cond.code yX5_stir cX5_stir 5 none :: TB) ({ frames := 3, cells := 0, slots := 0, locals := 71 } : Room) (PA G kR nR a σ [.ref (a 0), .int x1]) (QV G kR nR a q) 0 0 (AW nR a) := by
  refine M_ofW (by decide) hj kR_lt (Nat.le_of_ble_eq_true rfl) (fun p e s m below meth c ls C0 hb hml hr hlk hP hS hl => ?_)
  have C0 : CT p s _ m RX5 G kR nR a := C0
  have hx := C0.1
  have hts := C0.2.1
  have hown := C0.2.2.1
  have hl : lv_has ls 5 [(0, .ref (a 0)), (1, .int x1)] := hl
  unfold f_X5_stir at h
  refine lv_iconst (v := 0) hx hb dX5_stir_0 (by decide) ?_
  refine lv_istore_n (lv' := [(2, .int 0), (0, .ref (a 0)), (1, .int x1)]) hx hb dX5_stir_1 rfl hl (by decide) rfl (fun ls hl => ?_)
  have L_19 : ∀ (fu2 : Nat) (x2_1 : Int32) (σ_2 : Mem) (H : Heap) (locs : List Loc) (ls : Array Slot), it2 (f_X5_stir_B2 x1) fu2 x2_1 σ_2 = some q → HP G kR nR a σ_2 H → va_S (AW nR a) s.heap H locs → lv_has ls 5 [(2, .int x2_1), (0, .ref (a 0)), (1, .int x1)] → W p l e ({ frames := 3, cells := 0, slots := 0, locals := 71 } : Room) s m ([.ref (a 0), .int x1] : List Value).toArray below meth c H locs 0 0 (MQ below (QV G kR nR a q) ([.ref (a 0), .int x1] : List Value).toArray s 0 0 (AW nR a)) (F0 m 2 ls []) := by
    intro fu2
    induction fu2 with
    | zero =>
      intro x2_1 σ_2 H locs ls h
      cases h
    | succ fu2 ih2 =>
      intro x2_1 σ_2 H locs ls h hP hS hl
      replace h : (f_X5_stir_B2 x1) (it2 (f_X5_stir_B2 x1) fu2) x2_1 σ_2 = some q := h
      generalize it2 (f_X5_stir_B2 x1) fu2 = rec2 at h ih2
      unfold f_X5_stir_B2 at h
      refine lv_iload_n hx hb dX5_stir_2 rfl (lv_at hl 0 rfl) ?_
      refine lv_bipush (v := 12) hx hb dX5_stir_3 (by decide) ?_
      refine lv_icmp_ge (tgt := 21) hx hb dX5_stir_5 (by decide) (fun (c_3 : 12 ≤ x2_1) => ?_) (fun (c_3 : ¬ 12 ≤ x2_1) => ?_)
      · rw [if_pos c_3] at h
        refine lv_aload_n hx hb dX5_stir_21 rfl (lv_at hl 1 rfl) ?_
        refine m_cVr (As := []) (rest := []) (o := 0) (ci := 5) C0 hb hml hl.1 wm_X5_152 md_X5_waterTried (k_X5_waterTried l G a σ_2 hj) rfl rfl ⟨(Nat.le_of_ble_eq_true rfl), (Nat.le_of_ble_eq_true rfl)⟩ hP hS (rfl : kR 0 = 5) (by decide) rfl rfl rfl (Nat.le_of_ble_eq_true rfl) dX5_stir_22 (fun H locs hP hS => ?_)
        refine lv_astore_n (lv' := [(2, .ref (a 32)), (0, .ref (a 0)), (1, .int x1)]) hx hb dX5_stir_25 rfl hl (by decide) rfl (fun ls hl => ?_)
        refine lv_iconst (v := 1) hx hb dX5_stir_26 (by decide) ?_
        refine lv_istore_n (lv' := [(3, .int 1), (2, .ref (a 32)), (0, .ref (a 0)), (1, .int x1)]) hx hb dX5_stir_27 rfl hl (by decide) rfl (fun ls hl => ?_)
        have L_17 : ∀ (fu28 : Nat) (x3_4 : Int32) (σ_5 : Mem) (H : Heap) (locs : List Loc) (ls : Array Slot), it2 (f_X5_stir_B28 x1) fu28 x3_4 σ_5 = some q → HP G kR nR a σ_5 H → va_S (AW nR a) s.heap H locs → lv_has ls 5 [(3, .int x3_4), (2, .ref (a 32)), (0, .ref (a 0)), (1, .int x1)] → W p l e ({ frames := 3, cells := 0, slots := 0, locals := 71 } : Room) s m ([.ref (a 0), .int x1] : List Value).toArray below meth c H locs 0 0 (MQ below (QV G kR nR a q) ([.ref (a 0), .int x1] : List Value).toArray s 0 0 (AW nR a)) (F0 m 28 ls []) := by
          intro fu28
          induction fu28 with
          | zero =>
            intro x3_4 σ_5 H locs ls h
            cases h
          | succ fu28 ih28 =>
            intro x3_4 σ_5 H locs ls h hP hS hl
            replace h : (f_X5_stir_B28 x1) (it2 (f_X5_stir_B28 x1) fu28) x3_4 σ_5 = some q := h
            generalize it2 (f_X5_stir_B28 x1) fu28 = rec28 at h ih28
            unfold f_X5_stir_B28 at h
            refine lv_iload_n hx hb dX5_stir_28 rfl (lv_at hl 0 rfl) ?_
            refine lv_iload_n hx hb dX5_stir_29 rfl (lv_at hl 3 rfl) ?_
            refine lv_icmp_gt (tgt := 88) hx hb dX5_stir_30 (by decide) (fun (c_6 : x1 < x3_4) => ?_) (fun (c_6 : ¬ x1 < x3_4) => ?_)
            · rw [if_pos c_6] at h
              exact m_rv hx hb hr hlk hP hS (Option.some.inj h) dX5_stir_88
            · rw [if_neg c_6] at h
              refine lv_aload_n hx hb dX5_stir_33 rfl (lv_at hl 1 rfl) ?_
              refine lv_iconst (v := 1) hx hb dX5_stir_34 (by decide) ?_
              obtain ⟨q_7, hq_8, h⟩ := bd_s h
              refine m_cVv (As := [.int 1]) (rest := []) (o := 32) (ci := 4) C0 hb hml hl.1 wm_X5_156 md_X4_run (k_X4_run l G a σ_5 hj 32 (isV_w v31) 1 q_7 hq_8) rfl rfl ⟨(Nat.le_of_ble_eq_true rfl), (Nat.le_of_ble_eq_true rfl)⟩ hP hS (isW_k (isV_w v31)) (by decide) rfl rfl rfl (Nat.le_of_ble_eq_true rfl) dX5_stir_35 (fun H locs hP hS => ?_)
              refine lv_iconst (v := 0) hx hb dX5_stir_38 (by decide) ?_
              refine lv_istore (lv' := [(4, .int 0), (3, .int x3_4), (2, .ref (a 32)), (0, .ref (a 0)), (1, .int x1)]) hx hb dX5_stir_39 hl (by decide) rfl (fun ls hl => ?_)
              have L_16 : ∀ (fu41 : Nat) (x4_9 : Int32) (σ_10 : Mem) (H : Heap) (locs : List Loc) (ls : Array Slot), it2 (f_X5_stir_B41 x3_4 rec28) fu41 x4_9 σ_10 = some q → HP G kR nR a σ_10 H → va_S (AW nR a) s.heap H locs → lv_has ls 5 [(4, .int x4_9), (3, .int x3_4), (2, .ref (a 32)), (0, .ref (a 0)), (1, .int x1)] → W p l e ({ frames := 3, cells := 0, slots := 0, locals := 71 } : Room) s m ([.ref (a 0), .int x1] : List Value).toArray below meth c H locs 0 0 (MQ below (QV G kR nR a q) ([.ref (a 0), .int x1] : List Value).toArray s 0 0 (AW nR a)) (F0 m 41 ls []) := by
                intro fu41
                induction fu41 with
                | zero =>
                  intro x4_9 σ_10 H locs ls h
                  cases h
                | succ fu41 ih41 =>
                  intro x4_9 σ_10 H locs ls h hP hS hl
                  replace h : (f_X5_stir_B41 x3_4 rec28) (it2 (f_X5_stir_B41 x3_4 rec28) fu41) x4_9 σ_10 = some q := h
                  generalize it2 (f_X5_stir_B41 x3_4 rec28) fu41 = rec41 at h ih41
                  unfold f_X5_stir_B41 at h
                  refine lv_iload hx hb dX5_stir_41 (lv_at hl 0 rfl) ?_
                  refine lv_bipush (v := 12) hx hb dX5_stir_43 (by decide) ?_
                  refine lv_icmp_ge (tgt := 82) hx hb dX5_stir_45 (by decide) (fun (c_11 : 12 ≤ x4_9) => ?_) (fun (c_11 : ¬ 12 ≤ x4_9) => ?_)
                  · rw [if_pos c_11] at h
                    refine lv_iinc (v := x3_4 + 1) (lv' := [(3, .int (x3_4 + 1)), (4, .int x4_9), (2, .ref (a 32)), (0, .ref (a 0)), (1, .int x1)]) hx hb dX5_stir_82 hl (k := 1) rfl rfl (by decide) rfl (fun ls hl => ?_)
                    refine lv_goto (tgt := 28) hx hb dX5_stir_85 (by decide) ?_
                    exact ih28 (x3_4 + 1) σ_10 _ _ _ h hP hS (lv_sub hl [0, 2, 3, 4] rfl)
                  · rw [if_neg c_11] at h
                    refine lv_aload_n hx hb dX5_stir_48 rfl (lv_at hl 3 rfl) ?_
                    refine gf_X5_25 (o := 0) (o2 := 61) C0 hb hP (rfl : kR 0 = 5) rfl dX5_stir_49 ?_
                    refine lv_iload hx hb dX5_stir_52 (lv_at hl 0 rfl) ?_
                    refine lv_dup2_11 hx hb dX5_stir_54 rfl rfl ?_
                    obtain ⟨hi_12, h⟩ := chk_s h
                    refine m_iald (o := 61) (N := 12) (i := x4_9) (j := x4_9.toNatClampNeg) C0 hb hP (rfl : kR 61 = 100 + 12) (by decide) hi_12 rfl dX5_stir_55 ?_
                    refine lv_aload_n hx hb dX5_stir_56 rfl (lv_at hl 2 rfl) ?_
                    refine gf_X5_63 (o := 32) (o2 := 33) C0 hb hP (isW_k (isV_w v31)) rfl dX5_stir_57 ?_
                    refine lv_iload hx hb dX5_stir_60 (lv_at hl 0 rfl) ?_
                    obtain ⟨hi_13, h⟩ := chk_s h
                    refine m_iald (o := 33) (N := 12) (i := x4_9) (j := x4_9.toNatClampNeg) C0 hb hP (isW_1 (isV_w v31)) (by decide) hi_13 rfl dX5_stir_62 ?_
                    refine lv_aload_n hx hb dX5_stir_63 rfl (lv_at hl 2 rfl) ?_
                    refine gf_X5_297 (o := 32) (o2 := 34) C0 hb hP (isW_k (isV_w v31)) rfl dX5_stir_64 ?_
                    refine lv_iload hx hb dX5_stir_67 (lv_at hl 0 rfl) ?_
                    obtain ⟨hi_14, h⟩ := chk_s h
                    refine m_iald (o := 34) (N := 12) (i := x4_9) (j := x4_9.toNatClampNeg) C0 hb hP (isW_2 (isV_w v31)) (by decide) hi_14 rfl dX5_stir_69 ?_
                    refine lv_isub hx hb dX5_stir_70 ?_
                    refine m_abs (rest := [.int (σ_10 61 x4_9.toNatClampNeg), .int x4_9, .ref (a 61)]) C0 hb hml hl.1 wm_X5_300 (Nat.le_of_ble_eq_true rfl) (Nat.le_of_ble_eq_true rfl) (Nat.zero_le _) (Nat.zero_le _) dX5_stir_71 ?_
                    refine lv_iadd hx hb dX5_stir_74 ?_
                    obtain ⟨hi_15, h⟩ := chk_s h
                    refine m_iast (o := 61) (N := 12) (i := x4_9) (j := x4_9.toNatClampNeg) C0 hb hP hS (rfl : kR 61 = 100 + 12) (by decide) hi_15 rfl dX5_stir_75 (fun H locs hP hS => ?_)
                    refine lv_iinc (v := x4_9 + 1) (lv' := [(4, .int (x4_9 + 1)), (3, .int x3_4), (2, .ref (a 32)), (0, .ref (a 0)), (1, .int x1)]) hx hb dX5_stir_76 hl (k := 0) rfl rfl (by decide) rfl (fun ls hl => ?_)
                    refine lv_goto (tgt := 41) hx hb dX5_stir_79 (by decide) ?_
                    exact ih41 (x4_9 + 1) (mst σ_10 61 x4_9.toNatClampNeg ((σ_10 61 x4_9.toNatClampNeg) + (jabs ((σ_10 33 x4_9.toNatClampNeg) - (σ_10 34 x4_9.toNatClampNeg))))) _ _ _ h hP hS (lv_sub hl [0, 1, 2, 3, 4] rfl)
              exact L_16 FU 0 q_7 _ _ _ h hP hS (lv_sub hl [0, 1, 2, 3, 4] rfl)
        exact L_17 FU 1 (f_X5_waterTried σ_2) _ _ _ h hP hS (lv_sub hl [0, 1, 2, 3] rfl)
      · rw [if_neg c_3] at h
        refine lv_aload_n hx hb dX5_stir_8 rfl (lv_at hl 1 rfl) ?_
        refine gf_X5_25 (o := 0) (o2 := 61) C0 hb hP (rfl : kR 0 = 5) rfl dX5_stir_9 ?_
        refine lv_iload_n hx hb dX5_stir_12 rfl (lv_at hl 0 rfl) ?_
        refine lv_iconst (v := 0) hx hb dX5_stir_13 (by decide) ?_
        obtain ⟨hi_18, h⟩ := chk_s h
        refine m_iast (o := 61) (N := 12) (i := x2_1) (j := x2_1.toNatClampNeg) C0 hb hP hS (rfl : kR 61 = 100 + 12) (by decide) hi_18 rfl dX5_stir_14 (fun H locs hP hS => ?_)
        refine lv_iinc (v := x2_1 + 1) (lv' := [(2, .int (x2_1 + 1)), (0, .ref (a 0)), (1, .int x1)]) hx hb dX5_stir_15 hl (k := 0) rfl rfl (by decide) rfl (fun ls hl => ?_)
        refine lv_goto (tgt := 2) hx hb dX5_stir_18 (by decide) ?_
        exact ih2 (x2_1 + 1) (mst σ_2 61 x2_1.toNatClampNeg 0) _ _ _ h hP hS (lv_sub hl [0, 1, 2] rfl)
  exact L_19 FU 0 σ _ _ _ h hP hS (lv_sub hl [0, 1, 2] rfl)
def f_X5_watch_J50 (x3_8 : Int32) (rec27 : Int32 → Int32 → Option (Int32 × Mem)) (x2_12 : Int32) : Option (Int32 × Mem) := (rec27 x2_12 (x3_8 + 1))
def f_X5_watch_B27 (q_5 : Mem) (rec27 : Int32 → Int32 → Option (Int32 × Mem)) (x2_7 : Int32) (x3_8 : Int32) : Option (Int32 × Mem) := (if 12 ≤ x3_8 then some (x2_7, q_5) else (chk x3_8 12 (chk x2_7 12 (f_X5_watch_J50 x3_8 rec27 (if (q_5 61 x3_8.toNatClampNeg) ≤ (q_5 61 x2_7.toNatClampNeg) then x2_7 else x3_8)))))
def f_X5_watch (x1 : Int32) (σ : Mem) : Option (Int32 × Mem) := (if x1 < 1 then ((f_X5_finding (-1000001) σ).bind fun q_2 => some (q_2.1, q_2.2)) else (if x1 ≤ 60 then ((f_X5_stir x1 σ).bind fun q_5 => (it2 (f_X5_watch_B27 q_5) FU 0 1)) else ((f_X5_finding (-1000001) σ).bind fun q_16 => some (q_16.1, q_16.2))))
set_option maxHeartbeats 4000000 in
set_option maxRecDepth 100000 in
theorem k_X5_watch (l : Launch) (G : GG) (a : Nat → Nat) (σ : Mem) (hj : INJ nR a) (x1 : Int32) (q : Int32 × Mem) (h : f_X5_watch x1 σ = some q) : Met l yX5_watch (Cond.code yX5_watch cX5_watch 4 (some .int) :: TB) ({ frames := 4, cells := 0, slots := 0, locals := 95 } : Room) (PA G kR nR a σ [.ref (a 0), .int x1]) (QI G kR nR a q) 0 0 (AW nR a) := by
  refine M_ofW (by decide) hj kR_lt (Nat.le_of_ble_eq_true rfl) (fun p e s m below meth c ls C0 hb hml hr hlk hP hS hl => ?_)
  have C0 : CT p s _ m RX5 G kR nR a := C0
  have hx := C0.1
  have hts := C0.2.1
  have hown := C0.2.2.1
  have hl : lv_has ls 4 [(0, .ref (a 0)), (1, .int x1)] := hl
  unfold f_X5_watch at h
  refine lv_iload_n hx hb dX5_watch_0 rfl (lv_at hl 1 rfl) ?_
  refine lv_iconst (v := 1) hx hb dX5_watch_1 (by decide) ?_
  refine lv_icmp_lt (tgt := 11) hx hb dX5_watch_2 (by decide) (fun (c_1 : x1 < 1) => ?_) (fun (c_1 : ¬ x1 < 1) => ?_)
  · rw [if_pos c_1] at h
    refine lv_aload_n hx hb dX5_watch_11 rfl (lv_at hl 0 rfl) ?_
    refine lv_ldc hx hb hown (hts _ wk_X5_54) dX5_watch_12 ?_
    obtain ⟨q_2, hq_3, h⟩ := bd_s h
    refine m_cVi (As := [.int (-1000001)]) (rest := []) (o := 0) (ci := 5) C0 hb hml hl.1 wm_X5_55 md_X5_finding (k_X5_finding l G a σ hj (-1000001) q_2 hq_3) rfl rfl ⟨(Nat.le_of_ble_eq_true rfl), (Nat.le_of_ble_eq_true rfl)⟩ hP hS (rfl : kR 0 = 5) (by decide) rfl rfl rfl (Nat.le_of_ble_eq_true rfl) dX5_watch_14 (fun H locs hP hS => ?_)
    exact m_ri hx hb hr hlk hP hS (Option.some.inj h) dX5_watch_17
  · rw [if_neg c_1] at h
    refine lv_iload_n hx hb dX5_watch_5 rfl (lv_at hl 1 rfl) ?_
    refine lv_bipush (v := 60) hx hb dX5_watch_6 (by decide) ?_
    refine lv_icmp_le (tgt := 18) hx hb dX5_watch_8 (by decide) (fun (c_4 : x1 ≤ 60) => ?_) (fun (c_4 : ¬ x1 ≤ 60) => ?_)
    · rw [if_pos c_4] at h
      refine lv_aload_n hx hb dX5_watch_18 rfl (lv_at hl 0 rfl) ?_
      refine lv_iload_n hx hb dX5_watch_19 rfl (lv_at hl 1 rfl) ?_
      obtain ⟨q_5, hq_6, h⟩ := bd_s h
      refine m_cVv (As := [.int x1]) (rest := []) (o := 0) (ci := 5) C0 hb hml hl.1 wm_X5_199 md_X5_stir (k_X5_stir l G a σ hj x1 q_5 hq_6) rfl rfl ⟨(Nat.le_of_ble_eq_true rfl), (Nat.le_of_ble_eq_true rfl)⟩ hP hS (rfl : kR 0 = 5) (by decide) rfl rfl rfl (Nat.le_of_ble_eq_true rfl) dX5_watch_20 (fun H locs hP hS => ?_)
      refine lv_iconst (v := 0) hx hb dX5_watch_23 (by decide) ?_
      refine lv_istore_n (lv' := [(2, .int 0), (0, .ref (a 0)), (1, .int x1)]) hx hb dX5_watch_24 rfl hl (by decide) rfl (fun ls hl => ?_)
      refine lv_iconst (v := 1) hx hb dX5_watch_25 (by decide) ?_
      refine lv_istore_n (lv' := [(3, .int 1), (2, .int 0), (0, .ref (a 0)), (1, .int x1)]) hx hb dX5_watch_26 rfl hl (by decide) rfl (fun ls hl => ?_)
      have L_15 : ∀ (fu27 : Nat) (x2_7 : Int32) (x3_8 : Int32) (H : Heap) (locs : List Loc) (ls : Array Slot), it2 (f_X5_watch_B27 q_5) fu27 x2_7 x3_8 = some q → HP G kR nR a q_5 H → va_S (AW nR a) s.heap H locs → lv_has ls 4 [(3, .int x3_8), (2, .int x2_7), (0, .ref (a 0))] → W p l e ({ frames := 4, cells := 0, slots := 0, locals := 95 } : Room) s m ([.ref (a 0), .int x1] : List Value).toArray below meth c H locs 0 0 (MQ below (QI G kR nR a q) ([.ref (a 0), .int x1] : List Value).toArray s 0 0 (AW nR a)) (F0 m 27 ls []) := by
        intro fu27
        induction fu27 with
        | zero =>
          intro x2_7 x3_8 H locs ls h
          cases h
        | succ fu27 ih27 =>
          intro x2_7 x3_8 H locs ls h hP hS hl
          replace h : (f_X5_watch_B27 q_5) (it2 (f_X5_watch_B27 q_5) fu27) x2_7 x3_8 = some q := h
          generalize it2 (f_X5_watch_B27 q_5) fu27 = rec27 at h ih27
          unfold f_X5_watch_B27 at h
          refine lv_iload_n hx hb dX5_watch_27 rfl (lv_at hl 0 rfl) ?_
          refine lv_bipush (v := 12) hx hb dX5_watch_28 (by decide) ?_
          refine lv_icmp_ge (tgt := 56) hx hb dX5_watch_30 (by decide) (fun (c_9 : 12 ≤ x3_8) => ?_) (fun (c_9 : ¬ 12 ≤ x3_8) => ?_)
          · rw [if_pos c_9] at h
            refine lv_iload_n hx hb dX5_watch_56 rfl (lv_at hl 1 rfl) ?_
            exact m_ri hx hb hr hlk hP hS (Option.some.inj h) dX5_watch_57
          · rw [if_neg c_9] at h
            refine lv_aload_n hx hb dX5_watch_33 rfl (lv_at hl 2 rfl) ?_
            refine gf_X5_25 (o := 0) (o2 := 61) C0 hb hP (rfl : kR 0 = 5) rfl dX5_watch_34 ?_
            refine lv_iload_n hx hb dX5_watch_37 rfl (lv_at hl 0 rfl) ?_
            obtain ⟨hi_10, h⟩ := chk_s h
            refine m_iald (o := 61) (N := 12) (i := x3_8) (j := x3_8.toNatClampNeg) C0 hb hP (rfl : kR 61 = 100 + 12) (by decide) hi_10 rfl dX5_watch_38 ?_
            refine lv_aload_n hx hb dX5_watch_39 rfl (lv_at hl 2 rfl) ?_
            refine gf_X5_25 (o := 0) (o2 := 61) C0 hb hP (rfl : kR 0 = 5) rfl dX5_watch_40 ?_
            refine lv_iload_n hx hb dX5_watch_43 rfl (lv_at hl 1 rfl) ?_
            obtain ⟨hi_11, h⟩ := chk_s h
            refine m_iald (o := 61) (N := 12) (i := x2_7) (j := x2_7.toNatClampNeg) C0 hb hP (rfl : kR 61 = 100 + 12) (by decide) hi_11 rfl dX5_watch_44 ?_
            have J_13 : ∀ (x2_12 : Int32) (H : Heap) (locs : List Loc) (ls : Array Slot), f_X5_watch_J50 x3_8 rec27 x2_12 = some q → HP G kR nR a q_5 H → va_S (AW nR a) s.heap H locs → lv_has ls 4 [(3, .int x3_8), (2, .int x2_12), (0, .ref (a 0))] → W p l e ({ frames := 4, cells := 0, slots := 0, locals := 95 } : Room) s m ([.ref (a 0), .int x1] : List Value).toArray below meth c H locs 0 0 (MQ below (QI G kR nR a q) ([.ref (a 0), .int x1] : List Value).toArray s 0 0 (AW nR a)) (F0 m 50 ls []) := by
              intro x2_12 H locs ls h hP hS hl
              unfold f_X5_watch_J50 at h
              refine lv_iinc (v := x3_8 + 1) (lv' := [(3, .int (x3_8 + 1)), (2, .int x2_12), (0, .ref (a 0))]) hx hb dX5_watch_50 hl (k := 0) rfl rfl (by decide) rfl (fun ls hl => ?_)
              refine lv_goto (tgt := 27) hx hb dX5_watch_53 (by decide) ?_
              exact ih27 x2_12 (x3_8 + 1) _ _ _ h hP hS (lv_sub hl [0, 1, 2] rfl)
            refine lv_icmp_le (tgt := 50) hx hb dX5_watch_45 (by decide) (fun (c_14 : (q_5 61 x3_8.toNatClampNeg) ≤ (q_5 61 x2_7.toNatClampNeg)) => ?_) (fun (c_14 : ¬ (q_5 61 x3_8.toNatClampNeg) ≤ (q_5 61 x2_7.toNatClampNeg)) => ?_)
            · rw [if_pos c_14] at h
              exact J_13 x2_7 _ _ _ h hP hS (lv_sub hl [0, 1, 2] rfl)
            · rw [if_neg c_14] at h
              refine lv_iload_n hx hb dX5_watch_48 rfl (lv_at hl 0 rfl) ?_
              refine lv_istore_n (lv' := [(2, .int x3_8), (3, .int x3_8), (0, .ref (a 0))]) hx hb dX5_watch_49 rfl hl (by decide) rfl (fun ls hl => ?_)
              exact J_13 x3_8 _ _ _ h hP hS (lv_sub hl [1, 0, 2] rfl)
      exact L_15 FU 0 1 _ _ _ h hP hS (lv_sub hl [0, 1, 2] rfl)
    · rw [if_neg c_4] at h
      refine lv_aload_n hx hb dX5_watch_11 rfl (lv_at hl 0 rfl) ?_
      refine lv_ldc hx hb hown (hts _ wk_X5_54) dX5_watch_12 ?_
      obtain ⟨q_16, hq_17, h⟩ := bd_s h
      refine m_cVi (As := [.int (-1000001)]) (rest := []) (o := 0) (ci := 5) C0 hb hml hl.1 wm_X5_55 md_X5_finding (k_X5_finding l G a σ hj (-1000001) q_16 hq_17) rfl rfl ⟨(Nat.le_of_ble_eq_true rfl), (Nat.le_of_ble_eq_true rfl)⟩ hP hS (rfl : kR 0 = 5) (by decide) rfl rfl rfl (Nat.le_of_ble_eq_true rfl) dX5_watch_14 (fun H locs hP hS => ?_)
      exact m_ri hx hb hr hlk hP hS (Option.some.inj h) dX5_watch_17

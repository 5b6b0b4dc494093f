def f_X6_rowItem_J30 (x3 : Int32) (q_3 : Mem) (t_5 : Int32) : Option (Mem) := ((f_X6_number 0 x3 q_3).bind fun q_6 => (if (q_6 0 17) = 0 then (chk t_5 74 (some (mst q_6 1 t_5.toNatClampNeg (q_6 0 16)))) else (chk t_5 74 (chk t_5 74 (some (mst q_6 1 t_5.toNatClampNeg (q_6 1 t_5.toNatClampNeg)))))))
def f_X6_rowItem (x1 : Int32) (x2 : Int32) (x3 : Int32) (σ : Mem) : Option (Mem) := ((f_X6_must 1 σ).bind fun q_1 => ((f_X6_number 0 (x2 - 1) q_1).bind fun q_3 => (f_X6_rowItem_J30 x3 q_3 (if (q_3 0 17) = 0 then x1 + (q_3 0 16) else x1))))
set_option maxHeartbeats 4000000 in
set_option maxRecDepth 100000 in
theorem k_X6_rowItem (l : Launch) (G : GG) (a : Nat → Nat) (σ : Mem) (hj : INJ nM a) (x1 : Int32) (x2 : Int32) (x3 : Int32) (q : Mem) (h : f_X6_rowItem x1 x2 x3 σ = some q) : Met l yX6_rowItem (Cond.code yX6_rowItem cX6_rowItem 5 none :: TB) ({ frames := 5, cells := 0, slots := 0, locals := 113 } : Room) (PA G kM nM a σ [.ref (a 0), .int x1, .int x2, .int x3]) (QV G kM nM a q) 0 0 (AW nM a) := by
  refine M_ofW (by decide) hj kM_lt (Nat.le_of_ble_eq_true rfl) (fun p e s m below meth c ls C0 hb hml hr hlk hP hS hl => ?_)
  have C0 : CT p s _ m RX6 G kM nM a := C0
  have hx := C0.1
  have hts := C0.2.1
  have hown := C0.2.2.1
  have hl : lv_has ls 5 [(0, .ref (a 0)), (1, .int x1), (2, .int x2), (3, .int x3)] := hl
  unfold f_X6_rowItem at h
  refine lv_aload_n hx hb dX6_rowItem_0 rfl (lv_at hl 0 rfl) ?_
  refine lv_iconst (v := 1) hx hb dX6_rowItem_1 (by decide) ?_
  obtain ⟨q_1, hq_2, h⟩ := bd_s h
  refine m_cVv (As := [.int 1]) (rest := []) (o := 0) (ci := 6) C0 hb hml hl.1 wm_X6_261 md_X6_must (k_X6_must l G a σ hj 1 q_1 hq_2) rfl rfl ⟨(Nat.le_of_ble_eq_true rfl), (Nat.le_of_ble_eq_true rfl)⟩ hP hS (rfl : kM 0 = 6) (by decide) rfl rfl rfl (Nat.le_of_ble_eq_true rfl) dX6_rowItem_2 (fun H locs hP hS => ?_)
  refine lv_aload_n hx hb dX6_rowItem_5 rfl (lv_at hl 0 rfl) ?_
  refine lv_iconst (v := 0) hx hb dX6_rowItem_6 (by decide) ?_
  refine lv_iload_n hx hb dX6_rowItem_7 rfl (lv_at hl 2 rfl) ?_
  refine lv_iconst (v := 1) hx hb dX6_rowItem_8 (by decide) ?_
  refine lv_isub hx hb dX6_rowItem_9 ?_
  obtain ⟨q_3, hq_4, h⟩ := bd_s h
  refine m_cVv (As := [.int 0, .int (x2 - 1)]) (rest := []) (o := 0) (ci := 6) C0 hb hml hl.1 wm_X6_283 md_X6_number (k_X6_number l G a q_1 hj 0 (x2 - 1) q_3 hq_4) rfl rfl ⟨(Nat.le_of_ble_eq_true rfl), (Nat.le_of_ble_eq_true rfl)⟩ hP hS (rfl : kM 0 = 6) (by decide) rfl rfl rfl (Nat.le_of_ble_eq_true rfl) dX6_rowItem_10 (fun H locs hP hS => ?_)
  refine lv_aload_n hx hb dX6_rowItem_13 rfl (lv_at hl 0 rfl) ?_
  refine gf_X6_248 (o := 0) C0 hb hP (rfl : kM 0 = 6) dX6_rowItem_14 ?_
  have J_12 : ∀ (t_5 : Int32) (H : Heap) (locs : List Loc) (ls : Array Slot), f_X6_rowItem_J30 x3 q_3 t_5 = some q → HP G kM nM a q_3 H → va_S (AW nM a) s.heap H locs → lv_has ls 5 [(0, .ref (a 0)), (3, .int x3)] → W p l e ({ frames := 5, cells := 0, slots := 0, locals := 113 } : Room) s m ([.ref (a 0), .int x1, .int x2, .int x3] : List Value).toArray below meth c H locs 0 0 (MQ below (QV G kM nM a q) ([.ref (a 0), .int x1, .int x2, .int x3] : List Value).toArray s 0 0 (AW nM a)) (F0 m 30 ls [.int t_5]) := by
    intro t_5 H locs ls h hP hS hl
    unfold f_X6_rowItem_J30 at h
    refine lv_istore (lv' := [(4, .int t_5), (0, .ref (a 0)), (3, .int x3)]) hx hb dX6_rowItem_30 hl (by decide) rfl (fun ls hl => ?_)
    refine lv_aload_n hx hb dX6_rowItem_32 rfl (lv_at hl 1 rfl) ?_
    refine lv_iconst (v := 0) hx hb dX6_rowItem_33 (by decide) ?_
    refine lv_iload_n hx hb dX6_rowItem_34 rfl (lv_at hl 2 rfl) ?_
    obtain ⟨q_6, hq_7, h⟩ := bd_s h
    refine m_cVv (As := [.int 0, .int x3]) (rest := []) (o := 0) (ci := 6) C0 hb hml hl.1 wm_X6_283 md_X6_number (k_X6_number l G a q_3 hj 0 x3 q_6 hq_7) rfl rfl ⟨(Nat.le_of_ble_eq_true rfl), (Nat.le_of_ble_eq_true rfl)⟩ hP hS (rfl : kM 0 = 6) (by decide) rfl rfl rfl (Nat.le_of_ble_eq_true rfl) dX6_rowItem_35 (fun H locs hP hS => ?_)
    refine lv_aload_n hx hb dX6_rowItem_38 rfl (lv_at hl 1 rfl) ?_
    refine gf_X6_7 (o := 0) (o2 := 1) C0 hb hP (rfl : kM 0 = 6) rfl dX6_rowItem_39 ?_
    refine lv_iload hx hb dX6_rowItem_42 (lv_at hl 0 rfl) ?_
    refine lv_aload_n hx hb dX6_rowItem_44 rfl (lv_at hl 1 rfl) ?_
    refine gf_X6_248 (o := 0) C0 hb hP (rfl : kM 0 = 6) dX6_rowItem_45 ?_
    refine lv_if_eq (tgt := 61) hx hb dX6_rowItem_48 (by decide) (fun (c_8 : (q_6 0 17) = 0) => ?_) (fun (c_8 : ¬ (q_6 0 17) = 0) => ?_)
    · rw [if_pos c_8] at h
      refine lv_aload_n hx hb dX6_rowItem_61 rfl (lv_at hl 1 rfl) ?_
      refine gf_X6_258 (o := 0) C0 hb hP (rfl : kM 0 = 6) dX6_rowItem_62 ?_
      obtain ⟨hi_9, h⟩ := chk_s h
      refine m_iast (o := 1) (N := 74) (i := t_5) (j := t_5.toNatClampNeg) C0 hb hP hS (rfl : kM 1 = 100 + 74) (by decide) hi_9 rfl dX6_rowItem_65 (fun H locs hP hS => ?_)
      exact m_rv hx hb hr hlk hP hS (Option.some.inj h) dX6_rowItem_66
    · rw [if_neg c_8] at h
      refine lv_aload_n hx hb dX6_rowItem_51 rfl (lv_at hl 1 rfl) ?_
      refine gf_X6_7 (o := 0) (o2 := 1) C0 hb hP (rfl : kM 0 = 6) rfl dX6_rowItem_52 ?_
      refine lv_iload hx hb dX6_rowItem_55 (lv_at hl 0 rfl) ?_
      obtain ⟨hi_10, h⟩ := chk_s h
      refine m_iald (o := 1) (N := 74) (i := t_5) (j := t_5.toNatClampNeg) C0 hb hP (rfl : kM 1 = 100 + 74) (by decide) hi_10 rfl dX6_rowItem_57 ?_
      refine lv_goto (tgt := 65) hx hb dX6_rowItem_58 (by decide) ?_
      obtain ⟨hi_11, h⟩ := chk_s h
      refine m_iast (o := 1) (N := 74) (i := t_5) (j := t_5.toNatClampNeg) C0 hb hP hS (rfl : kM 1 = 100 + 74) (by decide) hi_11 rfl dX6_rowItem_65 (fun H locs hP hS => ?_)
      exact m_rv hx hb hr hlk hP hS (Option.some.inj h) dX6_rowItem_66
  refine lv_if_eq (tgt := 24) hx hb dX6_rowItem_17 (by decide) (fun (c_13 : (q_3 0 17) = 0) => ?_) (fun (c_13 : ¬ (q_3 0 17) = 0) => ?_)
  · rw [if_pos c_13] at h
    refine lv_iload_n hx hb dX6_rowItem_24 rfl (lv_at hl 1 rfl) ?_
    refine lv_aload_n hx hb dX6_rowItem_25 rfl (lv_at hl 0 rfl) ?_
    refine gf_X6_258 (o := 0) C0 hb hP (rfl : kM 0 = 6) dX6_rowItem_26 ?_
    refine lv_iadd hx hb dX6_rowItem_29 ?_
    exact J_12 (x1 + (q_3 0 16)) _ _ _ h hP hS (lv_sub hl [0, 3] rfl)
  · rw [if_neg c_13] at h
    refine lv_iload_n hx hb dX6_rowItem_20 rfl (lv_at hl 1 rfl) ?_
    refine lv_goto (tgt := 30) hx hb dX6_rowItem_21 (by decide) ?_
    exact J_12 x1 _ _ _ h hP hS (lv_sub hl [0, 3] rfl)
def f_X6_perhaps (y1 : Int64) (x3 : Int32) (x4 : Int32) (σ : Mem) : Option (Mem) := ((f_X6_word σ).bind fun q_1 => (if (lg_cmp q_1 y1) = 0 then ((f_X6_must 1 σ).bind fun q_4 => ((f_X6_number 0 x4 q_4).bind fun q_6 => (if (q_6 0 17) = 0 then (chk x3 74 (some (mst q_6 1 x3.toNatClampNeg (q_6 0 16)))) else (chk x3 74 (chk x3 74 (some (mst q_6 1 x3.toNatClampNeg (q_6 1 x3.toNatClampNeg)))))))) else some σ))
set_option maxHeartbeats 4000000 in
set_option maxRecDepth 100000 in
theorem k_X6_perhaps (l : Launch) (G : GG) (a : Nat → Nat) (σ : Mem) (hj : INJ nM a) (y1 : Int64) (x3 : Int32) (x4 : Int32) (q : Mem) (h : f_X6_perhaps y1 x3 x4 σ = some q) : Met l yX6_perhaps (Cond.code yX6_perhaps cX6_perhaps 5 none :: TB) ({ frames := 5, cells := 0, slots := 0, locals := 113 } : Room) (PA G kM nM a σ [.ref (a 0), .long y1, .int x3, .int x4]) (QV G kM nM a q) 0 0 (AW nM a) := by
  refine M_ofW (by decide) hj kM_lt (Nat.le_of_ble_eq_true rfl) (fun p e s m below meth c ls C0 hb hml hr hlk hP hS hl => ?_)
  have C0 : CT p s _ m RX6 G kM nM a := C0
  have hx := C0.1
  have hts := C0.2.1
  have hown := C0.2.2.1
  have hl : lv_has ls 5 [(0, .ref (a 0)), (1, .long y1), (3, .int x3), (4, .int x4)] := hl
  unfold f_X6_perhaps at h
  refine lv_aload_n hx hb dX6_perhaps_0 rfl (lv_at hl 0 rfl) ?_
  obtain ⟨q_1, hq_2, h⟩ := bd_s h
  refine m_rVl (As := []) (rest := []) (o := 0) (ci := 6) C0 hb hml hl.1 wm_X6_265 md_X6_word (k_X6_word l G a σ hj q_1 hq_2) rfl rfl ⟨(Nat.le_of_ble_eq_true rfl), (Nat.le_of_ble_eq_true rfl)⟩ hP hS (rfl : kM 0 = 6) (by decide) rfl rfl rfl (Nat.le_of_ble_eq_true rfl) dX6_perhaps_1 ?_
  refine lv_lload_n hx hb dX6_perhaps_4 rfl (lv_at hl 1 rfl) ?_
  refine W.lcmp hx hb dX6_perhaps_5 ?_
  refine lv_if_ne (tgt := 47) hx hb dX6_perhaps_6 (by decide) (fun (c_3 : ¬ (lg_cmp q_1 y1) = 0) => ?_) (fun (c_3 : (lg_cmp q_1 y1) = 0) => ?_)
  · rw [if_neg c_3] at h
    exact m_rv hx hb hr hlk hP hS (Option.some.inj h) dX6_perhaps_47
  · rw [if_pos c_3] at h
    refine lv_aload_n hx hb dX6_perhaps_9 rfl (lv_at hl 0 rfl) ?_
    refine lv_iconst (v := 1) hx hb dX6_perhaps_10 (by decide) ?_
    obtain ⟨q_4, hq_5, h⟩ := bd_s h
    refine m_cVv (As := [.int 1]) (rest := []) (o := 0) (ci := 6) C0 hb hml hl.1 wm_X6_261 md_X6_must (k_X6_must l G a σ hj 1 q_4 hq_5) rfl rfl ⟨(Nat.le_of_ble_eq_true rfl), (Nat.le_of_ble_eq_true rfl)⟩ hP hS (rfl : kM 0 = 6) (by decide) rfl rfl rfl (Nat.le_of_ble_eq_true rfl) dX6_perhaps_11 (fun H locs hP hS => ?_)
    refine lv_aload_n hx hb dX6_perhaps_14 rfl (lv_at hl 0 rfl) ?_
    refine lv_iconst (v := 0) hx hb dX6_perhaps_15 (by decide) ?_
    refine lv_iload hx hb dX6_perhaps_16 (lv_at hl 3 rfl) ?_
    obtain ⟨q_6, hq_7, h⟩ := bd_s h
    refine m_cVv (As := [.int 0, .int x4]) (rest := []) (o := 0) (ci := 6) C0 hb hml hl.1 wm_X6_283 md_X6_number (k_X6_number l G a q_4 hj 0 x4 q_6 hq_7) rfl rfl ⟨(Nat.le_of_ble_eq_true rfl), (Nat.le_of_ble_eq_true rfl)⟩ hP hS (rfl : kM 0 = 6) (by decide) rfl rfl rfl (Nat.le_of_ble_eq_true rfl) dX6_perhaps_18 (fun H locs hP hS => ?_)
    refine lv_aload_n hx hb dX6_perhaps_21 rfl (lv_at hl 0 rfl) ?_
    refine gf_X6_7 (o := 0) (o2 := 1) C0 hb hP (rfl : kM 0 = 6) rfl dX6_perhaps_22 ?_
    refine lv_iload_n hx hb dX6_perhaps_25 rfl (lv_at hl 2 rfl) ?_
    refine lv_aload_n hx hb dX6_perhaps_26 rfl (lv_at hl 0 rfl) ?_
    refine gf_X6_248 (o := 0) C0 hb hP (rfl : kM 0 = 6) dX6_perhaps_27 ?_
    refine lv_if_eq (tgt := 42) hx hb dX6_perhaps_30 (by decide) (fun (c_8 : (q_6 0 17) = 0) => ?_) (fun (c_8 : ¬ (q_6 0 17) = 0) => ?_)
    · rw [if_pos c_8] at h
      refine lv_aload_n hx hb dX6_perhaps_42 rfl (lv_at hl 0 rfl) ?_
      refine gf_X6_258 (o := 0) C0 hb hP (rfl : kM 0 = 6) dX6_perhaps_43 ?_
      obtain ⟨hi_9, h⟩ := chk_s h
      refine m_iast (o := 1) (N := 74) (i := x3) (j := x3.toNatClampNeg) C0 hb hP hS (rfl : kM 1 = 100 + 74) (by decide) hi_9 rfl dX6_perhaps_46 (fun H locs hP hS => ?_)
      exact m_rv hx hb hr hlk hP hS (Option.some.inj h) dX6_perhaps_47
    · rw [if_neg c_8] at h
      refine lv_aload_n hx hb dX6_perhaps_33 rfl (lv_at hl 0 rfl) ?_
      refine gf_X6_7 (o := 0) (o2 := 1) C0 hb hP (rfl : kM 0 = 6) rfl dX6_perhaps_34 ?_
      refine lv_iload_n hx hb dX6_perhaps_37 rfl (lv_at hl 2 rfl) ?_
      obtain ⟨hi_10, h⟩ := chk_s h
      refine m_iald (o := 1) (N := 74) (i := x3) (j := x3.toNatClampNeg) C0 hb hP (rfl : kM 1 = 100 + 74) (by decide) hi_10 rfl dX6_perhaps_38 ?_
      refine lv_goto (tgt := 46) hx hb dX6_perhaps_39 (by decide) ?_
      obtain ⟨hi_11, h⟩ := chk_s h
      refine m_iast (o := 1) (N := 74) (i := x3) (j := x3.toNatClampNeg) C0 hb hP hS (rfl : kM 1 = 100 + 74) (by decide) hi_11 rfl dX6_perhaps_46 (fun H locs hP hS => ?_)
      exact m_rv hx hb hr hlk hP hS (Option.some.inj h) dX6_perhaps_47
def f_X6_watcherItem_J17 (x1 : Int32) (σ : Mem) (t_1 : Int32) : Option (Mem) := ((f_X6_must t_1 σ).bind fun q_2 => (if (q_2 0 17) = 0 then ((f_X6_adds x1 0 q_2).bind fun q_5 => ((f_X6_perhaps 52 (f_X6_place q_5.1 1) 11 q_5.2).bind fun q_7 => ((f_X6_perhaps 24165011 (f_X6_place q_5.1 2) 999 q_7).bind fun q_9 => ((f_X6_perhaps 74500462771 (f_X6_place q_5.1 3) 99 q_9).bind fun q_11 => some q_11)))) else some q_2))
def f_X6_watcherItem (x1 : Int32) (σ : Mem) : Option (Mem) := (f_X6_watcherItem_J17 x1 σ (if 8 ≤ (σ 1 1) then 0 else 1))
set_option maxHeartbeats 4000000 in
set_option maxRecDepth 100000 in
theorem k_X6_watcherItem (l : Launch) (G : GG) (a : Nat → Nat) (σ : Mem) (hj : INJ nM a) (x1 : Int32) (q : Mem) (h : f_X6_watcherItem x1 σ = some q) : Met l yX6_watcherItem (Cond.code yX6_watcherItem cX6_watcherItem 3 none :: TB) ({ frames := 6, cells := 0, slots := 0, locals := 137 } : Room) (PA G kM nM a σ [.ref (a 0), .int x1]) (QV G kM nM a q) 0 0 (AW nM a) := by
  refine M_ofW (by decide) hj kM_lt (Nat.le_of_ble_eq_true rfl) (fun p e s m below meth c ls C0 hb hml hr hlk hP hS hl => ?_)
  have C0 : CT p s _ m RX6 G kM nM a := C0
  have hx := C0.1
  have hts := C0.2.1
  have hown := C0.2.2.1
  have hl : lv_has ls 3 [(0, .ref (a 0)), (1, .int x1)] := hl
  unfold f_X6_watcherItem at h
  refine lv_aload_n hx hb dX6_watcherItem_0 rfl (lv_at hl 0 rfl) ?_
  refine lv_aload_n hx hb dX6_watcherItem_1 rfl (lv_at hl 0 rfl) ?_
  refine gf_X6_7 (o := 0) (o2 := 1) C0 hb hP (rfl : kM 0 = 6) rfl dX6_watcherItem_2 ?_
  refine lv_iconst (v := 1) hx hb dX6_watcherItem_5 (by decide) ?_
  refine m_iald (o := 1) (N := 74) (i := 1) (j := 1) C0 hb hP (rfl : kM 1 = 100 + 74) (by decide) (show vp_in 1 74 by unfold vp_in; decide) (by decide) dX6_watcherItem_6 ?_
  refine lv_bipush (v := 8) hx hb dX6_watcherItem_7 (by decide) ?_
  have J_13 : ∀ (t_1 : Int32) (H : Heap) (locs : List Loc) (ls : Array Slot), f_X6_watcherItem_J17 x1 σ t_1 = some q → HP G kM nM a σ H → va_S (AW nM a) s.heap H locs → lv_has ls 3 [(0, .ref (a 0)), (1, .int x1)] → W p l e ({ frames := 6, cells := 0, slots := 0, locals := 137 } : Room) s m ([.ref (a 0), .int x1] : List Value).toArray below meth c H locs 0 0 (MQ below (QV G kM nM a q) ([.ref (a 0), .int x1] : List Value).toArray s 0 0 (AW nM a)) (F0 m 17 ls [.int t_1, .ref (a 0)]) := by
    intro t_1 H locs ls h hP hS hl
    unfold f_X6_watcherItem_J17 at h
    obtain ⟨q_2, hq_3, h⟩ := bd_s h
    refine m_cVv (As := [.int t_1]) (rest := []) (o := 0) (ci := 6) C0 hb hml hl.1 wm_X6_261 md_X6_must (k_X6_must l G a σ hj t_1 q_2 hq_3) rfl rfl ⟨(Nat.le_of_ble_eq_true rfl), (Nat.le_of_ble_eq_true rfl)⟩ hP hS (rfl : kM 0 = 6) (by decide) rfl rfl rfl (Nat.le_of_ble_eq_true rfl) dX6_watcherItem_17 (fun H locs hP hS => ?_)
    refine lv_aload_n hx hb dX6_watcherItem_20 rfl (lv_at hl 0 rfl) ?_
    refine gf_X6_248 (o := 0) C0 hb hP (rfl : kM 0 = 6) dX6_watcherItem_21 ?_
    refine lv_if_eq (tgt := 28) hx hb dX6_watcherItem_24 (by decide) (fun (c_4 : (q_2 0 17) = 0) => ?_) (fun (c_4 : ¬ (q_2 0 17) = 0) => ?_)
    · rw [if_pos c_4] at h
      refine lv_aload_n hx hb dX6_watcherItem_28 rfl (lv_at hl 0 rfl) ?_
      refine lv_iload_n hx hb dX6_watcherItem_29 rfl (lv_at hl 1 rfl) ?_
      refine lv_iconst (v := 0) hx hb dX6_watcherItem_30 (by decide) ?_
      obtain ⟨q_5, hq_6, h⟩ := bd_s h
      refine m_cVi (As := [.int x1, .int 0]) (rest := []) (o := 0) (ci := 6) C0 hb hml hl.1 wm_X6_97 md_X6_adds (k_X6_adds l G a q_2 hj x1 0 q_5 hq_6) rfl rfl ⟨(Nat.le_of_ble_eq_true rfl), (Nat.le_of_ble_eq_true rfl)⟩ hP hS (rfl : kM 0 = 6) (by decide) rfl rfl rfl (Nat.le_of_ble_eq_true rfl) dX6_watcherItem_31 (fun H locs hP hS => ?_)
      refine lv_istore_n (lv' := [(2, .int q_5.1), (0, .ref (a 0)), (1, .int x1)]) hx hb dX6_watcherItem_34 rfl hl (by decide) rfl (fun ls hl => ?_)
      refine lv_aload_n hx hb dX6_watcherItem_35 rfl (lv_at hl 1 rfl) ?_
      refine lv_ldc2 hx hb hown (hts _ wk_X6_287) dX6_watcherItem_36 ?_
      refine lv_iload_n hx hb dX6_watcherItem_39 rfl (lv_at hl 0 rfl) ?_
      refine lv_iconst (v := 1) hx hb dX6_watcherItem_40 (by decide) ?_
      refine m_pSi (As := [.int q_5.1, .int 1]) (rest := [.long 52, .ref (a 0)]) C0.z hb hml hl.1 wm_X6_59 md_X6_place (k_X6_place l q_5.1 1) rfl rfl ⟨(Nat.le_of_ble_eq_true rfl), (Nat.le_of_ble_eq_true rfl)⟩ rfl rfl (Nat.le_of_ble_eq_true rfl) dX6_watcherItem_41 ?_
      refine lv_bipush (v := 11) hx hb dX6_watcherItem_44 (by decide) ?_
      obtain ⟨q_7, hq_8, h⟩ := bd_s h
      refine m_cVv (As := [.long 52, .int (f_X6_place q_5.1 1), .int 11]) (rest := []) (o := 0) (ci := 6) C0 hb hml hl.1 wm_X6_289 md_X6_perhaps (k_X6_perhaps l G a q_5.2 hj 52 (f_X6_place q_5.1 1) 11 q_7 hq_8) rfl rfl ⟨(Nat.le_of_ble_eq_true rfl), (Nat.le_of_ble_eq_true rfl)⟩ hP hS (rfl : kM 0 = 6) (by decide) rfl rfl rfl (Nat.le_of_ble_eq_true rfl) dX6_watcherItem_46 (fun H locs hP hS => ?_)
      refine lv_aload_n hx hb dX6_watcherItem_49 rfl (lv_at hl 1 rfl) ?_
      refine lv_ldc2 hx hb hown (hts _ wk_X6_293) dX6_watcherItem_50 ?_
      refine lv_iload_n hx hb dX6_watcherItem_53 rfl (lv_at hl 0 rfl) ?_
      refine lv_iconst (v := 2) hx hb dX6_watcherItem_54 (by decide) ?_
      refine m_pSi (As := [.int q_5.1, .int 2]) (rest := [.long 24165011, .ref (a 0)]) C0.z hb hml hl.1 wm_X6_59 md_X6_place (k_X6_place l q_5.1 2) rfl rfl ⟨(Nat.le_of_ble_eq_true rfl), (Nat.le_of_ble_eq_true rfl)⟩ rfl rfl (Nat.le_of_ble_eq_true rfl) dX6_watcherItem_55 ?_
      refine lv_sipush (v := 999) hx hb dX6_watcherItem_58 (by decide) ?_
      obtain ⟨q_9, hq_10, h⟩ := bd_s h
      refine m_cVv (As := [.long 24165011, .int (f_X6_place q_5.1 2), .int 999]) (rest := []) (o := 0) (ci := 6) C0 hb hml hl.1 wm_X6_289 md_X6_perhaps (k_X6_perhaps l G a q_7 hj 24165011 (f_X6_place q_5.1 2) 999 q_9 hq_10) rfl rfl ⟨(Nat.le_of_ble_eq_true rfl), (Nat.le_of_ble_eq_true rfl)⟩ hP hS (rfl : kM 0 = 6) (by decide) rfl rfl rfl (Nat.le_of_ble_eq_true rfl) dX6_watcherItem_61 (fun H locs hP hS => ?_)
      refine lv_aload_n hx hb dX6_watcherItem_64 rfl (lv_at hl 1 rfl) ?_
      refine lv_ldc2 hx hb hown (hts _ wk_X6_295) dX6_watcherItem_65 ?_
      refine lv_iload_n hx hb dX6_watcherItem_68 rfl (lv_at hl 0 rfl) ?_
      refine lv_iconst (v := 3) hx hb dX6_watcherItem_69 (by decide) ?_
      refine m_pSi (As := [.int q_5.1, .int 3]) (rest := [.long 74500462771, .ref (a 0)]) C0.z hb hml hl.1 wm_X6_59 md_X6_place (k_X6_place l q_5.1 3) rfl rfl ⟨(Nat.le_of_ble_eq_true rfl), (Nat.le_of_ble_eq_true rfl)⟩ rfl rfl (Nat.le_of_ble_eq_true rfl) dX6_watcherItem_70 ?_
      refine lv_bipush (v := 99) hx hb dX6_watcherItem_73 (by decide) ?_
      obtain ⟨q_11, hq_12, h⟩ := bd_s h
      refine m_cVv (As := [.long 74500462771, .int (f_X6_place q_5.1 3), .int 99]) (rest := []) (o := 0) (ci := 6) C0 hb hml hl.1 wm_X6_289 md_X6_perhaps (k_X6_perhaps l G a q_9 hj 74500462771 (f_X6_place q_5.1 3) 99 q_11 hq_12) rfl rfl ⟨(Nat.le_of_ble_eq_true rfl), (Nat.le_of_ble_eq_true rfl)⟩ hP hS (rfl : kM 0 = 6) (by decide) rfl rfl rfl (Nat.le_of_ble_eq_true rfl) dX6_watcherItem_75 (fun H locs hP hS => ?_)
      exact m_rv hx hb hr hlk hP hS (Option.some.inj h) dX6_watcherItem_78
    · rw [if_neg c_4] at h
      exact m_rv hx hb hr hlk hP hS (Option.some.inj h) dX6_watcherItem_27
  refine lv_icmp_ge (tgt := 16) hx hb dX6_watcherItem_9 (by decide) (fun (c_14 : 8 ≤ (σ 1 1)) => ?_) (fun (c_14 : ¬ 8 ≤ (σ 1 1)) => ?_)
  · rw [if_pos c_14] at h
    refine lv_iconst (v := 0) hx hb dX6_watcherItem_16 (by decide) ?_
    exact J_13 0 _ _ _ h hP hS (lv_sub hl [0, 1] rfl)
  · rw [if_neg c_14] at h
    refine lv_iconst (v := 1) hx hb dX6_watcherItem_12 (by decide) ?_
    refine lv_goto (tgt := 17) hx hb dX6_watcherItem_13 (by decide) ?_
    exact J_13 1 _ _ _ h hP hS (lv_sub hl [0, 1] rfl)
def f_X6_item_J78 (σ : Mem) (t_8 : Int32) : Option (Mem) := ((f_X6_must t_8 σ).bind fun q_9 => ((f_X6_number 0 99 q_9).bind fun q_11 => (if (q_11 0 17) = 0 then ((f_X6_opensAll (q_11 0 16) q_11).bind fun q_14 => some q_14) else some q_11)))
def f_X6_item (σ : Mem) : Option (Mem) := ((f_X6_kindHere σ).bind fun q_1 => ((f_X6_word σ).bind fun q_3 => (if q_1 < 0 then (if (lg_cmp q_3 12769452) = 0 then ((f_X6_rowItem 12 12 9999 σ).bind fun q_20 => some q_20) else (if (lg_cmp q_3 536622) = 0 then ((f_X6_rowItem 4 8 99 σ).bind fun q_18 => some q_18) else (f_X6_item_J78 σ (if (lg_cmp q_3 658670745) = 0 then 1 else 0)))) else ((f_X6_watcherItem q_1 σ).bind fun q_22 => some q_22))))
set_option maxHeartbeats 4000000 in
set_option maxRecDepth 100000 in
theorem k_X6_item (l : Launch) (G : GG) (a : Nat → Nat) (σ : Mem) (hj : INJ nM a)  (q : Mem) (h : f_X6_item σ = some q) : Met l yX6_item (Cond.code yX6_item cX6_item 4 none :: TB) ({ frames := 7, cells := 0, slots := 0, locals := 159 } : Room) (PA G kM nM a σ [.ref (a 0)]) (QV G kM nM a q) 0 0 (AW nM a) := by
  refine M_ofW (by decide) hj kM_lt (Nat.le_of_ble_eq_true rfl) (fun p e s m below meth c ls C0 hb hml hr hlk hP hS hl => ?_)
  have C0 : CT p s _ m RX6 G kM nM a := C0
  have hx := C0.1
  have hts := C0.2.1
  have hown := C0.2.2.1
  have hl : lv_has ls 4 [(0, .ref (a 0))] := hl
  unfold f_X6_item at h
  refine lv_aload_n hx hb dX6_item_0 rfl (lv_at hl 0 rfl) ?_
  obtain ⟨q_1, hq_2, h⟩ := bd_s h
  refine m_rVi (As := []) (rest := []) (o := 0) (ci := 6) C0 hb hml hl.1 wm_X6_297 md_X6_kindHere (k_X6_kindHere l G a σ hj q_1 hq_2) rfl rfl ⟨(Nat.le_of_ble_eq_true rfl), (Nat.le_of_ble_eq_true rfl)⟩ hP hS (rfl : kM 0 = 6) (by decide) rfl rfl rfl (Nat.le_of_ble_eq_true rfl) dX6_item_1 ?_
  refine lv_istore_n (lv' := [(1, .int q_1), (0, .ref (a 0))]) hx hb dX6_item_4 rfl hl (by decide) rfl (fun ls hl => ?_)
  refine lv_aload_n hx hb dX6_item_5 rfl (lv_at hl 1 rfl) ?_
  obtain ⟨q_3, hq_4, h⟩ := bd_s h
  refine m_rVl (As := []) (rest := []) (o := 0) (ci := 6) C0 hb hml hl.1 wm_X6_265 md_X6_word (k_X6_word l G a σ hj q_3 hq_4) rfl rfl ⟨(Nat.le_of_ble_eq_true rfl), (Nat.le_of_ble_eq_true rfl)⟩ hP hS (rfl : kM 0 = 6) (by decide) rfl rfl rfl (Nat.le_of_ble_eq_true rfl) dX6_item_6 ?_
  refine lv_lstore_n (lv' := [(2, .long q_3), (1, .int q_1), (0, .ref (a 0))]) hx hb dX6_item_9 rfl hl (by decide) rfl (fun ls hl => ?_)
  refine lv_iload_n hx hb dX6_item_10 rfl (lv_at hl 1 rfl) ?_
  refine lv_if_lt (tgt := 22) hx hb dX6_item_11 (by decide) (fun (c_5 : q_1 < 0) => ?_) (fun (c_5 : ¬ q_1 < 0) => ?_)
  · rw [if_pos c_5] at h
    refine lv_lload_n hx hb dX6_item_22 rfl (lv_at hl 0 rfl) ?_
    refine lv_ldc2 hx hb hown (hts _ wk_X6_303) dX6_item_23 ?_
    refine W.lcmp hx hb dX6_item_26 ?_
    refine lv_if_ne (tgt := 44) hx hb dX6_item_27 (by decide) (fun (c_6 : ¬ (lg_cmp q_3 12769452) = 0) => ?_) (fun (c_6 : (lg_cmp q_3 12769452) = 0) => ?_)
    · rw [if_neg c_6] at h
      refine lv_lload_n hx hb dX6_item_44 rfl (lv_at hl 0 rfl) ?_
      refine lv_ldc2 hx hb hown (hts _ wk_X6_308) dX6_item_45 ?_
      refine W.lcmp hx hb dX6_item_48 ?_
      refine lv_if_ne (tgt := 64) hx hb dX6_item_49 (by decide) (fun (c_7 : ¬ (lg_cmp q_3 536622) = 0) => ?_) (fun (c_7 : (lg_cmp q_3 536622) = 0) => ?_)
      · rw [if_neg c_7] at h
        refine lv_aload_n hx hb dX6_item_64 rfl (lv_at hl 2 rfl) ?_
        refine lv_lload_n hx hb dX6_item_65 rfl (lv_at hl 0 rfl) ?_
        refine lv_ldc2 hx hb hown (hts _ wk_X6_310) dX6_item_66 ?_
        refine W.lcmp hx hb dX6_item_69 ?_
        have J_16 : ∀ (t_8 : Int32) (H : Heap) (locs : List Loc) (ls : Array Slot), f_X6_item_J78 σ t_8 = some q → HP G kM nM a σ H → va_S (AW nM a) s.heap H locs → lv_has ls 4 [(0, .ref (a 0))] → W p l e ({ frames := 7, cells := 0, slots := 0, locals := 159 } : Room) s m ([.ref (a 0)] : List Value).toArray below meth c H locs 0 0 (MQ below (QV G kM nM a q) ([.ref (a 0)] : List Value).toArray s 0 0 (AW nM a)) (F0 m 78 ls [.int t_8, .ref (a 0)]) := by
          intro t_8 H locs ls h hP hS hl
          unfold f_X6_item_J78 at h
          obtain ⟨q_9, hq_10, h⟩ := bd_s h
          refine m_cVv (As := [.int t_8]) (rest := []) (o := 0) (ci := 6) C0 hb hml hl.1 wm_X6_261 md_X6_must (k_X6_must l G a σ hj t_8 q_9 hq_10) rfl rfl ⟨(Nat.le_of_ble_eq_true rfl), (Nat.le_of_ble_eq_true rfl)⟩ hP hS (rfl : kM 0 = 6) (by decide) rfl rfl rfl (Nat.le_of_ble_eq_true rfl) dX6_item_78 (fun H locs hP hS => ?_)
          refine lv_aload_n hx hb dX6_item_81 rfl (lv_at hl 0 rfl) ?_
          refine lv_iconst (v := 0) hx hb dX6_item_82 (by decide) ?_
          refine lv_bipush (v := 99) hx hb dX6_item_83 (by decide) ?_
          obtain ⟨q_11, hq_12, h⟩ := bd_s h
          refine m_cVv (As := [.int 0, .int 99]) (rest := []) (o := 0) (ci := 6) C0 hb hml hl.1 wm_X6_283 md_X6_number (k_X6_number l G a q_9 hj 0 99 q_11 hq_12) rfl rfl ⟨(Nat.le_of_ble_eq_true rfl), (Nat.le_of_ble_eq_true rfl)⟩ hP hS (rfl : kM 0 = 6) (by decide) rfl rfl rfl (Nat.le_of_ble_eq_true rfl) dX6_item_85 (fun H locs hP hS => ?_)
          refine lv_aload_n hx hb dX6_item_88 rfl (lv_at hl 0 rfl) ?_
          refine gf_X6_248 (o := 0) C0 hb hP (rfl : kM 0 = 6) dX6_item_89 ?_
          refine lv_if_ne (tgt := 103) hx hb dX6_item_92 (by decide) (fun (c_13 : ¬ (q_11 0 17) = 0) => ?_) (fun (c_13 : (q_11 0 17) = 0) => ?_)
          · rw [if_neg c_13] at h
            exact m_rv hx hb hr hlk hP hS (Option.some.inj h) dX6_item_103
          · rw [if_pos c_13] at h
            refine lv_aload_n hx hb dX6_item_95 rfl (lv_at hl 0 rfl) ?_
            refine lv_aload_n hx hb dX6_item_96 rfl (lv_at hl 0 rfl) ?_
            refine gf_X6_258 (o := 0) C0 hb hP (rfl : kM 0 = 6) dX6_item_97 ?_
            obtain ⟨q_14, hq_15, h⟩ := bd_s h
            refine m_cVv (As := [.int (q_11 0 16)]) (rest := []) (o := 0) (ci := 6) C0 hb hml hl.1 wm_X6_89 md_X6_opensAll (k_X6_opensAll l G a q_11 hj (q_11 0 16) q_14 hq_15) rfl rfl ⟨(Nat.le_of_ble_eq_true rfl), (Nat.le_of_ble_eq_true rfl)⟩ hP hS (rfl : kM 0 = 6) (by decide) rfl rfl rfl (Nat.le_of_ble_eq_true rfl) dX6_item_100 (fun H locs hP hS => ?_)
            exact m_rv hx hb hr hlk hP hS (Option.some.inj h) dX6_item_103
        refine lv_if_ne (tgt := 77) hx hb dX6_item_70 (by decide) (fun (c_17 : ¬ (lg_cmp q_3 658670745) = 0) => ?_) (fun (c_17 : (lg_cmp q_3 658670745) = 0) => ?_)
        · rw [if_neg c_17] at h
          refine lv_iconst (v := 0) hx hb dX6_item_77 (by decide) ?_
          exact J_16 0 _ _ _ h hP hS (lv_sub hl [2] rfl)
        · rw [if_pos c_17] at h
          refine lv_iconst (v := 1) hx hb dX6_item_73 (by decide) ?_
          refine lv_goto (tgt := 78) hx hb dX6_item_74 (by decide) ?_
          exact J_16 1 _ _ _ h hP hS (lv_sub hl [2] rfl)
      · rw [if_pos c_7] at h
        refine lv_aload_n hx hb dX6_item_52 rfl (lv_at hl 2 rfl) ?_
        refine lv_iconst (v := 4) hx hb dX6_item_53 (by decide) ?_
        refine lv_bipush (v := 8) hx hb dX6_item_54 (by decide) ?_
        refine lv_bipush (v := 99) hx hb dX6_item_56 (by decide) ?_
        obtain ⟨q_18, hq_19, h⟩ := bd_s h
        refine m_cVv (As := [.int 4, .int 8, .int 99]) (rest := []) (o := 0) (ci := 6) C0 hb hml hl.1 wm_X6_305 md_X6_rowItem (k_X6_rowItem l G a σ hj 4 8 99 q_18 hq_19) rfl rfl ⟨(Nat.le_of_ble_eq_true rfl), (Nat.le_of_ble_eq_true rfl)⟩ hP hS (rfl : kM 0 = 6) (by decide) rfl rfl rfl (Nat.le_of_ble_eq_true rfl) dX6_item_58 (fun H locs hP hS => ?_)
        refine lv_goto (tgt := 103) hx hb dX6_item_61 (by decide) ?_
        exact m_rv hx hb hr hlk hP hS (Option.some.inj h) dX6_item_103
    · rw [if_pos c_6] at h
      refine lv_aload_n hx hb dX6_item_30 rfl (lv_at hl 2 rfl) ?_
      refine lv_bipush (v := 12) hx hb dX6_item_31 (by decide) ?_
      refine lv_bipush (v := 12) hx hb dX6_item_33 (by decide) ?_
      refine lv_sipush (v := 9999) hx hb dX6_item_35 (by decide) ?_
      obtain ⟨q_20, hq_21, h⟩ := bd_s h
      refine m_cVv (As := [.int 12, .int 12, .int 9999]) (rest := []) (o := 0) (ci := 6) C0 hb hml hl.1 wm_X6_305 md_X6_rowItem (k_X6_rowItem l G a σ hj 12 12 9999 q_20 hq_21) rfl rfl ⟨(Nat.le_of_ble_eq_true rfl), (Nat.le_of_ble_eq_true rfl)⟩ hP hS (rfl : kM 0 = 6) (by decide) rfl rfl rfl (Nat.le_of_ble_eq_true rfl) dX6_item_38 (fun H locs hP hS => ?_)
      refine lv_goto (tgt := 103) hx hb dX6_item_41 (by decide) ?_
      exact m_rv hx hb hr hlk hP hS (Option.some.inj h) dX6_item_103
  · rw [if_neg c_5] at h
    refine lv_aload_n hx hb dX6_item_14 rfl (lv_at hl 2 rfl) ?_
    refine lv_iload_n hx hb dX6_item_15 rfl (lv_at hl 1 rfl) ?_
    obtain ⟨q_22, hq_23, h⟩ := bd_s h
    refine m_cVv (As := [.int q_1]) (rest := []) (o := 0) (ci := 6) C0 hb hml hl.1 wm_X6_300 md_X6_watcherItem (k_X6_watcherItem l G a σ hj q_1 q_22 hq_23) rfl rfl ⟨(Nat.le_of_ble_eq_true rfl), (Nat.le_of_ble_eq_true rfl)⟩ hP hS (rfl : kM 0 = 6) (by decide) rfl rfl rfl (Nat.le_of_ble_eq_true rfl) dX6_item_16 (fun H locs hP hS => ?_)
    refine lv_goto (tgt := 103) hx hb dX6_item_19 (by decide) ?_
    exact m_rv hx hb hr hlk hP hS (Option.some.inj h) dX6_item_103
def f_X6_putsBack_B2  (rec2 : Int32 → Mem → Option (Mem)) (x1_1 : Int32) (σ_2 : Mem) : Option (Mem) := (if 74 ≤ x1_1 then some σ_2 else (chk x1_1 74 (chk x1_1 74 (rec2 (x1_1 + 1) (mst σ_2 1 x1_1.toNatClampNeg (σ_2 3 x1_1.toNatClampNeg))))))
def f_X6_putsBack (σ : Mem) : Option (Mem) := (it2 f_X6_putsBack_B2 FU 0 σ)
set_option maxHeartbeats 4000000 in
set_option maxRecDepth 100000 in
theorem k_X6_putsBack (l : Launch) (G : GG) (a : Nat → Nat) (σ : Mem) (hj : INJ nM a)  (q : Mem) (h : f_X6_putsBack σ = some q) : Met l yX6_putsBack (Cond.code yX6_putsBack cX6_putsBack 2 none :: TB) ({ frames := 0, cells := 0, slots := 0, locals := 0 } : Room) (PA G kM nM a σ [.ref (a 0)]) (QV G kM nM a q) 0 0 (AW nM a) := by
  refine M_ofW (by decide) hj kM_lt (Nat.le_of_ble_eq_true rfl) (fun p e s m below meth c ls C0 hb hml hr hlk hP hS hl => ?_)
  have C0 : CT p s _ m RX6 G kM nM a := C0
  have hx := C0.1
  have hts := C0.2.1
  have hown := C0.2.2.1
  have hl : lv_has ls 2 [(0, .ref (a 0))] := hl
  unfold f_X6_putsBack at h
  refine lv_iconst (v := 0) hx hb dX6_putsBack_0 (by decide) ?_
  refine lv_istore_n (lv' := [(1, .int 0), (0, .ref (a 0))]) hx hb dX6_putsBack_1 rfl hl (by decide) rfl (fun ls hl => ?_)
  have L_6 : ∀ (fu2 : Nat) (x1_1 : Int32) (σ_2 : Mem) (H : Heap) (locs : List Loc) (ls : Array Slot), it2 f_X6_putsBack_B2 fu2 x1_1 σ_2 = some q → HP G kM nM a σ_2 H → va_S (AW nM a) s.heap H locs → lv_has ls 2 [(1, .int x1_1), (0, .ref (a 0))] → W p l e ({ frames := 0, cells := 0, slots := 0, locals := 0 } : Room) s m ([.ref (a 0)] : List Value).toArray below meth c H locs 0 0 (MQ below (QV G kM nM a q) ([.ref (a 0)] : List Value).toArray s 0 0 (AW nM a)) (F0 m 2 ls []) := by
    intro fu2
    induction fu2 with
    | zero =>
      intro x1_1 σ_2 H locs ls h
      cases h
    | succ fu2 ih2 =>
      intro x1_1 σ_2 H locs ls h hP hS hl
      replace h : f_X6_putsBack_B2 (it2 f_X6_putsBack_B2 fu2) x1_1 σ_2 = some q := h
      generalize it2 f_X6_putsBack_B2 fu2 = rec2 at h ih2
      unfold f_X6_putsBack_B2 at h
      refine lv_iload_n hx hb dX6_putsBack_2 rfl (lv_at hl 0 rfl) ?_
      refine lv_bipush (v := 74) hx hb dX6_putsBack_3 (by decide) ?_
      refine lv_icmp_ge (tgt := 26) hx hb dX6_putsBack_5 (by decide) (fun (c_3 : 74 ≤ x1_1) => ?_) (fun (c_3 : ¬ 74 ≤ x1_1) => ?_)
      · rw [if_pos c_3] at h
        exact m_rv hx hb hr hlk hP hS (Option.some.inj h) dX6_putsBack_26
      · rw [if_neg c_3] at h
        refine lv_aload_n hx hb dX6_putsBack_8 rfl (lv_at hl 1 rfl) ?_
        refine gf_X6_7 (o := 0) (o2 := 1) C0 hb hP (rfl : kM 0 = 6) rfl dX6_putsBack_9 ?_
        refine lv_iload_n hx hb dX6_putsBack_12 rfl (lv_at hl 0 rfl) ?_
        refine lv_aload_n hx hb dX6_putsBack_13 rfl (lv_at hl 1 rfl) ?_
        refine gf_X6_16 (o := 0) (o2 := 3) C0 hb hP (rfl : kM 0 = 6) rfl dX6_putsBack_14 ?_
        refine lv_iload_n hx hb dX6_putsBack_17 rfl (lv_at hl 0 rfl) ?_
        obtain ⟨hi_4, h⟩ := chk_s h
        refine m_iald (o := 3) (N := 74) (i := x1_1) (j := x1_1.toNatClampNeg) C0 hb hP (rfl : kM 3 = 100 + 74) (by decide) hi_4 rfl dX6_putsBack_18 ?_
        obtain ⟨hi_5, h⟩ := chk_s h
        refine m_iast (o := 1) (N := 74) (i := x1_1) (j := x1_1.toNatClampNeg) C0 hb hP hS (rfl : kM 1 = 100 + 74) (by decide) hi_5 rfl dX6_putsBack_19 (fun H locs hP hS => ?_)
        refine lv_iinc (v := x1_1 + 1) (lv' := [(1, .int (x1_1 + 1)), (0, .ref (a 0))]) hx hb dX6_putsBack_20 hl (k := 0) rfl rfl (by decide) rfl (fun ls hl => ?_)
        refine lv_goto (tgt := 2) hx hb dX6_putsBack_23 (by decide) ?_
        exact ih2 (x1_1 + 1) (mst σ_2 1 x1_1.toNatClampNeg (σ_2 3 x1_1.toNatClampNeg)) _ _ _ h hP hS (lv_sub hl [0, 1] rfl)
  exact L_6 FU 0 σ _ _ _ h hP hS (lv_sub hl [0, 1] rfl)
def f_X6_saves_B2  (rec2 : Int32 → Mem → Option (Mem)) (x1_1 : Int32) (σ_2 : Mem) : Option (Mem) := (if 74 ≤ x1_1 then some σ_2 else (chk x1_1 74 (chk x1_1 74 (rec2 (x1_1 + 1) (mst σ_2 3 x1_1.toNatClampNeg (σ_2 1 x1_1.toNatClampNeg))))))
def f_X6_saves (σ : Mem) : Option (Mem) := (it2 f_X6_saves_B2 FU 0 σ)
set_option maxHeartbeats 4000000 in
set_option maxRecDepth 100000 in
theorem k_X6_saves (l : Launch) (G : GG) (a : Nat → Nat) (σ : Mem) (hj : INJ nM a)  (q : Mem) (h : f_X6_saves σ = some q) : Met l yX6_saves (Cond.code yX6_saves cX6_saves 2 none :: TB) ({ frames := 0, cells := 0, slots := 0, locals := 0 } : Room) (PA G kM nM a σ [.ref (a 0)]) (QV G kM nM a q) 0 0 (AW nM a) := by
  refine M_ofW (by decide) hj kM_lt (Nat.le_of_ble_eq_true rfl) (fun p e s m below meth c ls C0 hb hml hr hlk hP hS hl => ?_)
  have C0 : CT p s _ m RX6 G kM nM a := C0
  have hx := C0.1
  have hts := C0.2.1
  have hown := C0.2.2.1
  have hl : lv_has ls 2 [(0, .ref (a 0))] := hl
  unfold f_X6_saves at h
  refine lv_iconst (v := 0) hx hb dX6_saves_0 (by decide) ?_
  refine lv_istore_n (lv' := [(1, .int 0), (0, .ref (a 0))]) hx hb dX6_saves_1 rfl hl (by decide) rfl (fun ls hl => ?_)
  have L_6 : ∀ (fu2 : Nat) (x1_1 : Int32) (σ_2 : Mem) (H : Heap) (locs : List Loc) (ls : Array Slot), it2 f_X6_saves_B2 fu2 x1_1 σ_2 = some q → HP G kM nM a σ_2 H → va_S (AW nM a) s.heap H locs → lv_has ls 2 [(1, .int x1_1), (0, .ref (a 0))] → W p l e ({ frames := 0, cells := 0, slots := 0, locals := 0 } : Room) s m ([.ref (a 0)] : List Value).toArray below meth c H locs 0 0 (MQ below (QV G kM nM a q) ([.ref (a 0)] : List Value).toArray s 0 0 (AW nM a)) (F0 m 2 ls []) := by
    intro fu2
    induction fu2 with
    | zero =>
      intro x1_1 σ_2 H locs ls h
      cases h
    | succ fu2 ih2 =>
      intro x1_1 σ_2 H locs ls h hP hS hl
      replace h : f_X6_saves_B2 (it2 f_X6_saves_B2 fu2) x1_1 σ_2 = some q := h
      generalize it2 f_X6_saves_B2 fu2 = rec2 at h ih2
      unfold f_X6_saves_B2 at h
      refine lv_iload_n hx hb dX6_saves_2 rfl (lv_at hl 0 rfl) ?_
      refine lv_bipush (v := 74) hx hb dX6_saves_3 (by decide) ?_
      refine lv_icmp_ge (tgt := 26) hx hb dX6_saves_5 (by decide) (fun (c_3 : 74 ≤ x1_1) => ?_) (fun (c_3 : ¬ 74 ≤ x1_1) => ?_)
      · rw [if_pos c_3] at h
        exact m_rv hx hb hr hlk hP hS (Option.some.inj h) dX6_saves_26
      · rw [if_neg c_3] at h
        refine lv_aload_n hx hb dX6_saves_8 rfl (lv_at hl 1 rfl) ?_
        refine gf_X6_16 (o := 0) (o2 := 3) C0 hb hP (rfl : kM 0 = 6) rfl dX6_saves_9 ?_
        refine lv_iload_n hx hb dX6_saves_12 rfl (lv_at hl 0 rfl) ?_
        refine lv_aload_n hx hb dX6_saves_13 rfl (lv_at hl 1 rfl) ?_
        refine gf_X6_7 (o := 0) (o2 := 1) C0 hb hP (rfl : kM 0 = 6) rfl dX6_saves_14 ?_
        refine lv_iload_n hx hb dX6_saves_17 rfl (lv_at hl 0 rfl) ?_
        obtain ⟨hi_4, h⟩ := chk_s h
        refine m_iald (o := 1) (N := 74) (i := x1_1) (j := x1_1.toNatClampNeg) C0 hb hP (rfl : kM 1 = 100 + 74) (by decide) hi_4 rfl dX6_saves_18 ?_
        obtain ⟨hi_5, h⟩ := chk_s h
        refine m_iast (o := 3) (N := 74) (i := x1_1) (j := x1_1.toNatClampNeg) C0 hb hP hS (rfl : kM 3 = 100 + 74) (by decide) hi_5 rfl dX6_saves_19 (fun H locs hP hS => ?_)
        refine lv_iinc (v := x1_1 + 1) (lv' := [(1, .int (x1_1 + 1)), (0, .ref (a 0))]) hx hb dX6_saves_20 hl (k := 0) rfl rfl (by decide) rfl (fun ls hl => ?_)
        refine lv_goto (tgt := 2) hx hb dX6_saves_23 (by decide) ?_
        exact ih2 (x1_1 + 1) (mst σ_2 3 x1_1.toNatClampNeg (σ_2 1 x1_1.toNatClampNeg)) _ _ _ h hP hS (lv_sub hl [0, 1] rfl)
  exact L_6 FU 0 σ _ _ _ h hP hS (lv_sub hl [0, 1] rfl)
def f_X6_text_J97 (x1_7 : Int32) (σ_11 : Mem) : Option (Int32 × Mem) := (if ((mst σ_11 0 13 0) 0 17) = 0 then some (x1_7, mst σ_11 0 13 0) else some ((-1) - ((mst σ_11 0 13 0) 0 14), mst σ_11 0 13 0))
def f_X6_text_J83 (x1_7 : Int32) (σ_8 : Mem) (t_9 : Int32) : Option (Int32 × Mem) := (cbz t_9 (if ((mst σ_8 0 17 t_9) 0 17) = 0 then (f_X6_text_J97 x1_7 (mst σ_8 0 17 t_9)) else ((f_X6_putsBack (mst σ_8 0 17 t_9)).bind fun q_15 => (f_X6_text_J97 x1_7 q_15))))
def f_X6_text_J78 (x1_7 : Int32) (σ_8 : Mem) : Option (Int32 × Mem) := (f_X6_text_J83 x1_7 σ_8 1)
def f_X6_text_J59 (x1_7 : Int32) (σ_8 : Mem) : Option (Int32 × Mem) := (if (σ_8 0 17) = 0 then (if (σ_8 0 13) ≤ (σ_8 0 14) then (f_X6_text_J83 x1_7 σ_8 0) else (f_X6_text_J78 x1_7 σ_8)) else (f_X6_text_J78 x1_7 σ_8))
def f_X6_text_B24  (rec24 : Int32 → Mem → Option (Int32 × Mem)) (x1_7 : Int32) (σ_8 : Mem) : Option (Int32 × Mem) := (if (σ_8 0 17) = 0 then ((f_X6_byteAt (σ_8 0 14) σ_8).bind fun q_23 => (if q_23 = 59 then ((f_X6_must 1 σ_8).bind fun q_26 => ((f_X6_item q_26).bind fun q_28 => (rec24 (x1_7 + 1) q_28))) else (f_X6_text_J59 x1_7 σ_8))) else (f_X6_text_J59 x1_7 σ_8))
def f_X6_text (σ : Mem) : Option (Int32 × Mem) := ((f_X6_saves σ).bind fun q_1 => ((f_X6_token (mst (mst q_1 0 17 0) 0 15 0)).bind fun q_3 => ((f_X6_item q_3).bind fun q_5 => (it2 f_X6_text_B24 FU 1 q_5))))
set_option maxHeartbeats 4000000 in
set_option maxRecDepth 100000 in
theorem k_X6_text (l : Launch) (G : GG) (a : Nat → Nat) (σ : Mem) (hj : INJ nM a)  (q : Int32 × Mem) (h : f_X6_text σ = some q) : Met l yX6_text (Cond.code yX6_text cX6_text 2 (some .int) :: TB) ({ frames := 8, cells := 0, slots := 0, locals := 182 } : Room) (PA G kM nM a σ [.ref (a 0)]) (QI G kM nM a q) 0 0 (AW nM a) := by
  refine M_ofW (by decide) hj kM_lt (Nat.le_of_ble_eq_true rfl) (fun p e s m below meth c ls C0 hb hml hr hlk hP hS hl => ?_)
  have C0 : CT p s _ m RX6 G kM nM a := C0
  have hx := C0.1
  have hts := C0.2.1
  have hown := C0.2.2.1
  have hl : lv_has ls 2 [(0, .ref (a 0))] := hl
  unfold f_X6_text at h
  refine lv_aload_n hx hb dX6_text_0 rfl (lv_at hl 0 rfl) ?_
  obtain ⟨q_1, hq_2, h⟩ := bd_s h
  refine m_cVv (As := []) (rest := []) (o := 0) (ci := 6) C0 hb hml hl.1 wm_X6_312 md_X6_saves (k_X6_saves l G a σ hj q_1 hq_2) rfl rfl ⟨(Nat.le_of_ble_eq_true rfl), (Nat.le_of_ble_eq_true rfl)⟩ hP hS (rfl : kM 0 = 6) (by decide) rfl rfl rfl (Nat.le_of_ble_eq_true rfl) dX6_text_1 (fun H locs hP hS => ?_)
  refine lv_aload_n hx hb dX6_text_4 rfl (lv_at hl 0 rfl) ?_
  refine lv_iconst (v := 0) hx hb dX6_text_5 (by decide) ?_
  refine pf_X6_248 (o := 0) C0 hb hP hS (rfl : kM 0 = 6) (Or.inl rfl) dX6_text_6 (fun H locs hP hS => ?_)
  refine lv_aload_n hx hb dX6_text_9 rfl (lv_at hl 0 rfl) ?_
  refine lv_iconst (v := 0) hx hb dX6_text_10 (by decide) ?_
  refine pf_X6_233 (o := 0) C0 hb hP hS (rfl : kM 0 = 6) dX6_text_11 (fun H locs hP hS => ?_)
  refine lv_aload_n hx hb dX6_text_14 rfl (lv_at hl 0 rfl) ?_
  obtain ⟨q_3, hq_4, h⟩ := bd_s h
  refine m_cVv (As := []) (rest := []) (o := 0) (ci := 6) C0 hb hml hl.1 wm_X6_251 md_X6_token (k_X6_token l G a (mst (mst q_1 0 17 0) 0 15 0) hj q_3 hq_4) rfl rfl ⟨(Nat.le_of_ble_eq_true rfl), (Nat.le_of_ble_eq_true rfl)⟩ hP hS (rfl : kM 0 = 6) (by decide) rfl rfl rfl (Nat.le_of_ble_eq_true rfl) dX6_text_15 (fun H locs hP hS => ?_)
  refine lv_iconst (v := 1) hx hb dX6_text_18 (by decide) ?_
  refine lv_istore_n (lv' := [(1, .int 1), (0, .ref (a 0))]) hx hb dX6_text_19 rfl hl (by decide) rfl (fun ls hl => ?_)
  refine lv_aload_n hx hb dX6_text_20 rfl (lv_at hl 1 rfl) ?_
  obtain ⟨q_5, hq_6, h⟩ := bd_s h
  refine m_cVv (As := []) (rest := []) (o := 0) (ci := 6) C0 hb hml hl.1 wm_X6_315 md_X6_item (k_X6_item l G a q_3 hj q_5 hq_6) rfl rfl ⟨(Nat.le_of_ble_eq_true rfl), (Nat.le_of_ble_eq_true rfl)⟩ hP hS (rfl : kM 0 = 6) (by decide) rfl rfl rfl (Nat.le_of_ble_eq_true rfl) dX6_text_21 (fun H locs hP hS => ?_)
  have L_30 : ∀ (fu24 : Nat) (x1_7 : Int32) (σ_8 : Mem) (H : Heap) (locs : List Loc) (ls : Array Slot), it2 f_X6_text_B24 fu24 x1_7 σ_8 = some q → HP G kM nM a σ_8 H → va_S (AW nM a) s.heap H locs → lv_has ls 2 [(1, .int x1_7), (0, .ref (a 0))] → W p l e ({ frames := 8, cells := 0, slots := 0, locals := 182 } : Room) s m ([.ref (a 0)] : List Value).toArray below meth c H locs 0 0 (MQ below (QI G kM nM a q) ([.ref (a 0)] : List Value).toArray s 0 0 (AW nM a)) (F0 m 24 ls []) := by
    intro fu24
    induction fu24 with
    | zero =>
      intro x1_7 σ_8 H locs ls h
      cases h
    | succ fu24 ih24 =>
      intro x1_7 σ_8 H locs ls h hP hS hl
      replace h : f_X6_text_B24 (it2 f_X6_text_B24 fu24) x1_7 σ_8 = some q := h
      generalize it2 f_X6_text_B24 fu24 = rec24 at h ih24
      unfold f_X6_text_B24 at h
      refine lv_aload_n hx hb dX6_text_24 rfl (lv_at hl 1 rfl) ?_
      refine gf_X6_248 (o := 0) C0 hb hP (rfl : kM 0 = 6) dX6_text_25 ?_
      have J_21 : ∀  (H : Heap) (locs : List Loc) (ls : Array Slot), f_X6_text_J59 x1_7 σ_8 = some q → HP G kM nM a σ_8 H → va_S (AW nM a) s.heap H locs → lv_has ls 2 [(1, .int x1_7), (0, .ref (a 0))] → W p l e ({ frames := 8, cells := 0, slots := 0, locals := 182 } : Room) s m ([.ref (a 0)] : List Value).toArray below meth c H locs 0 0 (MQ below (QI G kM nM a q) ([.ref (a 0)] : List Value).toArray s 0 0 (AW nM a)) (F0 m 59 ls []) := by
        intro  H locs ls h hP hS hl
        unfold f_X6_text_J59 at h
        refine lv_aload_n hx hb dX6_text_59 rfl (lv_at hl 1 rfl) ?_
        refine lv_aload_n hx hb dX6_text_60 rfl (lv_at hl 1 rfl) ?_
        refine gf_X6_248 (o := 0) C0 hb hP (rfl : kM 0 = 6) dX6_text_61 ?_
        have J_17 : ∀ (t_9 : Int32) (H : Heap) (locs : List Loc) (ls : Array Slot), f_X6_text_J83 x1_7 σ_8 t_9 = some q → HP G kM nM a σ_8 H → va_S (AW nM a) s.heap H locs → lv_has ls 2 [(1, .int x1_7), (0, .ref (a 0))] → W p l e ({ frames := 8, cells := 0, slots := 0, locals := 182 } : Room) s m ([.ref (a 0)] : List Value).toArray below meth c H locs 0 0 (MQ below (QI G kM nM a q) ([.ref (a 0)] : List Value).toArray s 0 0 (AW nM a)) (F0 m 83 ls [.int t_9, .ref (a 0)]) := by
          intro t_9 H locs ls h hP hS hl
          unfold f_X6_text_J83 at h
          obtain ⟨hz_10, h⟩ := cbz_s h
          refine pf_X6_248 (o := 0) C0 hb hP hS (rfl : kM 0 = 6) hz_10 dX6_text_83 (fun H locs hP hS => ?_)
          refine lv_aload_n hx hb dX6_text_86 rfl (lv_at hl 1 rfl) ?_
          refine gf_X6_248 (o := 0) C0 hb hP (rfl : kM 0 = 6) dX6_text_87 ?_
          have J_13 : ∀ (σ_11 : Mem) (H : Heap) (locs : List Loc) (ls : Array Slot), f_X6_text_J97 x1_7 σ_11 = some q → HP G kM nM a σ_11 H → va_S (AW nM a) s.heap H locs → lv_has ls 2 [(1, .int x1_7), (0, .ref (a 0))] → W p l e ({ frames := 8, cells := 0, slots := 0, locals := 182 } : Room) s m ([.ref (a 0)] : List Value).toArray below meth c H locs 0 0 (MQ below (QI G kM nM a q) ([.ref (a 0)] : List Value).toArray s 0 0 (AW nM a)) (F0 m 97 ls []) := by
            intro σ_11 H locs ls h hP hS hl
            unfold f_X6_text_J97 at h
            refine lv_aload_n hx hb dX6_text_97 rfl (lv_at hl 1 rfl) ?_
            refine lv_iconst (v := 0) hx hb dX6_text_98 (by decide) ?_
            refine pf_X6_222 (o := 0) C0 hb hP hS (rfl : kM 0 = 6) dX6_text_99 (fun H locs hP hS => ?_)
            refine lv_aload_n hx hb dX6_text_102 rfl (lv_at hl 1 rfl) ?_
            refine gf_X6_248 (o := 0) C0 hb hP (rfl : kM 0 = 6) dX6_text_103 ?_
            refine lv_if_eq (tgt := 118) hx hb dX6_text_106 (by decide) (fun (c_12 : ((mst σ_11 0 13 0) 0 17) = 0) => ?_) (fun (c_12 : ¬ ((mst σ_11 0 13 0) 0 17) = 0) => ?_)
            · rw [if_pos c_12] at h
              refine lv_iload_n hx hb dX6_text_118 rfl (lv_at hl 0 rfl) ?_
              exact m_ri hx hb hr hlk hP hS (Option.some.inj h) dX6_text_119
            · rw [if_neg c_12] at h
              refine lv_iconst (v := (-1)) hx hb dX6_text_109 (by decide) ?_
              refine lv_aload_n hx hb dX6_text_110 rfl (lv_at hl 1 rfl) ?_
              refine gf_X6_236 (o := 0) C0 hb hP (rfl : kM 0 = 6) dX6_text_111 ?_
              refine lv_isub hx hb dX6_text_114 ?_
              refine lv_goto (tgt := 119) hx hb dX6_text_115 (by decide) ?_
              exact m_ri hx hb hr hlk hP hS (Option.some.inj h) dX6_text_119
          refine lv_if_eq (tgt := 97) hx hb dX6_text_90 (by decide) (fun (c_14 : ((mst σ_8 0 17 t_9) 0 17) = 0) => ?_) (fun (c_14 : ¬ ((mst σ_8 0 17 t_9) 0 17) = 0) => ?_)
          · rw [if_pos c_14] at h
            exact J_13 (mst σ_8 0 17 t_9) _ _ _ h hP hS (lv_sub hl [0, 1] rfl)
          · rw [if_neg c_14] at h
            refine lv_aload_n hx hb dX6_text_93 rfl (lv_at hl 1 rfl) ?_
            obtain ⟨q_15, hq_16, h⟩ := bd_s h
            refine m_cVv (As := []) (rest := []) (o := 0) (ci := 6) C0 hb hml hl.1 wm_X6_318 md_X6_putsBack (k_X6_putsBack l G a (mst σ_8 0 17 t_9) hj q_15 hq_16) rfl rfl ⟨(Nat.le_of_ble_eq_true rfl), (Nat.le_of_ble_eq_true rfl)⟩ hP hS (rfl : kM 0 = 6) (by decide) rfl rfl rfl (Nat.le_of_ble_eq_true rfl) dX6_text_94 (fun H locs hP hS => ?_)
            exact J_13 q_15 _ _ _ h hP hS (lv_sub hl [0, 1] rfl)
        have J_18 : ∀  (H : Heap) (locs : List Loc) (ls : Array Slot), f_X6_text_J78 x1_7 σ_8 = some q → HP G kM nM a σ_8 H → va_S (AW nM a) s.heap H locs → lv_has ls 2 [(1, .int x1_7), (0, .ref (a 0))] → W p l e ({ frames := 8, cells := 0, slots := 0, locals := 182 } : Room) s m ([.ref (a 0)] : List Value).toArray below meth c H locs 0 0 (MQ below (QI G kM nM a q) ([.ref (a 0)] : List Value).toArray s 0 0 (AW nM a)) (F0 m 78 ls [.ref (a 0)]) := by
          intro  H locs ls h hP hS hl
          unfold f_X6_text_J78 at h
          refine lv_iconst (v := 1) hx hb dX6_text_78 (by decide) ?_
          refine lv_goto (tgt := 83) hx hb dX6_text_79 (by decide) ?_
          exact J_17 1 _ _ _ h hP hS (lv_sub hl [0, 1] rfl)
        refine lv_if_ne (tgt := 78) hx hb dX6_text_64 (by decide) (fun (c_19 : ¬ (σ_8 0 17) = 0) => ?_) (fun (c_19 : (σ_8 0 17) = 0) => ?_)
        · rw [if_neg c_19] at h
          exact J_18  _ _ _ h hP hS (lv_sub hl [0, 1] rfl)
        · rw [if_pos c_19] at h
          refine lv_aload_n hx hb dX6_text_67 rfl (lv_at hl 1 rfl) ?_
          refine gf_X6_236 (o := 0) C0 hb hP (rfl : kM 0 = 6) dX6_text_68 ?_
          refine lv_aload_n hx hb dX6_text_71 rfl (lv_at hl 1 rfl) ?_
          refine gf_X6_222 (o := 0) C0 hb hP (rfl : kM 0 = 6) dX6_text_72 ?_
          refine lv_icmp_ge (tgt := 82) hx hb dX6_text_75 (by decide) (fun (c_20 : (σ_8 0 13) ≤ (σ_8 0 14)) => ?_) (fun (c_20 : ¬ (σ_8 0 13) ≤ (σ_8 0 14)) => ?_)
          · rw [if_pos c_20] at h
            refine lv_iconst (v := 0) hx hb dX6_text_82 (by decide) ?_
            exact J_17 0 _ _ _ h hP hS (lv_sub hl [0, 1] rfl)
          · rw [if_neg c_20] at h
            exact J_18  _ _ _ h hP hS (lv_sub hl [0, 1] rfl)
      refine lv_if_ne (tgt := 59) hx hb dX6_text_28 (by decide) (fun (c_22 : ¬ (σ_8 0 17) = 0) => ?_) (fun (c_22 : (σ_8 0 17) = 0) => ?_)
      · rw [if_neg c_22] at h
        exact J_21  _ _ _ h hP hS (lv_sub hl [0, 1] rfl)
      · rw [if_pos c_22] at h
        refine lv_aload_n hx hb dX6_text_31 rfl (lv_at hl 1 rfl) ?_
        refine lv_aload_n hx hb dX6_text_32 rfl (lv_at hl 1 rfl) ?_
        refine gf_X6_236 (o := 0) C0 hb hP (rfl : kM 0 = 6) dX6_text_33 ?_
        obtain ⟨q_23, hq_24, h⟩ := bd_s h
        refine m_rVi (As := [.int (σ_8 0 14)]) (rest := []) (o := 0) (ci := 6) C0 hb hml hl.1 wm_X6_239 md_X6_byteAt (k_X6_byteAt l G a σ_8 hj (σ_8 0 14) q_23 hq_24) rfl rfl ⟨(Nat.le_of_ble_eq_true rfl), (Nat.le_of_ble_eq_true rfl)⟩ hP hS (rfl : kM 0 = 6) (by decide) rfl rfl rfl (Nat.le_of_ble_eq_true rfl) dX6_text_36 ?_
        refine lv_bipush (v := 59) hx hb dX6_text_39 (by decide) ?_
        refine lv_icmp_ne (tgt := 59) hx hb dX6_text_41 (by decide) (fun (c_25 : ¬ q_23 = 59) => ?_) (fun (c_25 : q_23 = 59) => ?_)
        · rw [if_neg c_25] at h
          exact J_21  _ _ _ h hP hS (lv_sub hl [0, 1] rfl)
        · rw [if_pos c_25] at h
          refine lv_aload_n hx hb dX6_text_44 rfl (lv_at hl 1 rfl) ?_
          refine lv_iconst (v := 1) hx hb dX6_text_45 (by decide) ?_
          obtain ⟨q_26, hq_27, h⟩ := bd_s h
          refine m_cVv (As := [.int 1]) (rest := []) (o := 0) (ci := 6) C0 hb hml hl.1 wm_X6_261 md_X6_must (k_X6_must l G a σ_8 hj 1 q_26 hq_27) rfl rfl ⟨(Nat.le_of_ble_eq_true rfl), (Nat.le_of_ble_eq_true rfl)⟩ hP hS (rfl : kM 0 = 6) (by decide) rfl rfl rfl (Nat.le_of_ble_eq_true rfl) dX6_text_46 (fun H locs hP hS => ?_)
          refine lv_aload_n hx hb dX6_text_49 rfl (lv_at hl 1 rfl) ?_
          obtain ⟨q_28, hq_29, h⟩ := bd_s h
          refine m_cVv (As := []) (rest := []) (o := 0) (ci := 6) C0 hb hml hl.1 wm_X6_315 md_X6_item (k_X6_item l G a q_26 hj q_28 hq_29) rfl rfl ⟨(Nat.le_of_ble_eq_true rfl), (Nat.le_of_ble_eq_true rfl)⟩ hP hS (rfl : kM 0 = 6) (by decide) rfl rfl rfl (Nat.le_of_ble_eq_true rfl) dX6_text_50 (fun H locs hP hS => ?_)
          refine lv_iinc (v := x1_7 + 1) (lv' := [(1, .int (x1_7 + 1)), (0, .ref (a 0))]) hx hb dX6_text_53 hl (k := 0) rfl rfl (by decide) rfl (fun ls hl => ?_)
          refine lv_goto (tgt := 24) hx hb dX6_text_56 (by decide) ?_
          exact ih24 (x1_7 + 1) q_28 _ _ _ h hP hS (lv_sub hl [0, 1] rfl)
  exact L_30 FU 1 q_5 _ _ _ h hP hS (lv_sub hl [0, 1] rfl)
def f_X6_hold_J27 (x1 : Int32) (x2 : Int32) (σ : Mem) : Option (Int32 × Mem) := (chk (64 + x1) 74 (some (1, mst σ 1 ((64 + x1).toNatClampNeg) x2)))
def f_X6_hold (x1 : Int32) (x2 : Int32) (σ : Mem) : Option (Int32 × Mem) := (if (f_X6_isSpot x1) = 0 then ((f_X6_finds (-1000001) σ).bind fun q_2 => some (q_2.1, q_2.2)) else (if x2 = (-1) then (f_X6_hold_J27 x1 x2 σ) else (if (f_X6_isWatcher x2 σ) = 0 then ((f_X6_finds (-1000001) σ).bind fun q_8 => some (q_8.1, q_8.2)) else (f_X6_hold_J27 x1 x2 σ))))
set_option maxHeartbeats 4000000 in
set_option maxRecDepth 100000 in
theorem k_X6_hold (l : Launch) (G : GG) (a : Nat → Nat) (σ : Mem) (hj : INJ nM a) (x1 : Int32) (x2 : Int32) (q : Int32 × Mem) (h : f_X6_hold x1 x2 σ = some q) : Met l yX6_hold (Cond.code yX6_hold cX6_hold 3 (some .int) :: TB) ({ frames := 2, cells := 0, slots := 0, locals := 46 } : Room) (PA G kM nM a σ [.ref (a 0), .int x1, .int x2]) (QI G kM nM a q) 0 0 (AW nM a) := by
  refine M_ofW (by decide) hj kM_lt (Nat.le_of_ble_eq_true rfl) (fun p e s m below meth c ls C0 hb hml hr hlk hP hS hl => ?_)
  have C0 : CT p s _ m RX6 G kM nM a := C0
  have hx := C0.1
  have hts := C0.2.1
  have hown := C0.2.2.1
  have hl : lv_has ls 3 [(0, .ref (a 0)), (1, .int x1), (2, .int x2)] := hl
  unfold f_X6_hold at h
  refine lv_iload_n hx hb dX6_hold_0 rfl (lv_at hl 1 rfl) ?_
  refine m_pSi (As := [.int x1]) (rest := []) C0.z hb hml hl.1 wm_X6_323 md_X6_isSpot (k_X6_isSpot l x1) rfl rfl ⟨(Nat.le_of_ble_eq_true rfl), (Nat.le_of_ble_eq_true rfl)⟩ rfl rfl (Nat.le_of_ble_eq_true rfl) dX6_hold_1 ?_
  refine lv_if_eq (tgt := 20) hx hb dX6_hold_4 (by decide) (fun (c_1 : (f_X6_isSpot x1) = 0) => ?_) (fun (c_1 : ¬ (f_X6_isSpot x1) = 0) => ?_)
  · rw [if_pos c_1] at h
    refine lv_aload_n hx hb dX6_hold_20 rfl (lv_at hl 0 rfl) ?_
    refine lv_ldc hx hb hown (hts _ wk_X6_46) dX6_hold_21 ?_
    obtain ⟨q_2, hq_3, h⟩ := bd_s h
    refine m_cVi (As := [.int (-1000001)]) (rest := []) (o := 0) (ci := 6) C0 hb hml hl.1 wm_X6_75 md_X6_finds (k_X6_finds l G a σ hj (-1000001) q_2 hq_3) rfl rfl ⟨(Nat.le_of_ble_eq_true rfl), (Nat.le_of_ble_eq_true rfl)⟩ hP hS (rfl : kM 0 = 6) (by decide) rfl rfl rfl (Nat.le_of_ble_eq_true rfl) dX6_hold_23 (fun H locs hP hS => ?_)
    exact m_ri hx hb hr hlk hP hS (Option.some.inj h) dX6_hold_26
  · rw [if_neg c_1] at h
    refine lv_iload_n hx hb dX6_hold_7 rfl (lv_at hl 2 rfl) ?_
    refine lv_iconst (v := (-1)) hx hb dX6_hold_8 (by decide) ?_
    have J_5 : ∀  (H : Heap) (locs : List Loc) (ls : Array Slot), f_X6_hold_J27 x1 x2 σ = some q → HP G kM nM a σ H → va_S (AW nM a) s.heap H locs → lv_has ls 3 [(0, .ref (a 0)), (1, .int x1), (2, .int x2)] → W p l e ({ frames := 2, cells := 0, slots := 0, locals := 46 } : Room) s m ([.ref (a 0), .int x1, .int x2] : List Value).toArray below meth c H locs 0 0 (MQ below (QI G kM nM a q) ([.ref (a 0), .int x1, .int x2] : List Value).toArray s 0 0 (AW nM a)) (F0 m 27 ls []) := by
      intro  H locs ls h hP hS hl
      unfold f_X6_hold_J27 at h
      refine lv_aload_n hx hb dX6_hold_27 rfl (lv_at hl 0 rfl) ?_
      refine gf_X6_7 (o := 0) (o2 := 1) C0 hb hP (rfl : kM 0 = 6) rfl dX6_hold_28 ?_
      refine lv_bipush (v := 64) hx hb dX6_hold_31 (by decide) ?_
      refine lv_iload_n hx hb dX6_hold_33 rfl (lv_at hl 1 rfl) ?_
      refine lv_iadd hx hb dX6_hold_34 ?_
      refine lv_iload_n hx hb dX6_hold_35 rfl (lv_at hl 2 rfl) ?_
      obtain ⟨hi_4, h⟩ := chk_s h
      refine m_iast (o := 1) (N := 74) (i := 64 + x1) (j := (64 + x1).toNatClampNeg) C0 hb hP hS (rfl : kM 1 = 100 + 74) (by decide) hi_4 rfl dX6_hold_36 (fun H locs hP hS => ?_)
      refine lv_iconst (v := 1) hx hb dX6_hold_37 (by decide) ?_
      exact m_ri hx hb hr hlk hP hS (Option.some.inj h) dX6_hold_38
    refine lv_icmp_eq (tgt := 27) hx hb dX6_hold_9 (by decide) (fun (c_6 : x2 = (-1)) => ?_) (fun (c_6 : ¬ x2 = (-1)) => ?_)
    · rw [if_pos c_6] at h
      exact J_5  _ _ _ h hP hS (lv_sub hl [0, 1, 2] rfl)
    · rw [if_neg c_6] at h
      refine lv_aload_n hx hb dX6_hold_12 rfl (lv_at hl 0 rfl) ?_
      refine lv_iload_n hx hb dX6_hold_13 rfl (lv_at hl 2 rfl) ?_
      refine m_rVi (As := [.int x2]) (rest := []) (o := 0) (ci := 6) C0 hb hml hl.1 wm_X6_100 md_X6_isWatcher (k_X6_isWatcher l G a σ hj x2) rfl rfl ⟨(Nat.le_of_ble_eq_true rfl), (Nat.le_of_ble_eq_true rfl)⟩ hP hS (rfl : kM 0 = 6) (by decide) rfl rfl rfl (Nat.le_of_ble_eq_true rfl) dX6_hold_14 ?_
      refine lv_if_ne (tgt := 27) hx hb dX6_hold_17 (by decide) (fun (c_7 : ¬ (f_X6_isWatcher x2 σ) = 0) => ?_) (fun (c_7 : (f_X6_isWatcher x2 σ) = 0) => ?_)
      · rw [if_neg c_7] at h
        exact J_5  _ _ _ h hP hS (lv_sub hl [0, 1, 2] rfl)
      · rw [if_pos c_7] at h
        refine lv_aload_n hx hb dX6_hold_20 rfl (lv_at hl 0 rfl) ?_
        refine lv_ldc hx hb hown (hts _ wk_X6_46) dX6_hold_21 ?_
        obtain ⟨q_8, hq_9, h⟩ := bd_s h
        refine m_cVi (As := [.int (-1000001)]) (rest := []) (o := 0) (ci := 6) C0 hb hml hl.1 wm_X6_75 md_X6_finds (k_X6_finds l G a σ hj (-1000001) q_8 hq_9) rfl rfl ⟨(Nat.le_of_ble_eq_true rfl), (Nat.le_of_ble_eq_true rfl)⟩ hP hS (rfl : kM 0 = 6) (by decide) rfl rfl rfl (Nat.le_of_ble_eq_true rfl) dX6_hold_23 (fun H locs hP hS => ?_)
        exact m_ri hx hb hr hlk hP hS (Option.some.inj h) dX6_hold_26
def f_X6_as_J72 (x1 : Int32) (x2 : Int32) (σ : Mem) (x4_9 : Int32) : Option (Int32 × Mem) := (if x4_9 = x2 then some (σ 1 ((64 + x1).toNatClampNeg), σ) else ((f_X6_finds (-1000003) σ).bind fun q_11 => some (q_11.1, q_11.2)))
def f_X6_as_B51 (x1 : Int32) (x2 : Int32) (σ : Mem) (rec51 : Int32 → Option (Int32 × Mem)) (x4_9 : Int32) : Option (Int32 × Mem) := (if x4_9 = x2 then (f_X6_as_J72 x1 x2 σ x4_9) else (if x4_9 = 0 then (f_X6_as_J72 x1 x2 σ x4_9) else (rec51 (f_X6_above x4_9))))
def f_X6_as (x1 : Int32) (x2 : Int32) (σ : Mem) : Option (Int32 × Mem) := (if (f_X6_isSpot x1) = 0 then ((f_X6_finds (-1000001) σ).bind fun q_2 => some (q_2.1, q_2.2)) else (if (f_X6_isKind x2) = 0 then ((f_X6_finds (-1000001) σ).bind fun q_19 => some (q_19.1, q_19.2)) else (chk (64 + x1) 74 (if 0 ≤ (σ 1 ((64 + x1).toNatClampNeg)) then ((f_X6_its (σ 1 ((64 + x1).toNatClampNeg)) 0 σ).bind fun q_7 => (it1 (f_X6_as_B51 x1 x2 σ) FU q_7)) else ((f_X6_finds (-1000006) σ).bind fun q_17 => some (q_17.1, q_17.2))))))
set_option maxHeartbeats 4000000 in
set_option maxRecDepth 100000 in
theorem k_X6_as (l : Launch) (G : GG) (a : Nat → Nat) (σ : Mem) (hj : INJ nM a) (x1 : Int32) (x2 : Int32) (q : Int32 × Mem) (h : f_X6_as x1 x2 σ = some q) : Met l yX6_as (Cond.code yX6_as cX6_as 5 (some .int) :: TB) ({ frames := 2, cells := 0, slots := 0, locals := 45 } : Room) (PA G kM nM a σ [.ref (a 0), .int x1, .int x2]) (QI G kM nM a q) 0 0 (AW nM a) := by
  refine M_ofW (by decide) hj kM_lt (Nat.le_of_ble_eq_true rfl) (fun p e s m below meth c ls C0 hb hml hr hlk hP hS hl => ?_)
  have C0 : CT p s _ m RX6 G kM nM a := C0
  have hx := C0.1
  have hts := C0.2.1
  have hown := C0.2.2.1
  have hl : lv_has ls 5 [(0, .ref (a 0)), (1, .int x1), (2, .int x2)] := hl
  unfold f_X6_as at h
  refine lv_iload_n hx hb dX6_as_0 rfl (lv_at hl 1 rfl) ?_
  refine m_pSi (As := [.int x1]) (rest := []) C0.z hb hml hl.1 wm_X6_323 md_X6_isSpot (k_X6_isSpot l x1) rfl rfl ⟨(Nat.le_of_ble_eq_true rfl), (Nat.le_of_ble_eq_true rfl)⟩ rfl rfl (Nat.le_of_ble_eq_true rfl) dX6_as_1 ?_
  refine lv_if_eq (tgt := 14) hx hb dX6_as_4 (by decide) (fun (c_1 : (f_X6_isSpot x1) = 0) => ?_) (fun (c_1 : ¬ (f_X6_isSpot x1) = 0) => ?_)
  · rw [if_pos c_1] at h
    refine lv_aload_n hx hb dX6_as_14 rfl (lv_at hl 0 rfl) ?_
    refine lv_ldc hx hb hown (hts _ wk_X6_46) dX6_as_15 ?_
    obtain ⟨q_2, hq_3, h⟩ := bd_s h
    refine m_cVi (As := [.int (-1000001)]) (rest := []) (o := 0) (ci := 6) C0 hb hml hl.1 wm_X6_75 md_X6_finds (k_X6_finds l G a σ hj (-1000001) q_2 hq_3) rfl rfl ⟨(Nat.le_of_ble_eq_true rfl), (Nat.le_of_ble_eq_true rfl)⟩ hP hS (rfl : kM 0 = 6) (by decide) rfl rfl rfl (Nat.le_of_ble_eq_true rfl) dX6_as_17 (fun H locs hP hS => ?_)
    exact m_ri hx hb hr hlk hP hS (Option.some.inj h) dX6_as_20
  · rw [if_neg c_1] at h
    refine lv_iload_n hx hb dX6_as_7 rfl (lv_at hl 2 rfl) ?_
    refine m_pSi (As := [.int x2]) (rest := []) C0.z hb hml hl.1 wm_X6_93 md_X6_isKind (k_X6_isKind l x2) rfl rfl ⟨(Nat.le_of_ble_eq_true rfl), (Nat.le_of_ble_eq_true rfl)⟩ rfl rfl (Nat.le_of_ble_eq_true rfl) dX6_as_8 ?_
    refine lv_if_ne (tgt := 21) hx hb dX6_as_11 (by decide) (fun (c_4 : ¬ (f_X6_isKind x2) = 0) => ?_) (fun (c_4 : (f_X6_isKind x2) = 0) => ?_)
    · rw [if_neg c_4] at h
      refine lv_aload_n hx hb dX6_as_21 rfl (lv_at hl 0 rfl) ?_
      refine gf_X6_7 (o := 0) (o2 := 1) C0 hb hP (rfl : kM 0 = 6) rfl dX6_as_22 ?_
      refine lv_bipush (v := 64) hx hb dX6_as_25 (by decide) ?_
      refine lv_iload_n hx hb dX6_as_27 rfl (lv_at hl 1 rfl) ?_
      refine lv_iadd hx hb dX6_as_28 ?_
      obtain ⟨hi_5, h⟩ := chk_s h
      refine m_iald (o := 1) (N := 74) (i := 64 + x1) (j := (64 + x1).toNatClampNeg) C0 hb hP (rfl : kM 1 = 100 + 74) (by decide) hi_5 rfl dX6_as_29 ?_
      refine lv_istore_n (lv' := [(3, .int (σ 1 ((64 + x1).toNatClampNeg))), (0, .ref (a 0)), (1, .int x1), (2, .int x2)]) hx hb dX6_as_30 rfl hl (by decide) rfl (fun ls hl => ?_)
      refine lv_iload_n hx hb dX6_as_31 rfl (lv_at hl 0 rfl) ?_
      refine lv_if_ge (tgt := 43) hx hb dX6_as_32 (by decide) (fun (c_6 : 0 ≤ (σ 1 ((64 + x1).toNatClampNeg))) => ?_) (fun (c_6 : ¬ 0 ≤ (σ 1 ((64 + x1).toNatClampNeg))) => ?_)
      · rw [if_pos c_6] at h
        refine lv_aload_n hx hb dX6_as_43 rfl (lv_at hl 1 rfl) ?_
        refine lv_iload_n hx hb dX6_as_44 rfl (lv_at hl 0 rfl) ?_
        refine lv_iconst (v := 0) hx hb dX6_as_45 (by decide) ?_
        obtain ⟨q_7, hq_8, h⟩ := bd_s h
        refine m_rVi (As := [.int (σ 1 ((64 + x1).toNatClampNeg)), .int 0]) (rest := []) (o := 0) (ci := 6) C0 hb hml hl.1 wm_X6_63 md_X6_its (k_X6_its l G a σ hj (σ 1 ((64 + x1).toNatClampNeg)) 0 q_7 hq_8) rfl rfl ⟨(Nat.le_of_ble_eq_true rfl), (Nat.le_of_ble_eq_true rfl)⟩ hP hS (rfl : kM 0 = 6) (by decide) rfl rfl rfl (Nat.le_of_ble_eq_true rfl) dX6_as_46 ?_
        refine lv_istore (lv' := [(4, .int q_7), (3, .int (σ 1 ((64 + x1).toNatClampNeg))), (0, .ref (a 0)), (1, .int x1), (2, .int x2)]) hx hb dX6_as_49 hl (by decide) rfl (fun ls hl => ?_)
        have L_16 : ∀ (fu51 : Nat) (x4_9 : Int32) (H : Heap) (locs : List Loc) (ls : Array Slot), it1 (f_X6_as_B51 x1 x2 σ) fu51 x4_9 = some q → HP G kM nM a σ H → va_S (AW nM a) s.heap H locs → lv_has ls 5 [(4, .int x4_9), (3, .int (σ 1 ((64 + x1).toNatClampNeg))), (0, .ref (a 0)), (2, .int x2)] → W p l e ({ frames := 2, cells := 0, slots := 0, locals := 45 } : Room) s m ([.ref (a 0), .int x1, .int x2] : List Value).toArray below meth c H locs 0 0 (MQ below (QI G kM nM a q) ([.ref (a 0), .int x1, .int x2] : List Value).toArray s 0 0 (AW nM a)) (F0 m 51 ls []) := by
          intro fu51
          induction fu51 with
          | zero =>
            intro x4_9 H locs ls h
            cases h
          | succ fu51 ih51 =>
            intro x4_9 H locs ls h hP hS hl
            replace h : (f_X6_as_B51 x1 x2 σ) (it1 (f_X6_as_B51 x1 x2 σ) fu51) x4_9 = some q := h
            generalize it1 (f_X6_as_B51 x1 x2 σ) fu51 = rec51 at h ih51
            unfold f_X6_as_B51 at h
            refine lv_iload hx hb dX6_as_51 (lv_at hl 0 rfl) ?_
            refine lv_iload_n hx hb dX6_as_53 rfl (lv_at hl 3 rfl) ?_
            have J_13 : ∀  (H : Heap) (locs : List Loc) (ls : Array Slot), f_X6_as_J72 x1 x2 σ x4_9 = some q → HP G kM nM a σ H → va_S (AW nM a) s.heap H locs → lv_has ls 5 [(4, .int x4_9), (3, .int (σ 1 ((64 + x1).toNatClampNeg))), (0, .ref (a 0)), (2, .int x2)] → W p l e ({ frames := 2, cells := 0, slots := 0, locals := 45 } : Room) s m ([.ref (a 0), .int x1, .int x2] : List Value).toArray below meth c H locs 0 0 (MQ below (QI G kM nM a q) ([.ref (a 0), .int x1, .int x2] : List Value).toArray s 0 0 (AW nM a)) (F0 m 72 ls []) := by
              intro  H locs ls h hP hS hl
              unfold f_X6_as_J72 at h
              refine lv_iload hx hb dX6_as_72 (lv_at hl 0 rfl) ?_
              refine lv_iload_n hx hb dX6_as_74 rfl (lv_at hl 3 rfl) ?_
              refine lv_icmp_ne (tgt := 82) hx hb dX6_as_75 (by decide) (fun (c_10 : ¬ x4_9 = x2) => ?_) (fun (c_10 : x4_9 = x2) => ?_)
              · rw [if_neg c_10] at h
                refine lv_aload_n hx hb dX6_as_82 rfl (lv_at hl 2 rfl) ?_
                refine lv_ldcw hx hb hown (hts _ wk_X6_330) dX6_as_83 ?_
                obtain ⟨q_11, hq_12, h⟩ := bd_s h
                refine m_cVi (As := [.int (-1000003)]) (rest := []) (o := 0) (ci := 6) C0 hb hml hl.1 wm_X6_75 md_X6_finds (k_X6_finds l G a σ hj (-1000003) q_11 hq_12) rfl rfl ⟨(Nat.le_of_ble_eq_true rfl), (Nat.le_of_ble_eq_true rfl)⟩ hP hS (rfl : kM 0 = 6) (by decide) rfl rfl rfl (Nat.le_of_ble_eq_true rfl) dX6_as_86 (fun H locs hP hS => ?_)
                exact m_ri hx hb hr hlk hP hS (Option.some.inj h) dX6_as_89
              · rw [if_pos c_10] at h
                refine lv_iload_n hx hb dX6_as_78 rfl (lv_at hl 1 rfl) ?_
                refine lv_goto (tgt := 89) hx hb dX6_as_79 (by decide) ?_
                exact m_ri hx hb hr hlk hP hS (Option.some.inj h) dX6_as_89
            refine lv_icmp_eq (tgt := 72) hx hb dX6_as_54 (by decide) (fun (c_14 : x4_9 = x2) => ?_) (fun (c_14 : ¬ x4_9 = x2) => ?_)
            · rw [if_pos c_14] at h
              exact J_13  _ _ _ h hP hS (lv_sub hl [0, 1, 2, 3] rfl)
            · rw [if_neg c_14] at h
              refine lv_iload hx hb dX6_as_57 (lv_at hl 0 rfl) ?_
              refine lv_if_eq (tgt := 72) hx hb dX6_as_59 (by decide) (fun (c_15 : x4_9 = 0) => ?_) (fun (c_15 : ¬ x4_9 = 0) => ?_)
              · rw [if_pos c_15] at h
                exact J_13  _ _ _ h hP hS (lv_sub hl [0, 1, 2, 3] rfl)
              · rw [if_neg c_15] at h
                refine lv_iload hx hb dX6_as_62 (lv_at hl 0 rfl) ?_
                refine m_pSi (As := [.int x4_9]) (rest := []) C0.z hb hml hl.1 wm_X6_327 md_X6_above (k_X6_above l x4_9) rfl rfl ⟨(Nat.le_of_ble_eq_true rfl), (Nat.le_of_ble_eq_true rfl)⟩ rfl rfl (Nat.le_of_ble_eq_true rfl) dX6_as_64 ?_
                refine lv_istore (lv' := [(4, .int (f_X6_above x4_9)), (3, .int (σ 1 ((64 + x1).toNatClampNeg))), (0, .ref (a 0)), (2, .int x2)]) hx hb dX6_as_67 hl (by decide) rfl (fun ls hl => ?_)
                refine lv_goto (tgt := 51) hx hb dX6_as_69 (by decide) ?_
                exact ih51 (f_X6_above x4_9) _ _ _ h hP hS (lv_sub hl [0, 1, 2, 3] rfl)
        exact L_16 FU q_7 _ _ _ h hP hS (lv_sub hl [0, 1, 2, 4] rfl)
      · rw [if_neg c_6] at h
        refine lv_aload_n hx hb dX6_as_35 rfl (lv_at hl 1 rfl) ?_
        refine lv_ldcw hx hb hown (hts _ wk_X6_326) dX6_as_36 ?_
        obtain ⟨q_17, hq_18, h⟩ := bd_s h
        refine m_cVi (As := [.int (-1000006)]) (rest := []) (o := 0) (ci := 6) C0 hb hml hl.1 wm_X6_75 md_X6_finds (k_X6_finds l G a σ hj (-1000006) q_17 hq_18) rfl rfl ⟨(Nat.le_of_ble_eq_true rfl), (Nat.le_of_ble_eq_true rfl)⟩ hP hS (rfl : kM 0 = 6) (by decide) rfl rfl rfl (Nat.le_of_ble_eq_true rfl) dX6_as_39 (fun H locs hP hS => ?_)
        exact m_ri hx hb hr hlk hP hS (Option.some.inj h) dX6_as_42
    · rw [if_pos c_4] at h
      refine lv_aload_n hx hb dX6_as_14 rfl (lv_at hl 0 rfl) ?_
      refine lv_ldc hx hb hown (hts _ wk_X6_46) dX6_as_15 ?_
      obtain ⟨q_19, hq_20, h⟩ := bd_s h
      refine m_cVi (As := [.int (-1000001)]) (rest := []) (o := 0) (ci := 6) C0 hb hml hl.1 wm_X6_75 md_X6_finds (k_X6_finds l G a σ hj (-1000001) q_19 hq_20) rfl rfl ⟨(Nat.le_of_ble_eq_true rfl), (Nat.le_of_ble_eq_true rfl)⟩ hP hS (rfl : kM 0 = 6) (by decide) rfl rfl rfl (Nat.le_of_ble_eq_true rfl) dX6_as_17 (fun H locs hP hS => ?_)
      exact m_ri hx hb hr hlk hP hS (Option.some.inj h) dX6_as_20
def f_X6_sheet_B86 (x1 : Int32) (rec86 : Int32 → Mem → Option (Int32 × Mem)) (x4_9 : Int32) (σ_10 : Mem) : Option (Int32 × Mem) := (if 40 ≤ x4_9 then (chk x1 4 (some (σ_10 10 x1.toNatClampNeg, σ_10))) else (chk ((40 * x1) + x4_9) 160 (rec86 (x4_9 + 1) (mst σ_10 11 (((40 * x1) + x4_9).toNatClampNeg) 0))))
def f_X6_sheet_J82 (x1 : Int32) (x2 : Int32) (σ : Mem) (t_7 : Int32) : Option (Int32 × Mem) := (chk x1 4 (it2 (f_X6_sheet_B86 x1) FU 0 (mst (mst σ 9 x1.toNatClampNeg x2) 10 x1.toNatClampNeg t_7)))
def f_X6_sheet_J36 (x1 : Int32) (x2 : Int32) (x3 : Int32) (σ : Mem) : Option (Int32 × Mem) := (if 0 ≤ x3 then (if x3 ≤ 40 then (chk x1 4 (f_X6_sheet_J82 x1 x2 σ (if x2 = 0 then 0 else x3))) else ((f_X6_finds (-1000001) σ).bind fun q_17 => some (q_17.1, q_17.2))) else ((f_X6_finds (-1000007) σ).bind fun q_19 => some (q_19.1, q_19.2)))
def f_X6_sheet (x1 : Int32) (x2 : Int32) (x3 : Int32) (σ : Mem) : Option (Int32 × Mem) := (if (f_X6_isOne x1) = 0 then ((f_X6_finds (-1000001) σ).bind fun q_2 => some (q_2.1, q_2.2)) else (if x2 = 0 then (f_X6_sheet_J36 x1 x2 x3 σ) else (if x2 = 8 then (f_X6_sheet_J36 x1 x2 x3 σ) else (if x2 = 16 then (f_X6_sheet_J36 x1 x2 x3 σ) else (if x2 = 32 then (f_X6_sheet_J36 x1 x2 x3 σ) else ((f_X6_finds (-1000001) σ).bind fun q_26 => some (q_26.1, q_26.2)))))))
set_option maxHeartbeats 4000000 in
set_option maxRecDepth 100000 in
theorem k_X6_sheet (l : Launch) (G : GG) (a : Nat → Nat) (σ : Mem) (hj : INJ nM a) (x1 : Int32) (x2 : Int32) (x3 : Int32) (q : Int32 × Mem) (h : f_X6_sheet x1 x2 x3 σ = some q) : Met l yX6_sheet (Cond.code yX6_sheet cX6_sheet 5 (some .int) :: TB) ({ frames := 2, cells := 0, slots := 0, locals := 45 } : Room) (PA G kM nM a σ [.ref (a 0), .int x1, .int x2, .int x3]) (QI G kM nM a q) 0 0 (AW nM a) := by
  refine M_ofW (by decide) hj kM_lt (Nat.le_of_ble_eq_true rfl) (fun p e s m below meth c ls C0 hb hml hr hlk hP hS hl => ?_)
  have C0 : CT p s _ m RX6 G kM nM a := C0
  have hx := C0.1
  have hts := C0.2.1
  have hown := C0.2.2.1
  have hl : lv_has ls 5 [(0, .ref (a 0)), (1, .int x1), (2, .int x2), (3, .int x3)] := hl
  unfold f_X6_sheet at h
  refine lv_iload_n hx hb dX6_sheet_0 rfl (lv_at hl 1 rfl) ?_
  refine m_pSi (As := [.int x1]) (rest := []) C0.z hb hml hl.1 wm_X6_331 md_X6_isOne (k_X6_isOne l x1) rfl rfl ⟨(Nat.le_of_ble_eq_true rfl), (Nat.le_of_ble_eq_true rfl)⟩ rfl rfl (Nat.le_of_ble_eq_true rfl) dX6_sheet_1 ?_
  refine lv_if_eq (tgt := 29) hx hb dX6_sheet_4 (by decide) (fun (c_1 : (f_X6_isOne x1) = 0) => ?_) (fun (c_1 : ¬ (f_X6_isOne x1) = 0) => ?_)
  · rw [if_pos c_1] at h
    refine lv_aload_n hx hb dX6_sheet_29 rfl (lv_at hl 0 rfl) ?_
    refine lv_ldc hx hb hown (hts _ wk_X6_46) dX6_sheet_30 ?_
    obtain ⟨q_2, hq_3, h⟩ := bd_s h
    refine m_cVi (As := [.int (-1000001)]) (rest := []) (o := 0) (ci := 6) C0 hb hml hl.1 wm_X6_75 md_X6_finds (k_X6_finds l G a σ hj (-1000001) q_2 hq_3) rfl rfl ⟨(Nat.le_of_ble_eq_true rfl), (Nat.le_of_ble_eq_true rfl)⟩ hP hS (rfl : kM 0 = 6) (by decide) rfl rfl rfl (Nat.le_of_ble_eq_true rfl) dX6_sheet_32 (fun H locs hP hS => ?_)
    exact m_ri hx hb hr hlk hP hS (Option.some.inj h) dX6_sheet_35
  · rw [if_neg c_1] at h
    refine lv_iload_n hx hb dX6_sheet_7 rfl (lv_at hl 2 rfl) ?_
    have J_21 : ∀  (H : Heap) (locs : List Loc) (ls : Array Slot), f_X6_sheet_J36 x1 x2 x3 σ = some q → HP G kM nM a σ H → va_S (AW nM a) s.heap H locs → lv_has ls 5 [(0, .ref (a 0)), (1, .int x1), (2, .int x2), (3, .int x3)] → W p l e ({ frames := 2, cells := 0, slots := 0, locals := 45 } : Room) s m ([.ref (a 0), .int x1, .int x2, .int x3] : List Value).toArray below meth c H locs 0 0 (MQ below (QI G kM nM a q) ([.ref (a 0), .int x1, .int x2, .int x3] : List Value).toArray s 0 0 (AW nM a)) (F0 m 36 ls []) := by
      intro  H locs ls h hP hS hl
      unfold f_X6_sheet_J36 at h
      refine lv_iload_n hx hb dX6_sheet_36 rfl (lv_at hl 3 rfl) ?_
      refine lv_if_ge (tgt := 48) hx hb dX6_sheet_37 (by decide) (fun (c_4 : 0 ≤ x3) => ?_) (fun (c_4 : ¬ 0 ≤ x3) => ?_)
      · rw [if_pos c_4] at h
        refine lv_iload_n hx hb dX6_sheet_48 rfl (lv_at hl 3 rfl) ?_
        refine lv_bipush (v := 40) hx hb dX6_sheet_49 (by decide) ?_
        refine lv_icmp_le (tgt := 61) hx hb dX6_sheet_51 (by decide) (fun (c_5 : x3 ≤ 40) => ?_) (fun (c_5 : ¬ x3 ≤ 40) => ?_)
        · rw [if_pos c_5] at h
          refine lv_aload_n hx hb dX6_sheet_61 rfl (lv_at hl 0 rfl) ?_
          refine gf_X6_34 (o := 0) (o2 := 9) C0 hb hP (rfl : kM 0 = 6) rfl dX6_sheet_62 ?_
          refine lv_iload_n hx hb dX6_sheet_65 rfl (lv_at hl 1 rfl) ?_
          refine lv_iload_n hx hb dX6_sheet_66 rfl (lv_at hl 2 rfl) ?_
          obtain ⟨hi_6, h⟩ := chk_s h
          refine m_iast (o := 9) (N := 4) (i := x1) (j := x1.toNatClampNeg) C0 hb hP hS (rfl : kM 9 = 100 + 4) (by decide) hi_6 rfl dX6_sheet_67 (fun H locs hP hS => ?_)
          refine lv_aload_n hx hb dX6_sheet_68 rfl (lv_at hl 0 rfl) ?_
          refine gf_X6_37 (o := 0) (o2 := 10) C0 hb hP (rfl : kM 0 = 6) rfl dX6_sheet_69 ?_
          refine lv_iload_n hx hb dX6_sheet_72 rfl (lv_at hl 1 rfl) ?_
          refine lv_iload_n hx hb dX6_sheet_73 rfl (lv_at hl 2 rfl) ?_
          have J_15 : ∀ (t_7 : Int32) (H : Heap) (locs : List Loc) (ls : Array Slot), f_X6_sheet_J82 x1 x2 σ t_7 = some q → HP G kM nM a (mst σ 9 x1.toNatClampNeg x2) H → va_S (AW nM a) s.heap H locs → lv_has ls 5 [(0, .ref (a 0)), (1, .int x1)] → W p l e ({ frames := 2, cells := 0, slots := 0, locals := 45 } : Room) s m ([.ref (a 0), .int x1, .int x2, .int x3] : List Value).toArray below meth c H locs 0 0 (MQ below (QI G kM nM a q) ([.ref (a 0), .int x1, .int x2, .int x3] : List Value).toArray s 0 0 (AW nM a)) (F0 m 82 ls [.int t_7, .int x1, .ref (a 10)]) := by
            intro t_7 H locs ls h hP hS hl
            unfold f_X6_sheet_J82 at h
            obtain ⟨hi_8, h⟩ := chk_s h
            refine m_iast (o := 10) (N := 4) (i := x1) (j := x1.toNatClampNeg) C0 hb hP hS (rfl : kM 10 = 100 + 4) (by decide) hi_8 rfl dX6_sheet_82 (fun H locs hP hS => ?_)
            refine lv_iconst (v := 0) hx hb dX6_sheet_83 (by decide) ?_
            refine lv_istore (lv' := [(4, .int 0), (0, .ref (a 0)), (1, .int x1)]) hx hb dX6_sheet_84 hl (by decide) rfl (fun ls hl => ?_)
            have L_14 : ∀ (fu86 : Nat) (x4_9 : Int32) (σ_10 : Mem) (H : Heap) (locs : List Loc) (ls : Array Slot), it2 (f_X6_sheet_B86 x1) fu86 x4_9 σ_10 = some q → HP G kM nM a σ_10 H → va_S (AW nM a) s.heap H locs → lv_has ls 5 [(4, .int x4_9), (0, .ref (a 0)), (1, .int x1)] → W p l e ({ frames := 2, cells := 0, slots := 0, locals := 45 } : Room) s m ([.ref (a 0), .int x1, .int x2, .int x3] : List Value).toArray below meth c H locs 0 0 (MQ below (QI G kM nM a q) ([.ref (a 0), .int x1, .int x2, .int x3] : List Value).toArray s 0 0 (AW nM a)) (F0 m 86 ls []) := by
              intro fu86
              induction fu86 with
              | zero =>
                intro x4_9 σ_10 H locs ls h
                cases h
              | succ fu86 ih86 =>
                intro x4_9 σ_10 H locs ls h hP hS hl
                replace h : (f_X6_sheet_B86 x1) (it2 (f_X6_sheet_B86 x1) fu86) x4_9 σ_10 = some q := h
                generalize it2 (f_X6_sheet_B86 x1) fu86 = rec86 at h ih86
                unfold f_X6_sheet_B86 at h
                refine lv_iload hx hb dX6_sheet_86 (lv_at hl 0 rfl) ?_
                refine lv_bipush (v := 40) hx hb dX6_sheet_88 (by decide) ?_
                refine lv_icmp_ge (tgt := 112) hx hb dX6_sheet_90 (by decide) (fun (c_11 : 40 ≤ x4_9) => ?_) (fun (c_11 : ¬ 40 ≤ x4_9) => ?_)
                · rw [if_pos c_11] at h
                  refine lv_aload_n hx hb dX6_sheet_112 rfl (lv_at hl 1 rfl) ?_
                  refine gf_X6_37 (o := 0) (o2 := 10) C0 hb hP (rfl : kM 0 = 6) rfl dX6_sheet_113 ?_
                  refine lv_iload_n hx hb dX6_sheet_116 rfl (lv_at hl 2 rfl) ?_
                  obtain ⟨hi_12, h⟩ := chk_s h
                  refine m_iald (o := 10) (N := 4) (i := x1) (j := x1.toNatClampNeg) C0 hb hP (rfl : kM 10 = 100 + 4) (by decide) hi_12 rfl dX6_sheet_117 ?_
                  exact m_ri hx hb hr hlk hP hS (Option.some.inj h) dX6_sheet_118
                · rw [if_neg c_11] at h
                  refine lv_aload_n hx hb dX6_sheet_93 rfl (lv_at hl 1 rfl) ?_
                  refine gf_X6_40 (o := 0) (o2 := 11) C0 hb hP (rfl : kM 0 = 6) rfl dX6_sheet_94 ?_
                  refine lv_bipush (v := 40) hx hb dX6_sheet_97 (by decide) ?_
                  refine lv_iload_n hx hb dX6_sheet_99 rfl (lv_at hl 2 rfl) ?_
                  refine lv_imul hx hb dX6_sheet_100 ?_
                  refine lv_iload hx hb dX6_sheet_101 (lv_at hl 0 rfl) ?_
                  refine lv_iadd hx hb dX6_sheet_103 ?_
                  refine lv_iconst (v := 0) hx hb dX6_sheet_104 (by decide) ?_
                  obtain ⟨hi_13, h⟩ := chk_s h
                  refine m_iast (o := 11) (N := 160) (i := (40 * x1) + x4_9) (j := ((40 * x1) + x4_9).toNatClampNeg) C0 hb hP hS (rfl : kM 11 = 100 + 160) (by decide) hi_13 rfl dX6_sheet_105 (fun H locs hP hS => ?_)
                  refine lv_iinc (v := x4_9 + 1) (lv' := [(4, .int (x4_9 + 1)), (0, .ref (a 0)), (1, .int x1)]) hx hb dX6_sheet_106 hl (k := 0) rfl rfl (by decide) rfl (fun ls hl => ?_)
                  refine lv_goto (tgt := 86) hx hb dX6_sheet_109 (by decide) ?_
                  exact ih86 (x4_9 + 1) (mst σ_10 11 (((40 * x1) + x4_9).toNatClampNeg) 0) _ _ _ h hP hS (lv_sub hl [0, 1, 2] rfl)
            exact L_14 FU 0 (mst (mst σ 9 x1.toNatClampNeg x2) 10 x1.toNatClampNeg t_7) _ _ _ h hP hS (lv_sub hl [0, 1, 2] rfl)
          refine lv_if_ne (tgt := 81) hx hb dX6_sheet_74 (by decide) (fun (c_16 : ¬ x2 = 0) => ?_) (fun (c_16 : x2 = 0) => ?_)
          · rw [if_neg c_16] at h
            refine lv_iload_n hx hb dX6_sheet_81 rfl (lv_at hl 3 rfl) ?_
            exact J_15 x3 _ _ _ h hP hS (lv_sub hl [0, 1] rfl)
          · rw [if_pos c_16] at h
            refine lv_iconst (v := 0) hx hb dX6_sheet_77 (by decide) ?_
            refine lv_goto (tgt := 82) hx hb dX6_sheet_78 (by decide) ?_
            exact J_15 0 _ _ _ h hP hS (lv_sub hl [0, 1] rfl)
        · rw [if_neg c_5] at h
          refine lv_aload_n hx hb dX6_sheet_54 rfl (lv_at hl 0 rfl) ?_
          refine lv_ldc hx hb hown (hts _ wk_X6_46) dX6_sheet_55 ?_
          obtain ⟨q_17, hq_18, h⟩ := bd_s h
          refine m_cVi (As := [.int (-1000001)]) (rest := []) (o := 0) (ci := 6) C0 hb hml hl.1 wm_X6_75 md_X6_finds (k_X6_finds l G a σ hj (-1000001) q_17 hq_18) rfl rfl ⟨(Nat.le_of_ble_eq_true rfl), (Nat.le_of_ble_eq_true rfl)⟩ hP hS (rfl : kM 0 = 6) (by decide) rfl rfl rfl (Nat.le_of_ble_eq_true rfl) dX6_sheet_57 (fun H locs hP hS => ?_)
          exact m_ri hx hb hr hlk hP hS (Option.some.inj h) dX6_sheet_60
      · rw [if_neg c_4] at h
        refine lv_aload_n hx hb dX6_sheet_40 rfl (lv_at hl 0 rfl) ?_
        refine lv_ldcw hx hb hown (hts _ wk_X6_334) dX6_sheet_41 ?_
        obtain ⟨q_19, hq_20, h⟩ := bd_s h
        refine m_cVi (As := [.int (-1000007)]) (rest := []) (o := 0) (ci := 6) C0 hb hml hl.1 wm_X6_75 md_X6_finds (k_X6_finds l G a σ hj (-1000007) q_19 hq_20) rfl rfl ⟨(Nat.le_of_ble_eq_true rfl), (Nat.le_of_ble_eq_true rfl)⟩ hP hS (rfl : kM 0 = 6) (by decide) rfl rfl rfl (Nat.le_of_ble_eq_true rfl) dX6_sheet_44 (fun H locs hP hS => ?_)
        exact m_ri hx hb hr hlk hP hS (Option.some.inj h) dX6_sheet_47
    refine lv_if_eq (tgt := 36) hx hb dX6_sheet_8 (by decide) (fun (c_22 : x2 = 0) => ?_) (fun (c_22 : ¬ x2 = 0) => ?_)
    · rw [if_pos c_22] at h
      exact J_21  _ _ _ h hP hS (lv_sub hl [0, 1, 2, 3] rfl)
    · rw [if_neg c_22] at h
      refine lv_iload_n hx hb dX6_sheet_11 rfl (lv_at hl 2 rfl) ?_
      refine lv_bipush (v := 8) hx hb dX6_sheet_12 (by decide) ?_
      refine lv_icmp_eq (tgt := 36) hx hb dX6_sheet_14 (by decide) (fun (c_23 : x2 = 8) => ?_) (fun (c_23 : ¬ x2 = 8) => ?_)
      · rw [if_pos c_23] at h
        exact J_21  _ _ _ h hP hS (lv_sub hl [0, 1, 2, 3] rfl)
      · rw [if_neg c_23] at h
        refine lv_iload_n hx hb dX6_sheet_17 rfl (lv_at hl 2 rfl) ?_
        refine lv_bipush (v := 16) hx hb dX6_sheet_18 (by decide) ?_
        refine lv_icmp_eq (tgt := 36) hx hb dX6_sheet_20 (by decide) (fun (c_24 : x2 = 16) => ?_) (fun (c_24 : ¬ x2 = 16) => ?_)
        · rw [if_pos c_24] at h
          exact J_21  _ _ _ h hP hS (lv_sub hl [0, 1, 2, 3] rfl)
        · rw [if_neg c_24] at h
          refine lv_iload_n hx hb dX6_sheet_23 rfl (lv_at hl 2 rfl) ?_
          refine lv_bipush (v := 32) hx hb dX6_sheet_24 (by decide) ?_
          refine lv_icmp_eq (tgt := 36) hx hb dX6_sheet_26 (by decide) (fun (c_25 : x2 = 32) => ?_) (fun (c_25 : ¬ x2 = 32) => ?_)
          · rw [if_pos c_25] at h
            exact J_21  _ _ _ h hP hS (lv_sub hl [0, 1, 2, 3] rfl)
          · rw [if_neg c_25] at h
            refine lv_aload_n hx hb dX6_sheet_29 rfl (lv_at hl 0 rfl) ?_
            refine lv_ldc hx hb hown (hts _ wk_X6_46) dX6_sheet_30 ?_
            obtain ⟨q_26, hq_27, h⟩ := bd_s h
            refine m_cVi (As := [.int (-1000001)]) (rest := []) (o := 0) (ci := 6) C0 hb hml hl.1 wm_X6_75 md_X6_finds (k_X6_finds l G a σ hj (-1000001) q_26 hq_27) rfl rfl ⟨(Nat.le_of_ble_eq_true rfl), (Nat.le_of_ble_eq_true rfl)⟩ hP hS (rfl : kM 0 = 6) (by decide) rfl rfl rfl (Nat.le_of_ble_eq_true rfl) dX6_sheet_32 (fun H locs hP hS => ?_)
            exact m_ri hx hb hr hlk hP hS (Option.some.inj h) dX6_sheet_35
def f_X6_write (x1 : Int32) (x2 : Int32) (x3 : Int32) (σ : Mem) : Option (Int32 × Mem) := ((f_X6_wrong x1 σ).bind fun q_1 => (if q_1 = 0 then (chk x1 4 (if (f_X6_in x2.toInt64 0 (((σ 10 x1.toNatClampNeg) - 1).toInt64)) = 0 then ((f_X6_finds (-1000001) σ).bind fun q_8 => some (q_8.1, q_8.2)) else (chk x1 4 (chk ((40 * x1) + x2) 160 (some (1, mst σ 11 (((40 * x1) + x2).toNatClampNeg) (f_X6_narrowed (σ 9 x1.toNatClampNeg) x3))))))) else ((f_X6_finds q_1 σ).bind fun q_10 => some (q_10.1, q_10.2))))
set_option maxHeartbeats 4000000 in
set_option maxRecDepth 100000 in
theorem k_X6_write (l : Launch) (G : GG) (a : Nat → Nat) (σ : Mem) (hj : INJ nM a) (x1 : Int32) (x2 : Int32) (x3 : Int32) (q : Int32 × Mem) (h : f_X6_write x1 x2 x3 σ = some q) : Met l yX6_write (Cond.code yX6_write cX6_write 5 (some .int) :: TB) ({ frames := 3, cells := 0, slots := 0, locals := 66 } : Room) (PA G kM nM a σ [.ref (a 0), .int x1, .int x2, .int x3]) (QI G kM nM a q) 0 0 (AW nM a) := by
  refine M_ofW (by decide) hj kM_lt (Nat.le_of_ble_eq_true rfl) (fun p e s m below meth c ls C0 hb hml hr hlk hP hS hl => ?_)
  have C0 : CT p s _ m RX6 G kM nM a := C0
  have hx := C0.1
  have hts := C0.2.1
  have hown := C0.2.2.1
  have hl : lv_has ls 5 [(0, .ref (a 0)), (1, .int x1), (2, .int x2), (3, .int x3)] := hl
  unfold f_X6_write at h
  refine lv_aload_n hx hb dX6_write_0 rfl (lv_at hl 0 rfl) ?_
  refine lv_iload_n hx hb dX6_write_1 rfl (lv_at hl 1 rfl) ?_
  obtain ⟨q_1, hq_2, h⟩ := bd_s h
  refine m_rVi (As := [.int x1]) (rest := []) (o := 0) (ci := 6) C0 hb hml hl.1 wm_X6_208 md_X6_wrong (k_X6_wrong l G a σ hj x1 q_1 hq_2) rfl rfl ⟨(Nat.le_of_ble_eq_true rfl), (Nat.le_of_ble_eq_true rfl)⟩ hP hS (rfl : kM 0 = 6) (by decide) rfl rfl rfl (Nat.le_of_ble_eq_true rfl) dX6_write_2 ?_
  refine lv_istore (lv' := [(4, .int q_1), (0, .ref (a 0)), (1, .int x1), (2, .int x2), (3, .int x3)]) hx hb dX6_write_5 hl (by decide) rfl (fun ls hl => ?_)
  refine lv_iload hx hb dX6_write_7 (lv_at hl 0 rfl) ?_
  refine lv_if_eq (tgt := 19) hx hb dX6_write_9 (by decide) (fun (c_3 : q_1 = 0) => ?_) (fun (c_3 : ¬ q_1 = 0) => ?_)
  · rw [if_pos c_3] at h
    refine lv_iload_n hx hb dX6_write_19 rfl (lv_at hl 3 rfl) ?_
    refine lv_i2l (v := x2.toInt64) hx hb dX6_write_20 rfl ?_
    refine lv_lconst (v := 0) hx hb dX6_write_21 (by decide) ?_
    refine lv_aload_n hx hb dX6_write_22 rfl (lv_at hl 1 rfl) ?_
    refine gf_X6_37 (o := 0) (o2 := 10) C0 hb hP (rfl : kM 0 = 6) rfl dX6_write_23 ?_
    refine lv_iload_n hx hb dX6_write_26 rfl (lv_at hl 2 rfl) ?_
    obtain ⟨hi_4, h⟩ := chk_s h
    refine m_iald (o := 10) (N := 4) (i := x1) (j := x1.toNatClampNeg) C0 hb hP (rfl : kM 10 = 100 + 4) (by decide) hi_4 rfl dX6_write_27 ?_
    refine lv_iconst (v := 1) hx hb dX6_write_28 (by decide) ?_
    refine lv_isub hx hb dX6_write_29 ?_
    refine lv_i2l (v := ((σ 10 x1.toNatClampNeg) - 1).toInt64) hx hb dX6_write_30 rfl ?_
    refine m_pSi (As := [.long x2.toInt64, .long 0, .long (((σ 10 x1.toNatClampNeg) - 1).toInt64)]) (rest := []) C0.z hb hml hl.1 wm_X6_49 md_X6_in (k_X6_in l x2.toInt64 0 (((σ 10 x1.toNatClampNeg) - 1).toInt64)) rfl rfl ⟨(Nat.le_of_ble_eq_true rfl), (Nat.le_of_ble_eq_true rfl)⟩ rfl rfl (Nat.le_of_ble_eq_true rfl) dX6_write_31 ?_
    refine lv_if_ne (tgt := 44) hx hb dX6_write_34 (by decide) (fun (c_5 : ¬ (f_X6_in x2.toInt64 0 (((σ 10 x1.toNatClampNeg) - 1).toInt64)) = 0) => ?_) (fun (c_5 : (f_X6_in x2.toInt64 0 (((σ 10 x1.toNatClampNeg) - 1).toInt64)) = 0) => ?_)
    · rw [if_neg c_5] at h
      refine lv_aload_n hx hb dX6_write_44 rfl (lv_at hl 1 rfl) ?_
      refine gf_X6_40 (o := 0) (o2 := 11) C0 hb hP (rfl : kM 0 = 6) rfl dX6_write_45 ?_
      refine lv_bipush (v := 40) hx hb dX6_write_48 (by decide) ?_
      refine lv_iload_n hx hb dX6_write_50 rfl (lv_at hl 2 rfl) ?_
      refine lv_imul hx hb dX6_write_51 ?_
      refine lv_iload_n hx hb dX6_write_52 rfl (lv_at hl 3 rfl) ?_
      refine lv_iadd hx hb dX6_write_53 ?_
      refine lv_aload_n hx hb dX6_write_54 rfl (lv_at hl 1 rfl) ?_
      refine gf_X6_34 (o := 0) (o2 := 9) C0 hb hP (rfl : kM 0 = 6) rfl dX6_write_55 ?_
      refine lv_iload_n hx hb dX6_write_58 rfl (lv_at hl 2 rfl) ?_
      obtain ⟨hi_6, h⟩ := chk_s h
      refine m_iald (o := 9) (N := 4) (i := x1) (j := x1.toNatClampNeg) C0 hb hP (rfl : kM 9 = 100 + 4) (by decide) hi_6 rfl dX6_write_59 ?_
      refine lv_iload_n hx hb dX6_write_60 rfl (lv_at hl 4 rfl) ?_
      refine m_pSi (As := [.int (σ 9 x1.toNatClampNeg), .int x3]) (rest := [.int ((40 * x1) + x2), .ref (a 11)]) C0.z hb hml hl.1 wm_X6_335 md_X6_narrowed (k_X6_narrowed l (σ 9 x1.toNatClampNeg) x3) rfl rfl ⟨(Nat.le_of_ble_eq_true rfl), (Nat.le_of_ble_eq_true rfl)⟩ rfl rfl (Nat.le_of_ble_eq_true rfl) dX6_write_61 ?_
      obtain ⟨hi_7, h⟩ := chk_s h
      refine m_iast (o := 11) (N := 160) (i := (40 * x1) + x2) (j := ((40 * x1) + x2).toNatClampNeg) C0 hb hP hS (rfl : kM 11 = 100 + 160) (by decide) hi_7 rfl dX6_write_64 (fun H locs hP hS => ?_)
      refine lv_iconst (v := 1) hx hb dX6_write_65 (by decide) ?_
      exact m_ri hx hb hr hlk hP hS (Option.some.inj h) dX6_write_66
    · rw [if_pos c_5] at h
      refine lv_aload_n hx hb dX6_write_37 rfl (lv_at hl 1 rfl) ?_
      refine lv_ldc hx hb hown (hts _ wk_X6_46) dX6_write_38 ?_
      obtain ⟨q_8, hq_9, h⟩ := bd_s h
      refine m_cVi (As := [.int (-1000001)]) (rest := []) (o := 0) (ci := 6) C0 hb hml hl.1 wm_X6_75 md_X6_finds (k_X6_finds l G a σ hj (-1000001) q_8 hq_9) rfl rfl ⟨(Nat.le_of_ble_eq_true rfl), (Nat.le_of_ble_eq_true rfl)⟩ hP hS (rfl : kM 0 = 6) (by decide) rfl rfl rfl (Nat.le_of_ble_eq_true rfl) dX6_write_40 (fun H locs hP hS => ?_)
      exact m_ri hx hb hr hlk hP hS (Option.some.inj h) dX6_write_43
  · rw [if_neg c_3] at h
    refine lv_aload_n hx hb dX6_write_12 rfl (lv_at hl 1 rfl) ?_
    refine lv_iload hx hb dX6_write_13 (lv_at hl 0 rfl) ?_
    obtain ⟨q_10, hq_11, h⟩ := bd_s h
    refine m_cVi (As := [.int q_1]) (rest := []) (o := 0) (ci := 6) C0 hb hml hl.1 wm_X6_75 md_X6_finds (k_X6_finds l G a σ hj q_1 q_10 hq_11) rfl rfl ⟨(Nat.le_of_ble_eq_true rfl), (Nat.le_of_ble_eq_true rfl)⟩ hP hS (rfl : kM 0 = 6) (by decide) rfl rfl rfl (Nat.le_of_ble_eq_true rfl) dX6_write_15 (fun H locs hP hS => ?_)
    exact m_ri hx hb hr hlk hP hS (Option.some.inj h) dX6_write_18
def f_X6_copy_B158 (x3 : Int32) (x4 : Int32) (x5 : Int32) (rec158 : Int32 → Mem → Option (Int32 × Mem)) (x6_32 : Int32) (σ_33 : Mem) : Option (Int32 × Mem) := (if x5 ≤ x6_32 then some (x5, σ_33) else (chk x6_32 40 (chk (((40 * x3) + x4) + x6_32) 160 (rec158 (x6_32 + 1) (mst σ_33 11 ((((40 * x3) + x4) + x6_32).toNatClampNeg) (σ_33 12 x6_32.toNatClampNeg))))))
def f_X6_copy_B121 (x1 : Int32) (x2 : Int32) (x3 : Int32) (x4 : Int32) (x5 : Int32) (rec121 : Int32 → Mem → Option (Int32 × Mem)) (x6_29 : Int32) (σ_30 : Mem) : Option (Int32 × Mem) := (if x5 ≤ x6_29 then (it2 (f_X6_copy_B158 x3 x4 x5) FU 0 σ_30) else (chk (((40 * x1) + x2) + x6_29) 160 (chk x6_29 40 (rec121 (x6_29 + 1) (mst σ_30 12 x6_29.toNatClampNeg (σ_30 11 ((((40 * x1) + x2) + x6_29).toNatClampNeg)))))))
def f_X6_copy (x1 : Int32) (x2 : Int32) (x3 : Int32) (x4 : Int32) (x5 : Int32) (σ : Mem) : Option (Int32 × Mem) := (if (f_X6_isOne x1) = 0 then ((f_X6_finds (-1000001) σ).bind fun q_2 => some (q_2.1, q_2.2)) else (if (f_X6_isOne x3) = 0 then ((f_X6_finds (-1000001) σ).bind fun q_47 => some (q_47.1, q_47.2)) else (chk x1 4 (if (σ 9 x1.toNatClampNeg) = 0 then ((f_X6_finds (-1000006) σ).bind fun q_7 => some (q_7.1, q_7.2)) else (chk x3 4 (if (σ 9 x3.toNatClampNeg) = 0 then ((f_X6_finds (-1000006) σ).bind fun q_45 => some (q_45.1, q_45.2)) else (chk x1 4 (chk x3 4 (if (σ 9 x1.toNatClampNeg) = (σ 9 x3.toNatClampNeg) then (if x2 < 0 then ((f_X6_finds (-1000001) σ).bind fun q_15 => some (q_15.1, q_15.2)) else (if x4 < 0 then ((f_X6_finds (-1000001) σ).bind fun q_18 => some (q_18.1, q_18.2)) else (if x5 < 0 then ((f_X6_finds (-1000001) σ).bind fun q_21 => some (q_21.1, q_21.2)) else (chk x1 4 (if ((σ 10 x1.toNatClampNeg) - x2) < x5 then ((f_X6_finds (-1000001) σ).bind fun q_25 => some (q_25.1, q_25.2)) else (chk x3 4 (if x5 ≤ ((σ 10 x3.toNatClampNeg) - x4) then (it2 (f_X6_copy_B121 x1 x2 x3 x4 x5) FU 0 σ) else ((f_X6_finds (-1000001) σ).bind fun q_41 => some (q_41.1, q_41.2))))))))) else ((f_X6_finds (-1000003) σ).bind fun q_43 => some (q_43.1, q_43.2)))))))))))
set_option maxHeartbeats 4000000 in
set_option maxRecDepth 100000 in
theorem k_X6_copy (l : Launch) (G : GG) (a : Nat → Nat) (σ : Mem) (hj : INJ nM a) (x1 : Int32) (x2 : Int32) (x3 : Int32) (x4 : Int32) (x5 : Int32) (q : Int32 × Mem) (h : f_X6_copy x1 x2 x3 x4 x5 σ = some q) : Met l yX6_copy (Cond.code yX6_copy cX6_copy 7 (some .int) :: TB) ({ frames := 2, cells := 0, slots := 0, locals := 45 } : Room) (PA G kM nM a σ [.ref (a 0), .int x1, .int x2, .int x3, .int x4, .int x5]) (QI G kM nM a q) 0 0 (AW nM a) := by
  refine M_ofW (by decide) hj kM_lt (Nat.le_of_ble_eq_true rfl) (fun p e s m below meth c ls C0 hb hml hr hlk hP hS hl => ?_)
  have C0 : CT p s _ m RX6 G kM nM a := C0
  have hx := C0.1
  have hts := C0.2.1
  have hown := C0.2.2.1
  have hl : lv_has ls 7 [(0, .ref (a 0)), (1, .int x1), (2, .int x2), (3, .int x3), (4, .int x4), (5, .int x5)] := hl
  unfold f_X6_copy at h
  refine lv_iload_n hx hb dX6_copy_0 rfl (lv_at hl 1 rfl) ?_
  refine m_pSi (As := [.int x1]) (rest := []) C0.z hb hml hl.1 wm_X6_331 md_X6_isOne (k_X6_isOne l x1) rfl rfl ⟨(Nat.le_of_ble_eq_true rfl), (Nat.le_of_ble_eq_true rfl)⟩ rfl rfl (Nat.le_of_ble_eq_true rfl) dX6_copy_1 ?_
  refine lv_if_eq (tgt := 14) hx hb dX6_copy_4 (by decide) (fun (c_1 : (f_X6_isOne x1) = 0) => ?_) (fun (c_1 : ¬ (f_X6_isOne x1) = 0) => ?_)
  · rw [if_pos c_1] at h
    refine lv_aload_n hx hb dX6_copy_14 rfl (lv_at hl 0 rfl) ?_
    refine lv_ldc hx hb hown (hts _ wk_X6_46) dX6_copy_15 ?_
    obtain ⟨q_2, hq_3, h⟩ := bd_s h
    refine m_cVi (As := [.int (-1000001)]) (rest := []) (o := 0) (ci := 6) C0 hb hml hl.1 wm_X6_75 md_X6_finds (k_X6_finds l G a σ hj (-1000001) q_2 hq_3) rfl rfl ⟨(Nat.le_of_ble_eq_true rfl), (Nat.le_of_ble_eq_true rfl)⟩ hP hS (rfl : kM 0 = 6) (by decide) rfl rfl rfl (Nat.le_of_ble_eq_true rfl) dX6_copy_17 (fun H locs hP hS => ?_)
    exact m_ri hx hb hr hlk hP hS (Option.some.inj h) dX6_copy_20
  · rw [if_neg c_1] at h
    refine lv_iload_n hx hb dX6_copy_7 rfl (lv_at hl 3 rfl) ?_
    refine m_pSi (As := [.int x3]) (rest := []) C0.z hb hml hl.1 wm_X6_331 md_X6_isOne (k_X6_isOne l x3) rfl rfl ⟨(Nat.le_of_ble_eq_true rfl), (Nat.le_of_ble_eq_true rfl)⟩ rfl rfl (Nat.le_of_ble_eq_true rfl) dX6_copy_8 ?_
    refine lv_if_ne (tgt := 21) hx hb dX6_copy_11 (by decide) (fun (c_4 : ¬ (f_X6_isOne x3) = 0) => ?_) (fun (c_4 : (f_X6_isOne x3) = 0) => ?_)
    · rw [if_neg c_4] at h
      refine lv_aload_n hx hb dX6_copy_21 rfl (lv_at hl 0 rfl) ?_
      refine gf_X6_34 (o := 0) (o2 := 9) C0 hb hP (rfl : kM 0 = 6) rfl dX6_copy_22 ?_
      refine lv_iload_n hx hb dX6_copy_25 rfl (lv_at hl 1 rfl) ?_
      obtain ⟨hi_5, h⟩ := chk_s h
      refine m_iald (o := 9) (N := 4) (i := x1) (j := x1.toNatClampNeg) C0 hb hP (rfl : kM 9 = 100 + 4) (by decide) hi_5 rfl dX6_copy_26 ?_
      refine lv_if_eq (tgt := 39) hx hb dX6_copy_27 (by decide) (fun (c_6 : (σ 9 x1.toNatClampNeg) = 0) => ?_) (fun (c_6 : ¬ (σ 9 x1.toNatClampNeg) = 0) => ?_)
      · rw [if_pos c_6] at h
        refine lv_aload_n hx hb dX6_copy_39 rfl (lv_at hl 0 rfl) ?_
        refine lv_ldcw hx hb hown (hts _ wk_X6_326) dX6_copy_40 ?_
        obtain ⟨q_7, hq_8, h⟩ := bd_s h
        refine m_cVi (As := [.int (-1000006)]) (rest := []) (o := 0) (ci := 6) C0 hb hml hl.1 wm_X6_75 md_X6_finds (k_X6_finds l G a σ hj (-1000006) q_7 hq_8) rfl rfl ⟨(Nat.le_of_ble_eq_true rfl), (Nat.le_of_ble_eq_true rfl)⟩ hP hS (rfl : kM 0 = 6) (by decide) rfl rfl rfl (Nat.le_of_ble_eq_true rfl) dX6_copy_43 (fun H locs hP hS => ?_)
        exact m_ri hx hb hr hlk hP hS (Option.some.inj h) dX6_copy_46
      · rw [if_neg c_6] at h
        refine lv_aload_n hx hb dX6_copy_30 rfl (lv_at hl 0 rfl) ?_
        refine gf_X6_34 (o := 0) (o2 := 9) C0 hb hP (rfl : kM 0 = 6) rfl dX6_copy_31 ?_
        refine lv_iload_n hx hb dX6_copy_34 rfl (lv_at hl 3 rfl) ?_
        obtain ⟨hi_9, h⟩ := chk_s h
        refine m_iald (o := 9) (N := 4) (i := x3) (j := x3.toNatClampNeg) C0 hb hP (rfl : kM 9 = 100 + 4) (by decide) hi_9 rfl dX6_copy_35 ?_
        refine lv_if_ne (tgt := 47) hx hb dX6_copy_36 (by decide) (fun (c_10 : ¬ (σ 9 x3.toNatClampNeg) = 0) => ?_) (fun (c_10 : (σ 9 x3.toNatClampNeg) = 0) => ?_)
        · rw [if_neg c_10] at h
          refine lv_aload_n hx hb dX6_copy_47 rfl (lv_at hl 0 rfl) ?_
          refine gf_X6_34 (o := 0) (o2 := 9) C0 hb hP (rfl : kM 0 = 6) rfl dX6_copy_48 ?_
          refine lv_iload_n hx hb dX6_copy_51 rfl (lv_at hl 1 rfl) ?_
          obtain ⟨hi_11, h⟩ := chk_s h
          refine m_iald (o := 9) (N := 4) (i := x1) (j := x1.toNatClampNeg) C0 hb hP (rfl : kM 9 = 100 + 4) (by decide) hi_11 rfl dX6_copy_52 ?_
          refine lv_aload_n hx hb dX6_copy_53 rfl (lv_at hl 0 rfl) ?_
          refine gf_X6_34 (o := 0) (o2 := 9) C0 hb hP (rfl : kM 0 = 6) rfl dX6_copy_54 ?_
          refine lv_iload_n hx hb dX6_copy_57 rfl (lv_at hl 3 rfl) ?_
          obtain ⟨hi_12, h⟩ := chk_s h
          refine m_iald (o := 9) (N := 4) (i := x3) (j := x3.toNatClampNeg) C0 hb hP (rfl : kM 9 = 100 + 4) (by decide) hi_12 rfl dX6_copy_58 ?_
          refine lv_icmp_eq (tgt := 70) hx hb dX6_copy_59 (by decide) (fun (c_13 : (σ 9 x1.toNatClampNeg) = (σ 9 x3.toNatClampNeg)) => ?_) (fun (c_13 : ¬ (σ 9 x1.toNatClampNeg) = (σ 9 x3.toNatClampNeg)) => ?_)
          · rw [if_pos c_13] at h
            refine lv_iload_n hx hb dX6_copy_70 rfl (lv_at hl 2 rfl) ?_
            refine lv_if_lt (tgt := 111) hx hb dX6_copy_71 (by decide) (fun (c_14 : x2 < 0) => ?_) (fun (c_14 : ¬ x2 < 0) => ?_)
            · rw [if_pos c_14] at h
              refine lv_aload_n hx hb dX6_copy_111 rfl (lv_at hl 0 rfl) ?_
              refine lv_ldc hx hb hown (hts _ wk_X6_46) dX6_copy_112 ?_
              obtain ⟨q_15, hq_16, h⟩ := bd_s h
              refine m_cVi (As := [.int (-1000001)]) (rest := []) (o := 0) (ci := 6) C0 hb hml hl.1 wm_X6_75 md_X6_finds (k_X6_finds l G a σ hj (-1000001) q_15 hq_16) rfl rfl ⟨(Nat.le_of_ble_eq_true rfl), (Nat.le_of_ble_eq_true rfl)⟩ hP hS (rfl : kM 0 = 6) (by decide) rfl rfl rfl (Nat.le_of_ble_eq_true rfl) dX6_copy_114 (fun H locs hP hS => ?_)
              exact m_ri hx hb hr hlk hP hS (Option.some.inj h) dX6_copy_117
            · rw [if_neg c_14] at h
              refine lv_iload hx hb dX6_copy_74 (lv_at hl 4 rfl) ?_
              refine lv_if_lt (tgt := 111) hx hb dX6_copy_76 (by decide) (fun (c_17 : x4 < 0) => ?_) (fun (c_17 : ¬ x4 < 0) => ?_)
              · rw [if_pos c_17] at h
                refine lv_aload_n hx hb dX6_copy_111 rfl (lv_at hl 0 rfl) ?_
                refine lv_ldc hx hb hown (hts _ wk_X6_46) dX6_copy_112 ?_
                obtain ⟨q_18, hq_19, h⟩ := bd_s h
                refine m_cVi (As := [.int (-1000001)]) (rest := []) (o := 0) (ci := 6) C0 hb hml hl.1 wm_X6_75 md_X6_finds (k_X6_finds l G a σ hj (-1000001) q_18 hq_19) rfl rfl ⟨(Nat.le_of_ble_eq_true rfl), (Nat.le_of_ble_eq_true rfl)⟩ hP hS (rfl : kM 0 = 6) (by decide) rfl rfl rfl (Nat.le_of_ble_eq_true rfl) dX6_copy_114 (fun H locs hP hS => ?_)
                exact m_ri hx hb hr hlk hP hS (Option.some.inj h) dX6_copy_117
              · rw [if_neg c_17] at h
                refine lv_iload hx hb dX6_copy_79 (lv_at hl 5 rfl) ?_
                refine lv_if_lt (tgt := 111) hx hb dX6_copy_81 (by decide) (fun (c_20 : x5 < 0) => ?_) (fun (c_20 : ¬ x5 < 0) => ?_)
                · rw [if_pos c_20] at h
                  refine lv_aload_n hx hb dX6_copy_111 rfl (lv_at hl 0 rfl) ?_
                  refine lv_ldc hx hb hown (hts _ wk_X6_46) dX6_copy_112 ?_
                  obtain ⟨q_21, hq_22, h⟩ := bd_s h
                  refine m_cVi (As := [.int (-1000001)]) (rest := []) (o := 0) (ci := 6) C0 hb hml hl.1 wm_X6_75 md_X6_finds (k_X6_finds l G a σ hj (-1000001) q_21 hq_22) rfl rfl ⟨(Nat.le_of_ble_eq_true rfl), (Nat.le_of_ble_eq_true rfl)⟩ hP hS (rfl : kM 0 = 6) (by decide) rfl rfl rfl (Nat.le_of_ble_eq_true rfl) dX6_copy_114 (fun H locs hP hS => ?_)
                  exact m_ri hx hb hr hlk hP hS (Option.some.inj h) dX6_copy_117
                · rw [if_neg c_20] at h
                  refine lv_iload hx hb dX6_copy_84 (lv_at hl 5 rfl) ?_
                  refine lv_aload_n hx hb dX6_copy_86 rfl (lv_at hl 0 rfl) ?_
                  refine gf_X6_37 (o := 0) (o2 := 10) C0 hb hP (rfl : kM 0 = 6) rfl dX6_copy_87 ?_
                  refine lv_iload_n hx hb dX6_copy_90 rfl (lv_at hl 1 rfl) ?_
                  obtain ⟨hi_23, h⟩ := chk_s h
                  refine m_iald (o := 10) (N := 4) (i := x1) (j := x1.toNatClampNeg) C0 hb hP (rfl : kM 10 = 100 + 4) (by decide) hi_23 rfl dX6_copy_91 ?_
                  refine lv_iload_n hx hb dX6_copy_92 rfl (lv_at hl 2 rfl) ?_
                  refine lv_isub hx hb dX6_copy_93 ?_
                  refine lv_icmp_gt (tgt := 111) hx hb dX6_copy_94 (by decide) (fun (c_24 : ((σ 10 x1.toNatClampNeg) - x2) < x5) => ?_) (fun (c_24 : ¬ ((σ 10 x1.toNatClampNeg) - x2) < x5) => ?_)
                  · rw [if_pos c_24] at h
                    refine lv_aload_n hx hb dX6_copy_111 rfl (lv_at hl 0 rfl) ?_
                    refine lv_ldc hx hb hown (hts _ wk_X6_46) dX6_copy_112 ?_
                    obtain ⟨q_25, hq_26, h⟩ := bd_s h
                    refine m_cVi (As := [.int (-1000001)]) (rest := []) (o := 0) (ci := 6) C0 hb hml hl.1 wm_X6_75 md_X6_finds (k_X6_finds l G a σ hj (-1000001) q_25 hq_26) rfl rfl ⟨(Nat.le_of_ble_eq_true rfl), (Nat.le_of_ble_eq_true rfl)⟩ hP hS (rfl : kM 0 = 6) (by decide) rfl rfl rfl (Nat.le_of_ble_eq_true rfl) dX6_copy_114 (fun H locs hP hS => ?_)
                    exact m_ri hx hb hr hlk hP hS (Option.some.inj h) dX6_copy_117
                  · rw [if_neg c_24] at h
                    refine lv_iload hx hb dX6_copy_97 (lv_at hl 5 rfl) ?_
                    refine lv_aload_n hx hb dX6_copy_99 rfl (lv_at hl 0 rfl) ?_
                    refine gf_X6_37 (o := 0) (o2 := 10) C0 hb hP (rfl : kM 0 = 6) rfl dX6_copy_100 ?_
                    refine lv_iload_n hx hb dX6_copy_103 rfl (lv_at hl 3 rfl) ?_
                    obtain ⟨hi_27, h⟩ := chk_s h
                    refine m_iald (o := 10) (N := 4) (i := x3) (j := x3.toNatClampNeg) C0 hb hP (rfl : kM 10 = 100 + 4) (by decide) hi_27 rfl dX6_copy_104 ?_
                    refine lv_iload hx hb dX6_copy_105 (lv_at hl 4 rfl) ?_
                    refine lv_isub hx hb dX6_copy_107 ?_
                    refine lv_icmp_le (tgt := 118) hx hb dX6_copy_108 (by decide) (fun (c_28 : x5 ≤ ((σ 10 x3.toNatClampNeg) - x4)) => ?_) (fun (c_28 : ¬ x5 ≤ ((σ 10 x3.toNatClampNeg) - x4)) => ?_)
                    · rw [if_pos c_28] at h
                      refine lv_iconst (v := 0) hx hb dX6_copy_118 (by decide) ?_
                      refine lv_istore (lv' := [(6, .int 0), (0, .ref (a 0)), (1, .int x1), (2, .int x2), (3, .int x3), (4, .int x4), (5, .int x5)]) hx hb dX6_copy_119 hl (by decide) rfl (fun ls hl => ?_)
                      have L_40 : ∀ (fu121 : Nat) (x6_29 : Int32) (σ_30 : Mem) (H : Heap) (locs : List Loc) (ls : Array Slot), it2 (f_X6_copy_B121 x1 x2 x3 x4 x5) fu121 x6_29 σ_30 = some q → HP G kM nM a σ_30 H → va_S (AW nM a) s.heap H locs → lv_has ls 7 [(6, .int x6_29), (0, .ref (a 0)), (1, .int x1), (2, .int x2), (3, .int x3), (4, .int x4), (5, .int x5)] → W p l e ({ frames := 2, cells := 0, slots := 0, locals := 45 } : Room) s m ([.ref (a 0), .int x1, .int x2, .int x3, .int x4, .int x5] : List Value).toArray below meth c H locs 0 0 (MQ below (QI G kM nM a q) ([.ref (a 0), .int x1, .int x2, .int x3, .int x4, .int x5] : List Value).toArray s 0 0 (AW nM a)) (F0 m 121 ls []) := by
                        intro fu121
                        induction fu121 with
                        | zero =>
                          intro x6_29 σ_30 H locs ls h
                          cases h
                        | succ fu121 ih121 =>
                          intro x6_29 σ_30 H locs ls h hP hS hl
                          replace h : (f_X6_copy_B121 x1 x2 x3 x4 x5) (it2 (f_X6_copy_B121 x1 x2 x3 x4 x5) fu121) x6_29 σ_30 = some q := h
                          generalize it2 (f_X6_copy_B121 x1 x2 x3 x4 x5) fu121 = rec121 at h ih121
                          unfold f_X6_copy_B121 at h
                          refine lv_iload hx hb dX6_copy_121 (lv_at hl 0 rfl) ?_
                          refine lv_iload hx hb dX6_copy_123 (lv_at hl 6 rfl) ?_
                          refine lv_icmp_ge (tgt := 155) hx hb dX6_copy_125 (by decide) (fun (c_31 : x5 ≤ x6_29) => ?_) (fun (c_31 : ¬ x5 ≤ x6_29) => ?_)
                          · rw [if_pos c_31] at h
                            refine lv_iconst (v := 0) hx hb dX6_copy_155 (by decide) ?_
                            refine lv_istore (lv' := [(6, .int 0), (0, .ref (a 0)), (1, .int x1), (2, .int x2), (3, .int x3), (4, .int x4), (5, .int x5)]) hx hb dX6_copy_156 hl (by decide) rfl (fun ls hl => ?_)
                            have L_37 : ∀ (fu158 : Nat) (x6_32 : Int32) (σ_33 : Mem) (H : Heap) (locs : List Loc) (ls : Array Slot), it2 (f_X6_copy_B158 x3 x4 x5) fu158 x6_32 σ_33 = some q → HP G kM nM a σ_33 H → va_S (AW nM a) s.heap H locs → lv_has ls 7 [(6, .int x6_32), (0, .ref (a 0)), (3, .int x3), (4, .int x4), (5, .int x5)] → W p l e ({ frames := 2, cells := 0, slots := 0, locals := 45 } : Room) s m ([.ref (a 0), .int x1, .int x2, .int x3, .int x4, .int x5] : List Value).toArray below meth c H locs 0 0 (MQ below (QI G kM nM a q) ([.ref (a 0), .int x1, .int x2, .int x3, .int x4, .int x5] : List Value).toArray s 0 0 (AW nM a)) (F0 m 158 ls []) := by
                              intro fu158
                              induction fu158 with
                              | zero =>
                                intro x6_32 σ_33 H locs ls h
                                cases h
                              | succ fu158 ih158 =>
                                intro x6_32 σ_33 H locs ls h hP hS hl
                                replace h : (f_X6_copy_B158 x3 x4 x5) (it2 (f_X6_copy_B158 x3 x4 x5) fu158) x6_32 σ_33 = some q := h
                                generalize it2 (f_X6_copy_B158 x3 x4 x5) fu158 = rec158 at h ih158
                                unfold f_X6_copy_B158 at h
                                refine lv_iload hx hb dX6_copy_158 (lv_at hl 0 rfl) ?_
                                refine lv_iload hx hb dX6_copy_160 (lv_at hl 4 rfl) ?_
                                refine lv_icmp_ge (tgt := 193) hx hb dX6_copy_162 (by decide) (fun (c_34 : x5 ≤ x6_32) => ?_) (fun (c_34 : ¬ x5 ≤ x6_32) => ?_)
                                · rw [if_pos c_34] at h
                                  refine lv_iload hx hb dX6_copy_193 (lv_at hl 4 rfl) ?_
                                  exact m_ri hx hb hr hlk hP hS (Option.some.inj h) dX6_copy_195
                                · rw [if_neg c_34] at h
                                  refine lv_aload_n hx hb dX6_copy_165 rfl (lv_at hl 1 rfl) ?_
                                  refine gf_X6_40 (o := 0) (o2 := 11) C0 hb hP (rfl : kM 0 = 6) rfl dX6_copy_166 ?_
                                  refine lv_bipush (v := 40) hx hb dX6_copy_169 (by decide) ?_
                                  refine lv_iload_n hx hb dX6_copy_171 rfl (lv_at hl 2 rfl) ?_
                                  refine lv_imul hx hb dX6_copy_172 ?_
                                  refine lv_iload hx hb dX6_copy_173 (lv_at hl 3 rfl) ?_
                                  refine lv_iadd hx hb dX6_copy_175 ?_
                                  refine lv_iload hx hb dX6_copy_176 (lv_at hl 0 rfl) ?_
                                  refine lv_iadd hx hb dX6_copy_178 ?_
                                  refine lv_aload_n hx hb dX6_copy_179 rfl (lv_at hl 1 rfl) ?_
                                  refine gf_X6_43 (o := 0) (o2 := 12) C0 hb hP (rfl : kM 0 = 6) rfl dX6_copy_180 ?_
                                  refine lv_iload hx hb dX6_copy_183 (lv_at hl 0 rfl) ?_
                                  obtain ⟨hi_35, h⟩ := chk_s h
                                  refine m_iald (o := 12) (N := 40) (i := x6_32) (j := x6_32.toNatClampNeg) C0 hb hP (rfl : kM 12 = 100 + 40) (by decide) hi_35 rfl dX6_copy_185 ?_
                                  obtain ⟨hi_36, h⟩ := chk_s h
                                  refine m_iast (o := 11) (N := 160) (i := ((40 * x3) + x4) + x6_32) (j := (((40 * x3) + x4) + x6_32).toNatClampNeg) C0 hb hP hS (rfl : kM 11 = 100 + 160) (by decide) hi_36 rfl dX6_copy_186 (fun H locs hP hS => ?_)
                                  refine lv_iinc (v := x6_32 + 1) (lv' := [(6, .int (x6_32 + 1)), (0, .ref (a 0)), (3, .int x3), (4, .int x4), (5, .int x5)]) hx hb dX6_copy_187 hl (k := 0) rfl rfl (by decide) rfl (fun ls hl => ?_)
                                  refine lv_goto (tgt := 158) hx hb dX6_copy_190 (by decide) ?_
                                  exact ih158 (x6_32 + 1) (mst σ_33 11 ((((40 * x3) + x4) + x6_32).toNatClampNeg) (σ_33 12 x6_32.toNatClampNeg)) _ _ _ h hP hS (lv_sub hl [0, 1, 2, 3, 4] rfl)
                            exact L_37 FU 0 σ_30 _ _ _ h hP hS (lv_sub hl [0, 1, 4, 5, 6] rfl)
                          · rw [if_neg c_31] at h
                            refine lv_aload_n hx hb dX6_copy_128 rfl (lv_at hl 1 rfl) ?_
                            refine gf_X6_43 (o := 0) (o2 := 12) C0 hb hP (rfl : kM 0 = 6) rfl dX6_copy_129 ?_
                            refine lv_iload hx hb dX6_copy_132 (lv_at hl 0 rfl) ?_
                            refine lv_aload_n hx hb dX6_copy_134 rfl (lv_at hl 1 rfl) ?_
                            refine gf_X6_40 (o := 0) (o2 := 11) C0 hb hP (rfl : kM 0 = 6) rfl dX6_copy_135 ?_
                            refine lv_bipush (v := 40) hx hb dX6_copy_138 (by decide) ?_
                            refine lv_iload_n hx hb dX6_copy_140 rfl (lv_at hl 2 rfl) ?_
                            refine lv_imul hx hb dX6_copy_141 ?_
                            refine lv_iload_n hx hb dX6_copy_142 rfl (lv_at hl 3 rfl) ?_
                            refine lv_iadd hx hb dX6_copy_143 ?_
                            refine lv_iload hx hb dX6_copy_144 (lv_at hl 0 rfl) ?_
                            refine lv_iadd hx hb dX6_copy_146 ?_
                            obtain ⟨hi_38, h⟩ := chk_s h
                            refine m_iald (o := 11) (N := 160) (i := ((40 * x1) + x2) + x6_29) (j := (((40 * x1) + x2) + x6_29).toNatClampNeg) C0 hb hP (rfl : kM 11 = 100 + 160) (by decide) hi_38 rfl dX6_copy_147 ?_
                            obtain ⟨hi_39, h⟩ := chk_s h
                            refine m_iast (o := 12) (N := 40) (i := x6_29) (j := x6_29.toNatClampNeg) C0 hb hP hS (rfl : kM 12 = 100 + 40) (by decide) hi_39 rfl dX6_copy_148 (fun H locs hP hS => ?_)
                            refine lv_iinc (v := x6_29 + 1) (lv' := [(6, .int (x6_29 + 1)), (0, .ref (a 0)), (1, .int x1), (2, .int x2), (3, .int x3), (4, .int x4), (5, .int x5)]) hx hb dX6_copy_149 hl (k := 0) rfl rfl (by decide) rfl (fun ls hl => ?_)
                            refine lv_goto (tgt := 121) hx hb dX6_copy_152 (by decide) ?_
                            exact ih121 (x6_29 + 1) (mst σ_30 12 x6_29.toNatClampNeg (σ_30 11 ((((40 * x1) + x2) + x6_29).toNatClampNeg))) _ _ _ h hP hS (lv_sub hl [0, 1, 2, 3, 4, 5, 6] rfl)
                      exact L_40 FU 0 σ _ _ _ h hP hS (lv_sub hl [0, 1, 2, 3, 4, 5, 6] rfl)
                    · rw [if_neg c_28] at h
                      refine lv_aload_n hx hb dX6_copy_111 rfl (lv_at hl 0 rfl) ?_
                      refine lv_ldc hx hb hown (hts _ wk_X6_46) dX6_copy_112 ?_
                      obtain ⟨q_41, hq_42, h⟩ := bd_s h
                      refine m_cVi (As := [.int (-1000001)]) (rest := []) (o := 0) (ci := 6) C0 hb hml hl.1 wm_X6_75 md_X6_finds (k_X6_finds l G a σ hj (-1000001) q_41 hq_42) rfl rfl ⟨(Nat.le_of_ble_eq_true rfl), (Nat.le_of_ble_eq_true rfl)⟩ hP hS (rfl : kM 0 = 6) (by decide) rfl rfl rfl (Nat.le_of_ble_eq_true rfl) dX6_copy_114 (fun H locs hP hS => ?_)
                      exact m_ri hx hb hr hlk hP hS (Option.some.inj h) dX6_copy_117
          · rw [if_neg c_13] at h
            refine lv_aload_n hx hb dX6_copy_62 rfl (lv_at hl 0 rfl) ?_
            refine lv_ldcw hx hb hown (hts _ wk_X6_330) dX6_copy_63 ?_
            obtain ⟨q_43, hq_44, h⟩ := bd_s h
            refine m_cVi (As := [.int (-1000003)]) (rest := []) (o := 0) (ci := 6) C0 hb hml hl.1 wm_X6_75 md_X6_finds (k_X6_finds l G a σ hj (-1000003) q_43 hq_44) rfl rfl ⟨(Nat.le_of_ble_eq_true rfl), (Nat.le_of_ble_eq_true rfl)⟩ hP hS (rfl : kM 0 = 6) (by decide) rfl rfl rfl (Nat.le_of_ble_eq_true rfl) dX6_copy_66 (fun H locs hP hS => ?_)
            exact m_ri hx hb hr hlk hP hS (Option.some.inj h) dX6_copy_69
        · rw [if_pos c_10] at h
          refine lv_aload_n hx hb dX6_copy_39 rfl (lv_at hl 0 rfl) ?_
          refine lv_ldcw hx hb hown (hts _ wk_X6_326) dX6_copy_40 ?_
          obtain ⟨q_45, hq_46, h⟩ := bd_s h
          refine m_cVi (As := [.int (-1000006)]) (rest := []) (o := 0) (ci := 6) C0 hb hml hl.1 wm_X6_75 md_X6_finds (k_X6_finds l G a σ hj (-1000006) q_45 hq_46) rfl rfl ⟨(Nat.le_of_ble_eq_true rfl), (Nat.le_of_ble_eq_true rfl)⟩ hP hS (rfl : kM 0 = 6) (by decide) rfl rfl rfl (Nat.le_of_ble_eq_true rfl) dX6_copy_43 (fun H locs hP hS => ?_)
          exact m_ri hx hb hr hlk hP hS (Option.some.inj h) dX6_copy_46
    · rw [if_pos c_4] at h
      refine lv_aload_n hx hb dX6_copy_14 rfl (lv_at hl 0 rfl) ?_
      refine lv_ldc hx hb hown (hts _ wk_X6_46) dX6_copy_15 ?_
      obtain ⟨q_47, hq_48, h⟩ := bd_s h
      refine m_cVi (As := [.int (-1000001)]) (rest := []) (o := 0) (ci := 6) C0 hb hml hl.1 wm_X6_75 md_X6_finds (k_X6_finds l G a σ hj (-1000001) q_47 hq_48) rfl rfl ⟨(Nat.le_of_ble_eq_true rfl), (Nat.le_of_ble_eq_true rfl)⟩ hP hS (rfl : kM 0 = 6) (by decide) rfl rfl rfl (Nat.le_of_ble_eq_true rfl) dX6_copy_17 (fun H locs hP hS => ?_)
      exact m_ri hx hb hr hlk hP hS (Option.some.inj h) dX6_copy_20
def f_X6_load_B18 (x1 : Int32) (rec18 : Int32 → Mem → Option (Int32 × Mem)) (x3_4 : Int32) (σ_5 : Mem) : Option (Int32 × Mem) := (chk x1 4 (if (σ_5 10 x1.toNatClampNeg) ≤ x3_4 then some (x3_4, σ_5) else (if 8 ≤ x3_4 then some (x3_4, σ_5) else (chk ((40 * x1) + x3_4) 160 (if (f_X6_isOpening (σ_5 11 (((40 * x1) + x3_4).toNatClampNeg))) = 0 then some (x3_4, σ_5) else (chk ((40 * x1) + x3_4) 160 (chk (4 + x3_4) 74 (rec18 (x3_4 + 1) (mst σ_5 1 ((4 + x3_4).toNatClampNeg) (σ_5 11 (((40 * x1) + x3_4).toNatClampNeg)))))))))))
def f_X6_load (x1 : Int32) (σ : Mem) : Option (Int32 × Mem) := ((f_X6_wrong x1 σ).bind fun q_1 => (if q_1 = 0 then (it2 (f_X6_load_B18 x1) FU 0 σ) else ((f_X6_finds q_1 σ).bind fun q_14 => some (q_14.1, q_14.2))))
set_option maxHeartbeats 4000000 in
set_option maxRecDepth 100000 in
theorem k_X6_load (l : Launch) (G : GG) (a : Nat → Nat) (σ : Mem) (hj : INJ nM a) (x1 : Int32) (q : Int32 × Mem) (h : f_X6_load x1 σ = some q) : Met l yX6_load (Cond.code yX6_load cX6_load 4 (some .int) :: TB) ({ frames := 3, cells := 0, slots := 0, locals := 66 } : Room) (PA G kM nM a σ [.ref (a 0), .int x1]) (QI G kM nM a q) 0 0 (AW nM a) := by
  refine M_ofW (by decide) hj kM_lt (Nat.le_of_ble_eq_true rfl) (fun p e s m below meth c ls C0 hb hml hr hlk hP hS hl => ?_)
  have C0 : CT p s _ m RX6 G kM nM a := C0
  have hx := C0.1
  have hts := C0.2.1
  have hown := C0.2.2.1
  have hl : lv_has ls 4 [(0, .ref (a 0)), (1, .int x1)] := hl
  unfold f_X6_load at h
  refine lv_aload_n hx hb dX6_load_0 rfl (lv_at hl 0 rfl) ?_
  refine lv_iload_n hx hb dX6_load_1 rfl (lv_at hl 1 rfl) ?_
  obtain ⟨q_1, hq_2, h⟩ := bd_s h
  refine m_rVi (As := [.int x1]) (rest := []) (o := 0) (ci := 6) C0 hb hml hl.1 wm_X6_208 md_X6_wrong (k_X6_wrong l G a σ hj x1 q_1 hq_2) rfl rfl ⟨(Nat.le_of_ble_eq_true rfl), (Nat.le_of_ble_eq_true rfl)⟩ hP hS (rfl : kM 0 = 6) (by decide) rfl rfl rfl (Nat.le_of_ble_eq_true rfl) dX6_load_2 ?_
  refine lv_istore_n (lv' := [(2, .int q_1), (0, .ref (a 0)), (1, .int x1)]) hx hb dX6_load_5 rfl hl (by decide) rfl (fun ls hl => ?_)
  refine lv_iload_n hx hb dX6_load_6 rfl (lv_at hl 0 rfl) ?_
  refine lv_if_eq (tgt := 16) hx hb dX6_load_7 (by decide) (fun (c_3 : q_1 = 0) => ?_) (fun (c_3 : ¬ q_1 = 0) => ?_)
  · rw [if_pos c_3] at h
    refine lv_iconst (v := 0) hx hb dX6_load_16 (by decide) ?_
    refine lv_istore_n (lv' := [(3, .int 0), (2, .int q_1), (0, .ref (a 0)), (1, .int x1)]) hx hb dX6_load_17 rfl hl (by decide) rfl (fun ls hl => ?_)
    have L_13 : ∀ (fu18 : Nat) (x3_4 : Int32) (σ_5 : Mem) (H : Heap) (locs : List Loc) (ls : Array Slot), it2 (f_X6_load_B18 x1) fu18 x3_4 σ_5 = some q → HP G kM nM a σ_5 H → va_S (AW nM a) s.heap H locs → lv_has ls 4 [(3, .int x3_4), (0, .ref (a 0)), (1, .int x1)] → W p l e ({ frames := 3, cells := 0, slots := 0, locals := 66 } : Room) s m ([.ref (a 0), .int x1] : List Value).toArray below meth c H locs 0 0 (MQ below (QI G kM nM a q) ([.ref (a 0), .int x1] : List Value).toArray s 0 0 (AW nM a)) (F0 m 18 ls []) := by
      intro fu18
      induction fu18 with
      | zero =>
        intro x3_4 σ_5 H locs ls h
        cases h
      | succ fu18 ih18 =>
        intro x3_4 σ_5 H locs ls h hP hS hl
        replace h : (f_X6_load_B18 x1) (it2 (f_X6_load_B18 x1) fu18) x3_4 σ_5 = some q := h
        generalize it2 (f_X6_load_B18 x1) fu18 = rec18 at h ih18
        unfold f_X6_load_B18 at h
        refine lv_iload_n hx hb dX6_load_18 rfl (lv_at hl 0 rfl) ?_
        refine lv_aload_n hx hb dX6_load_19 rfl (lv_at hl 1 rfl) ?_
        refine gf_X6_37 (o := 0) (o2 := 10) C0 hb hP (rfl : kM 0 = 6) rfl dX6_load_20 ?_
        refine lv_iload_n hx hb dX6_load_23 rfl (lv_at hl 2 rfl) ?_
        obtain ⟨hi_6, h⟩ := chk_s h
        refine m_iald (o := 10) (N := 4) (i := x1) (j := x1.toNatClampNeg) C0 hb hP (rfl : kM 10 = 100 + 4) (by decide) hi_6 rfl dX6_load_24 ?_
        refine lv_icmp_ge (tgt := 76) hx hb dX6_load_25 (by decide) (fun (c_7 : (σ_5 10 x1.toNatClampNeg) ≤ x3_4) => ?_) (fun (c_7 : ¬ (σ_5 10 x1.toNatClampNeg) ≤ x3_4) => ?_)
        · rw [if_pos c_7] at h
          refine lv_iload_n hx hb dX6_load_76 rfl (lv_at hl 0 rfl) ?_
          exact m_ri hx hb hr hlk hP hS (Option.some.inj h) dX6_load_77
        · rw [if_neg c_7] at h
          refine lv_iload_n hx hb dX6_load_28 rfl (lv_at hl 0 rfl) ?_
          refine lv_bipush (v := 8) hx hb dX6_load_29 (by decide) ?_
          refine lv_icmp_ge (tgt := 76) hx hb dX6_load_31 (by decide) (fun (c_8 : 8 ≤ x3_4) => ?_) (fun (c_8 : ¬ 8 ≤ x3_4) => ?_)
          · rw [if_pos c_8] at h
            refine lv_iload_n hx hb dX6_load_76 rfl (lv_at hl 0 rfl) ?_
            exact m_ri hx hb hr hlk hP hS (Option.some.inj h) dX6_load_77
          · rw [if_neg c_8] at h
            refine lv_aload_n hx hb dX6_load_34 rfl (lv_at hl 1 rfl) ?_
            refine gf_X6_40 (o := 0) (o2 := 11) C0 hb hP (rfl : kM 0 = 6) rfl dX6_load_35 ?_
            refine lv_bipush (v := 40) hx hb dX6_load_38 (by decide) ?_
            refine lv_iload_n hx hb dX6_load_40 rfl (lv_at hl 2 rfl) ?_
            refine lv_imul hx hb dX6_load_41 ?_
            refine lv_iload_n hx hb dX6_load_42 rfl (lv_at hl 0 rfl) ?_
            refine lv_iadd hx hb dX6_load_43 ?_
            obtain ⟨hi_9, h⟩ := chk_s h
            refine m_iald (o := 11) (N := 160) (i := (40 * x1) + x3_4) (j := ((40 * x1) + x3_4).toNatClampNeg) C0 hb hP (rfl : kM 11 = 100 + 160) (by decide) hi_9 rfl dX6_load_44 ?_
            refine m_pSi (As := [.int (σ_5 11 (((40 * x1) + x3_4).toNatClampNeg))]) (rest := []) C0.z hb hml hl.1 wm_X6_82 md_X6_isOpening (k_X6_isOpening l (σ_5 11 (((40 * x1) + x3_4).toNatClampNeg))) rfl rfl ⟨(Nat.le_of_ble_eq_true rfl), (Nat.le_of_ble_eq_true rfl)⟩ rfl rfl (Nat.le_of_ble_eq_true rfl) dX6_load_45 ?_
            refine lv_if_eq (tgt := 76) hx hb dX6_load_48 (by decide) (fun (c_10 : (f_X6_isOpening (σ_5 11 (((40 * x1) + x3_4).toNatClampNeg))) = 0) => ?_) (fun (c_10 : ¬ (f_X6_isOpening (σ_5 11 (((40 * x1) + x3_4).toNatClampNeg))) = 0) => ?_)
            · rw [if_pos c_10] at h
              refine lv_iload_n hx hb dX6_load_76 rfl (lv_at hl 0 rfl) ?_
              exact m_ri hx hb hr hlk hP hS (Option.some.inj h) dX6_load_77
            · rw [if_neg c_10] at h
              refine lv_aload_n hx hb dX6_load_51 rfl (lv_at hl 1 rfl) ?_
              refine gf_X6_7 (o := 0) (o2 := 1) C0 hb hP (rfl : kM 0 = 6) rfl dX6_load_52 ?_
              refine lv_iconst (v := 4) hx hb dX6_load_55 (by decide) ?_
              refine lv_iload_n hx hb dX6_load_56 rfl (lv_at hl 0 rfl) ?_
              refine lv_iadd hx hb dX6_load_57 ?_
              refine lv_aload_n hx hb dX6_load_58 rfl (lv_at hl 1 rfl) ?_
              refine gf_X6_40 (o := 0) (o2 := 11) C0 hb hP (rfl : kM 0 = 6) rfl dX6_load_59 ?_
              refine lv_bipush (v := 40) hx hb dX6_load_62 (by decide) ?_
              refine lv_iload_n hx hb dX6_load_64 rfl (lv_at hl 2 rfl) ?_
              refine lv_imul hx hb dX6_load_65 ?_
              refine lv_iload_n hx hb dX6_load_66 rfl (lv_at hl 0 rfl) ?_
              refine lv_iadd hx hb dX6_load_67 ?_
              obtain ⟨hi_11, h⟩ := chk_s h
              refine m_iald (o := 11) (N := 160) (i := (40 * x1) + x3_4) (j := ((40 * x1) + x3_4).toNatClampNeg) C0 hb hP (rfl : kM 11 = 100 + 160) (by decide) hi_11 rfl dX6_load_68 ?_
              obtain ⟨hi_12, h⟩ := chk_s h
              refine m_iast (o := 1) (N := 74) (i := 4 + x3_4) (j := (4 + x3_4).toNatClampNeg) C0 hb hP hS (rfl : kM 1 = 100 + 74) (by decide) hi_12 rfl dX6_load_69 (fun H locs hP hS => ?_)
              refine lv_iinc (v := x3_4 + 1) (lv' := [(3, .int (x3_4 + 1)), (0, .ref (a 0)), (1, .int x1)]) hx hb dX6_load_70 hl (k := 0) rfl rfl (by decide) rfl (fun ls hl => ?_)
              refine lv_goto (tgt := 18) hx hb dX6_load_73 (by decide) ?_
              exact ih18 (x3_4 + 1) (mst σ_5 1 ((4 + x3_4).toNatClampNeg) (σ_5 11 (((40 * x1) + x3_4).toNatClampNeg))) _ _ _ h hP hS (lv_sub hl [0, 1, 2] rfl)
    exact L_13 FU 0 σ _ _ _ h hP hS (lv_sub hl [0, 2, 3] rfl)
  · rw [if_neg c_3] at h
    refine lv_aload_n hx hb dX6_load_10 rfl (lv_at hl 1 rfl) ?_
    refine lv_iload_n hx hb dX6_load_11 rfl (lv_at hl 0 rfl) ?_
    obtain ⟨q_14, hq_15, h⟩ := bd_s h
    refine m_cVi (As := [.int q_1]) (rest := []) (o := 0) (ci := 6) C0 hb hml hl.1 wm_X6_75 md_X6_finds (k_X6_finds l G a σ hj q_1 q_14 hq_15) rfl rfl ⟨(Nat.le_of_ble_eq_true rfl), (Nat.le_of_ble_eq_true rfl)⟩ hP hS (rfl : kM 0 = 6) (by decide) rfl rfl rfl (Nat.le_of_ble_eq_true rfl) dX6_load_12 (fun H locs hP hS => ?_)
    exact m_ri hx hb hr hlk hP hS (Option.some.inj h) dX6_load_15
def f_X6_judge_B18 (x1 : Int32) (σ : Mem) (rec18 : Int32 → Option (Int32 × Mem)) (x3_4 : Int32) : Option (Int32 × Mem) := (chk x1 4 (if (σ 10 x1.toNatClampNeg) ≤ x3_4 then some (0, σ) else (if 12 ≤ x3_4 then some (1 + x3_4, σ) else (chk ((40 * x1) + x3_4) 160 (chk (12 + x3_4) 74 (if (σ 11 (((40 * x1) + x3_4).toNatClampNeg)) = (σ 1 ((12 + x3_4).toNatClampNeg)) then (rec18 (x3_4 + 1)) else some (1 + x3_4, σ)))))))
def f_X6_judge (x1 : Int32) (σ : Mem) : Option (Int32 × Mem) := ((f_X6_wrong x1 σ).bind fun q_1 => (if q_1 = 0 then (it1 (f_X6_judge_B18 x1 σ) FU 0) else ((f_X6_finds q_1 σ).bind fun q_12 => some (q_12.1, q_12.2))))
set_option maxHeartbeats 4000000 in
set_option maxRecDepth 100000 in
theorem k_X6_judge (l : Launch) (G : GG) (a : Nat → Nat) (σ : Mem) (hj : INJ nM a) (x1 : Int32) (q : Int32 × Mem) (h : f_X6_judge x1 σ = some q) : Met l yX6_judge (Cond.code yX6_judge cX6_judge 4 (some .int) :: TB) ({ frames := 3, cells := 0, slots := 0, locals := 66 } : Room) (PA G kM nM a σ [.ref (a 0), .int x1]) (QI G kM nM a q) 0 0 (AW nM a) := by
  refine M_ofW (by decide) hj kM_lt (Nat.le_of_ble_eq_true rfl) (fun p e s m below meth c ls C0 hb hml hr hlk hP hS hl => ?_)
  have C0 : CT p s _ m RX6 G kM nM a := C0
  have hx := C0.1
  have hts := C0.2.1
  have hown := C0.2.2.1
  have hl : lv_has ls 4 [(0, .ref (a 0)), (1, .int x1)] := hl
  unfold f_X6_judge at h
  refine lv_aload_n hx hb dX6_judge_0 rfl (lv_at hl 0 rfl) ?_
  refine lv_iload_n hx hb dX6_judge_1 rfl (lv_at hl 1 rfl) ?_
  obtain ⟨q_1, hq_2, h⟩ := bd_s h
  refine m_rVi (As := [.int x1]) (rest := []) (o := 0) (ci := 6) C0 hb hml hl.1 wm_X6_208 md_X6_wrong (k_X6_wrong l G a σ hj x1 q_1 hq_2) rfl rfl ⟨(Nat.le_of_ble_eq_true rfl), (Nat.le_of_ble_eq_true rfl)⟩ hP hS (rfl : kM 0 = 6) (by decide) rfl rfl rfl (Nat.le_of_ble_eq_true rfl) dX6_judge_2 ?_
  refine lv_istore_n (lv' := [(2, .int q_1), (0, .ref (a 0)), (1, .int x1)]) hx hb dX6_judge_5 rfl hl (by decide) rfl (fun ls hl => ?_)
  refine lv_iload_n hx hb dX6_judge_6 rfl (lv_at hl 0 rfl) ?_
  refine lv_if_eq (tgt := 16) hx hb dX6_judge_7 (by decide) (fun (c_3 : q_1 = 0) => ?_) (fun (c_3 : ¬ q_1 = 0) => ?_)
  · rw [if_pos c_3] at h
    refine lv_iconst (v := 0) hx hb dX6_judge_16 (by decide) ?_
    refine lv_istore_n (lv' := [(3, .int 0), (2, .int q_1), (0, .ref (a 0)), (1, .int x1)]) hx hb dX6_judge_17 rfl hl (by decide) rfl (fun ls hl => ?_)
    have L_11 : ∀ (fu18 : Nat) (x3_4 : Int32) (H : Heap) (locs : List Loc) (ls : Array Slot), it1 (f_X6_judge_B18 x1 σ) fu18 x3_4 = some q → HP G kM nM a σ H → va_S (AW nM a) s.heap H locs → lv_has ls 4 [(3, .int x3_4), (0, .ref (a 0)), (1, .int x1)] → W p l e ({ frames := 3, cells := 0, slots := 0, locals := 66 } : Room) s m ([.ref (a 0), .int x1] : List Value).toArray below meth c H locs 0 0 (MQ below (QI G kM nM a q) ([.ref (a 0), .int x1] : List Value).toArray s 0 0 (AW nM a)) (F0 m 18 ls []) := by
      intro fu18
      induction fu18 with
      | zero =>
        intro x3_4 H locs ls h
        cases h
      | succ fu18 ih18 =>
        intro x3_4 H locs ls h hP hS hl
        replace h : (f_X6_judge_B18 x1 σ) (it1 (f_X6_judge_B18 x1 σ) fu18) x3_4 = some q := h
        generalize it1 (f_X6_judge_B18 x1 σ) fu18 = rec18 at h ih18
        unfold f_X6_judge_B18 at h
        refine lv_iload_n hx hb dX6_judge_18 rfl (lv_at hl 0 rfl) ?_
        refine lv_aload_n hx hb dX6_judge_19 rfl (lv_at hl 1 rfl) ?_
        refine gf_X6_37 (o := 0) (o2 := 10) C0 hb hP (rfl : kM 0 = 6) rfl dX6_judge_20 ?_
        refine lv_iload_n hx hb dX6_judge_23 rfl (lv_at hl 2 rfl) ?_
        obtain ⟨hi_5, h⟩ := chk_s h
        refine m_iald (o := 10) (N := 4) (i := x1) (j := x1.toNatClampNeg) C0 hb hP (rfl : kM 10 = 100 + 4) (by decide) hi_5 rfl dX6_judge_24 ?_
        refine lv_icmp_ge (tgt := 67) hx hb dX6_judge_25 (by decide) (fun (c_6 : (σ 10 x1.toNatClampNeg) ≤ x3_4) => ?_) (fun (c_6 : ¬ (σ 10 x1.toNatClampNeg) ≤ x3_4) => ?_)
        · rw [if_pos c_6] at h
          refine lv_iconst (v := 0) hx hb dX6_judge_67 (by decide) ?_
          exact m_ri hx hb hr hlk hP hS (Option.some.inj h) dX6_judge_68
        · rw [if_neg c_6] at h
          refine lv_iload_n hx hb dX6_judge_28 rfl (lv_at hl 0 rfl) ?_
          refine lv_bipush (v := 12) hx hb dX6_judge_29 (by decide) ?_
          refine lv_icmp_ge (tgt := 57) hx hb dX6_judge_31 (by decide) (fun (c_7 : 12 ≤ x3_4) => ?_) (fun (c_7 : ¬ 12 ≤ x3_4) => ?_)
          · rw [if_pos c_7] at h
            refine lv_iconst (v := 1) hx hb dX6_judge_57 (by decide) ?_
            refine lv_iload_n hx hb dX6_judge_58 rfl (lv_at hl 0 rfl) ?_
            refine lv_iadd hx hb dX6_judge_59 ?_
            exact m_ri hx hb hr hlk hP hS (Option.some.inj h) dX6_judge_60
          · rw [if_neg c_7] at h
            refine lv_aload_n hx hb dX6_judge_34 rfl (lv_at hl 1 rfl) ?_
            refine gf_X6_40 (o := 0) (o2 := 11) C0 hb hP (rfl : kM 0 = 6) rfl dX6_judge_35 ?_
            refine lv_bipush (v := 40) hx hb dX6_judge_38 (by decide) ?_
            refine lv_iload_n hx hb dX6_judge_40 rfl (lv_at hl 2 rfl) ?_
            refine lv_imul hx hb dX6_judge_41 ?_
            refine lv_iload_n hx hb dX6_judge_42 rfl (lv_at hl 0 rfl) ?_
            refine lv_iadd hx hb dX6_judge_43 ?_
            obtain ⟨hi_8, h⟩ := chk_s h
            refine m_iald (o := 11) (N := 160) (i := (40 * x1) + x3_4) (j := ((40 * x1) + x3_4).toNatClampNeg) C0 hb hP (rfl : kM 11 = 100 + 160) (by decide) hi_8 rfl dX6_judge_44 ?_
            refine lv_aload_n hx hb dX6_judge_45 rfl (lv_at hl 1 rfl) ?_
            refine gf_X6_7 (o := 0) (o2 := 1) C0 hb hP (rfl : kM 0 = 6) rfl dX6_judge_46 ?_
            refine lv_bipush (v := 12) hx hb dX6_judge_49 (by decide) ?_
            refine lv_iload_n hx hb dX6_judge_51 rfl (lv_at hl 0 rfl) ?_
            refine lv_iadd hx hb dX6_judge_52 ?_
            obtain ⟨hi_9, h⟩ := chk_s h
            refine m_iald (o := 1) (N := 74) (i := 12 + x3_4) (j := (12 + x3_4).toNatClampNeg) C0 hb hP (rfl : kM 1 = 100 + 74) (by decide) hi_9 rfl dX6_judge_53 ?_
            refine lv_icmp_eq (tgt := 61) hx hb dX6_judge_54 (by decide) (fun (c_10 : (σ 11 (((40 * x1) + x3_4).toNatClampNeg)) = (σ 1 ((12 + x3_4).toNatClampNeg))) => ?_) (fun (c_10 : ¬ (σ 11 (((40 * x1) + x3_4).toNatClampNeg)) = (σ 1 ((12 + x3_4).toNatClampNeg))) => ?_)
            · rw [if_pos c_10] at h
              refine lv_iinc (v := x3_4 + 1) (lv' := [(3, .int (x3_4 + 1)), (0, .ref (a 0)), (1, .int x1)]) hx hb dX6_judge_61 hl (k := 0) rfl rfl (by decide) rfl (fun ls hl => ?_)
              refine lv_goto (tgt := 18) hx hb dX6_judge_64 (by decide) ?_
              exact ih18 (x3_4 + 1) _ _ _ h hP hS (lv_sub hl [0, 1, 2] rfl)
            · rw [if_neg c_10] at h
              refine lv_iconst (v := 1) hx hb dX6_judge_57 (by decide) ?_
              refine lv_iload_n hx hb dX6_judge_58 rfl (lv_at hl 0 rfl) ?_
              refine lv_iadd hx hb dX6_judge_59 ?_
              exact m_ri hx hb hr hlk hP hS (Option.some.inj h) dX6_judge_60
    exact L_11 FU 0 _ _ _ h hP hS (lv_sub hl [0, 2, 3] rfl)
  · rw [if_neg c_3] at h
    refine lv_aload_n hx hb dX6_judge_10 rfl (lv_at hl 1 rfl) ?_
    refine lv_iload_n hx hb dX6_judge_11 rfl (lv_at hl 0 rfl) ?_
    obtain ⟨q_12, hq_13, h⟩ := bd_s h
    refine m_cVi (As := [.int q_1]) (rest := []) (o := 0) (ci := 6) C0 hb hml hl.1 wm_X6_75 md_X6_finds (k_X6_finds l G a σ hj q_1 q_12 hq_13) rfl rfl ⟨(Nat.le_of_ble_eq_true rfl), (Nat.le_of_ble_eq_true rfl)⟩ hP hS (rfl : kM 0 = 6) (by decide) rfl rfl rfl (Nat.le_of_ble_eq_true rfl) dX6_judge_12 (fun H locs hP hS => ?_)
    exact m_ri hx hb hr hlk hP hS (Option.some.inj h) dX6_judge_15
def f_X6_image_B2  (rec2 : Int32 → Mem → Option (Int32 × Mem)) (x1_1 : Int32) (σ_2 : Mem) : Option (Int32 × Mem) := (if 74 ≤ x1_1 then some (1, mst σ_2 0 5 1) else (chk x1_1 74 (chk x1_1 74 (rec2 (x1_1 + 1) (mst σ_2 2 x1_1.toNatClampNeg (σ_2 1 x1_1.toNatClampNeg))))))
def f_X6_image (σ : Mem) : Option (Int32 × Mem) := (it2 f_X6_image_B2 FU 0 σ)
set_option maxHeartbeats 4000000 in
set_option maxRecDepth 100000 in
theorem k_X6_image (l : Launch) (G : GG) (a : Nat → Nat) (σ : Mem) (hj : INJ nM a)  (q : Int32 × Mem) (h : f_X6_image σ = some q) : Met l yX6_image (Cond.code yX6_image cX6_image 2 (some .int) :: TB) ({ frames := 0, cells := 0, slots := 0, locals := 0 } : Room) (PA G kM nM a σ [.ref (a 0)]) (QI G kM nM a q) 0 0 (AW nM a) := by
  refine M_ofW (by decide) hj kM_lt (Nat.le_of_ble_eq_true rfl) (fun p e s m below meth c ls C0 hb hml hr hlk hP hS hl => ?_)
  have C0 : CT p s _ m RX6 G kM nM a := C0
  have hx := C0.1
  have hts := C0.2.1
  have hown := C0.2.2.1
  have hl : lv_has ls 2 [(0, .ref (a 0))] := hl
  unfold f_X6_image at h
  refine lv_iconst (v := 0) hx hb dX6_image_0 (by decide) ?_
  refine lv_istore_n (lv' := [(1, .int 0), (0, .ref (a 0))]) hx hb dX6_image_1 rfl hl (by decide) rfl (fun ls hl => ?_)
  have L_6 : ∀ (fu2 : Nat) (x1_1 : Int32) (σ_2 : Mem) (H : Heap) (locs : List Loc) (ls : Array Slot), it2 f_X6_image_B2 fu2 x1_1 σ_2 = some q → HP G kM nM a σ_2 H → va_S (AW nM a) s.heap H locs → lv_has ls 2 [(1, .int x1_1), (0, .ref (a 0))] → W p l e ({ frames := 0, cells := 0, slots := 0, locals := 0 } : Room) s m ([.ref (a 0)] : List Value).toArray below meth c H locs 0 0 (MQ below (QI G kM nM a q) ([.ref (a 0)] : List Value).toArray s 0 0 (AW nM a)) (F0 m 2 ls []) := by
    intro fu2
    induction fu2 with
    | zero =>
      intro x1_1 σ_2 H locs ls h
      cases h
    | succ fu2 ih2 =>
      intro x1_1 σ_2 H locs ls h hP hS hl
      replace h : f_X6_image_B2 (it2 f_X6_image_B2 fu2) x1_1 σ_2 = some q := h
      generalize it2 f_X6_image_B2 fu2 = rec2 at h ih2
      unfold f_X6_image_B2 at h
      refine lv_iload_n hx hb dX6_image_2 rfl (lv_at hl 0 rfl) ?_
      refine lv_bipush (v := 74) hx hb dX6_image_3 (by decide) ?_
      refine lv_icmp_ge (tgt := 26) hx hb dX6_image_5 (by decide) (fun (c_3 : 74 ≤ x1_1) => ?_) (fun (c_3 : ¬ 74 ≤ x1_1) => ?_)
      · rw [if_pos c_3] at h
        refine lv_aload_n hx hb dX6_image_26 rfl (lv_at hl 1 rfl) ?_
        refine lv_iconst (v := 1) hx hb dX6_image_27 (by decide) ?_
        refine pf_X6_338 (o := 0) C0 hb hP hS (rfl : kM 0 = 6) (Or.inr rfl) dX6_image_28 (fun H locs hP hS => ?_)
        refine lv_iconst (v := 1) hx hb dX6_image_31 (by decide) ?_
        exact m_ri hx hb hr hlk hP hS (Option.some.inj h) dX6_image_32
      · rw [if_neg c_3] at h
        refine lv_aload_n hx hb dX6_image_8 rfl (lv_at hl 1 rfl) ?_
        refine gf_X6_13 (o := 0) (o2 := 2) C0 hb hP (rfl : kM 0 = 6) rfl dX6_image_9 ?_
        refine lv_iload_n hx hb dX6_image_12 rfl (lv_at hl 0 rfl) ?_
        refine lv_aload_n hx hb dX6_image_13 rfl (lv_at hl 1 rfl) ?_
        refine gf_X6_7 (o := 0) (o2 := 1) C0 hb hP (rfl : kM 0 = 6) rfl dX6_image_14 ?_
        refine lv_iload_n hx hb dX6_image_17 rfl (lv_at hl 0 rfl) ?_
        obtain ⟨hi_4, h⟩ := chk_s h
        refine m_iald (o := 1) (N := 74) (i := x1_1) (j := x1_1.toNatClampNeg) C0 hb hP (rfl : kM 1 = 100 + 74) (by decide) hi_4 rfl dX6_image_18 ?_
        obtain ⟨hi_5, h⟩ := chk_s h
        refine m_iast (o := 2) (N := 74) (i := x1_1) (j := x1_1.toNatClampNeg) C0 hb hP hS (rfl : kM 2 = 100 + 74) (by decide) hi_5 rfl dX6_image_19 (fun H locs hP hS => ?_)
        refine lv_iinc (v := x1_1 + 1) (lv' := [(1, .int (x1_1 + 1)), (0, .ref (a 0))]) hx hb dX6_image_20 hl (k := 0) rfl rfl (by decide) rfl (fun ls hl => ?_)
        refine lv_goto (tgt := 2) hx hb dX6_image_23 (by decide) ?_
        exact ih2 (x1_1 + 1) (mst σ_2 2 x1_1.toNatClampNeg (σ_2 1 x1_1.toNatClampNeg)) _ _ _ h hP hS (lv_sub hl [0, 1] rfl)
  exact L_6 FU 0 σ _ _ _ h hP hS (lv_sub hl [0, 1] rfl)
def f_X6_undo_B16  (rec16 : Int32 → Mem → Option (Int32 × Mem)) (x1_2 : Int32) (σ_3 : Mem) : Option (Int32 × Mem) := (if 74 ≤ x1_2 then some (σ_3 1 0, σ_3) else (chk x1_2 74 (chk x1_2 74 (rec16 (x1_2 + 1) (mst σ_3 1 x1_2.toNatClampNeg (σ_3 2 x1_2.toNatClampNeg))))))
def f_X6_undo (σ : Mem) : Option (Int32 × Mem) := (if (σ 0 5) = 0 then ((f_X6_finds (-1000004) σ).bind fun q_8 => some (q_8.1, q_8.2)) else (it2 f_X6_undo_B16 FU 0 σ))
set_option maxHeartbeats 4000000 in
set_option maxRecDepth 100000 in
theorem k_X6_undo (l : Launch) (G : GG) (a : Nat → Nat) (σ : Mem) (hj : INJ nM a)  (q : Int32 × Mem) (h : f_X6_undo σ = some q) : Met l yX6_undo (Cond.code yX6_undo cX6_undo 2 (some .int) :: TB) ({ frames := 1, cells := 0, slots := 0, locals := 21 } : Room) (PA G kM nM a σ [.ref (a 0)]) (QI G kM nM a q) 0 0 (AW nM a) := by
  refine M_ofW (by decide) hj kM_lt (Nat.le_of_ble_eq_true rfl) (fun p e s m below meth c ls C0 hb hml hr hlk hP hS hl => ?_)
  have C0 : CT p s _ m RX6 G kM nM a := C0
  have hx := C0.1
  have hts := C0.2.1
  have hown := C0.2.2.1
  have hl : lv_has ls 2 [(0, .ref (a 0))] := hl
  unfold f_X6_undo at h
  refine lv_aload_n hx hb dX6_undo_0 rfl (lv_at hl 0 rfl) ?_
  refine gf_X6_338 (o := 0) C0 hb hP (rfl : kM 0 = 6) dX6_undo_1 ?_
  refine lv_if_ne (tgt := 14) hx hb dX6_undo_4 (by decide) (fun (c_1 : ¬ (σ 0 5) = 0) => ?_) (fun (c_1 : (σ 0 5) = 0) => ?_)
  · rw [if_neg c_1] at h
    refine lv_iconst (v := 0) hx hb dX6_undo_14 (by decide) ?_
    refine lv_istore_n (lv' := [(1, .int 0), (0, .ref (a 0))]) hx hb dX6_undo_15 rfl hl (by decide) rfl (fun ls hl => ?_)
    have L_7 : ∀ (fu16 : Nat) (x1_2 : Int32) (σ_3 : Mem) (H : Heap) (locs : List Loc) (ls : Array Slot), it2 f_X6_undo_B16 fu16 x1_2 σ_3 = some q → HP G kM nM a σ_3 H → va_S (AW nM a) s.heap H locs → lv_has ls 2 [(1, .int x1_2), (0, .ref (a 0))] → W p l e ({ frames := 1, cells := 0, slots := 0, locals := 21 } : Room) s m ([.ref (a 0)] : List Value).toArray below meth c H locs 0 0 (MQ below (QI G kM nM a q) ([.ref (a 0)] : List Value).toArray s 0 0 (AW nM a)) (F0 m 16 ls []) := by
      intro fu16
      induction fu16 with
      | zero =>
        intro x1_2 σ_3 H locs ls h
        cases h
      | succ fu16 ih16 =>
        intro x1_2 σ_3 H locs ls h hP hS hl
        replace h : f_X6_undo_B16 (it2 f_X6_undo_B16 fu16) x1_2 σ_3 = some q := h
        generalize it2 f_X6_undo_B16 fu16 = rec16 at h ih16
        unfold f_X6_undo_B16 at h
        refine lv_iload_n hx hb dX6_undo_16 rfl (lv_at hl 0 rfl) ?_
        refine lv_bipush (v := 74) hx hb dX6_undo_17 (by decide) ?_
        refine lv_icmp_ge (tgt := 40) hx hb dX6_undo_19 (by decide) (fun (c_4 : 74 ≤ x1_2) => ?_) (fun (c_4 : ¬ 74 ≤ x1_2) => ?_)
        · rw [if_pos c_4] at h
          refine lv_aload_n hx hb dX6_undo_40 rfl (lv_at hl 1 rfl) ?_
          refine gf_X6_7 (o := 0) (o2 := 1) C0 hb hP (rfl : kM 0 = 6) rfl dX6_undo_41 ?_
          refine lv_iconst (v := 0) hx hb dX6_undo_44 (by decide) ?_
          refine m_iald (o := 1) (N := 74) (i := 0) (j := 0) C0 hb hP (rfl : kM 1 = 100 + 74) (by decide) (show vp_in 0 74 by unfold vp_in; decide) (by decide) dX6_undo_45 ?_
          exact m_ri hx hb hr hlk hP hS (Option.some.inj h) dX6_undo_46
        · rw [if_neg c_4] at h
          refine lv_aload_n hx hb dX6_undo_22 rfl (lv_at hl 1 rfl) ?_
          refine gf_X6_7 (o := 0) (o2 := 1) C0 hb hP (rfl : kM 0 = 6) rfl dX6_undo_23 ?_
          refine lv_iload_n hx hb dX6_undo_26 rfl (lv_at hl 0 rfl) ?_
          refine lv_aload_n hx hb dX6_undo_27 rfl (lv_at hl 1 rfl) ?_
          refine gf_X6_13 (o := 0) (o2 := 2) C0 hb hP (rfl : kM 0 = 6) rfl dX6_undo_28 ?_
          refine lv_iload_n hx hb dX6_undo_31 rfl (lv_at hl 0 rfl) ?_
          obtain ⟨hi_5, h⟩ := chk_s h
          refine m_iald (o := 2) (N := 74) (i := x1_2) (j := x1_2.toNatClampNeg) C0 hb hP (rfl : kM 2 = 100 + 74) (by decide) hi_5 rfl dX6_undo_32 ?_
          obtain ⟨hi_6, h⟩ := chk_s h
          refine m_iast (o := 1) (N := 74) (i := x1_2) (j := x1_2.toNatClampNeg) C0 hb hP hS (rfl : kM 1 = 100 + 74) (by decide) hi_6 rfl dX6_undo_33 (fun H locs hP hS => ?_)
          refine lv_iinc (v := x1_2 + 1) (lv' := [(1, .int (x1_2 + 1)), (0, .ref (a 0))]) hx hb dX6_undo_34 hl (k := 0) rfl rfl (by decide) rfl (fun ls hl => ?_)
          refine lv_goto (tgt := 16) hx hb dX6_undo_37 (by decide) ?_
          exact ih16 (x1_2 + 1) (mst σ_3 1 x1_2.toNatClampNeg (σ_3 2 x1_2.toNatClampNeg)) _ _ _ h hP hS (lv_sub hl [0, 1] rfl)
    exact L_7 FU 0 σ _ _ _ h hP hS (lv_sub hl [0, 1] rfl)
  · rw [if_pos c_1] at h
    refine lv_aload_n hx hb dX6_undo_7 rfl (lv_at hl 0 rfl) ?_
    refine lv_ldc hx hb hown (hts _ wk_X6_169) dX6_undo_8 ?_
    obtain ⟨q_8, hq_9, h⟩ := bd_s h
    refine m_cVi (As := [.int (-1000004)]) (rest := []) (o := 0) (ci := 6) C0 hb hml hl.1 wm_X6_75 md_X6_finds (k_X6_finds l G a σ hj (-1000004) q_8 hq_9) rfl rfl ⟨(Nat.le_of_ble_eq_true rfl), (Nat.le_of_ble_eq_true rfl)⟩ hP hS (rfl : kM 0 = 6) (by decide) rfl rfl rfl (Nat.le_of_ble_eq_true rfl) dX6_undo_10 (fun H locs hP hS => ?_)
    exact m_ri hx hb hr hlk hP hS (Option.some.inj h) dX6_undo_13
def f_X6_tear (σ : Mem) : Int32 × Mem := (if (σ 0 5) = 0 then (0, mst σ 0 5 0) else (1, mst σ 0 5 0))
set_option maxHeartbeats 4000000 in
set_option maxRecDepth 100000 in
theorem k_X6_tear (l : Launch) (G : GG) (a : Nat → Nat) (σ : Mem) (hj : INJ nM a)  : Met l yX6_tear (Cond.code yX6_tear cX6_tear 2 (some .int) :: TB) ({ frames := 0, cells := 0, slots := 0, locals := 0 } : Room) (PA G kM nM a σ [.ref (a 0)]) (QI G kM nM a (f_X6_tear σ)) 0 0 (AW nM a) := by
  generalize h : f_X6_tear σ = q
  refine M_ofW (by decide) hj kM_lt (Nat.le_of_ble_eq_true rfl) (fun p e s m below meth c ls C0 hb hml hr hlk hP hS hl => ?_)
  have C0 : CT p s _ m RX6 G kM nM a := C0
  have hx := C0.1
  have hts := C0.2.1
  have hown := C0.2.2.1
  have hl : lv_has ls 2 [(0, .ref (a 0))] := hl
  unfold f_X6_tear at h
  refine lv_aload_n hx hb dX6_tear_0 rfl (lv_at hl 0 rfl) ?_
  refine gf_X6_338 (o := 0) C0 hb hP (rfl : kM 0 = 6) dX6_tear_1 ?_
  refine lv_if_eq (tgt := 11) hx hb dX6_tear_4 (by decide) (fun (c_1 : (σ 0 5) = 0) => ?_) (fun (c_1 : ¬ (σ 0 5) = 0) => ?_)
  · rw [if_pos c_1] at h
    refine lv_iconst (v := 0) hx hb dX6_tear_11 (by decide) ?_
    refine lv_istore_n (lv' := [(1, .int 0), (0, .ref (a 0))]) hx hb dX6_tear_12 rfl hl (by decide) rfl (fun ls hl => ?_)
    refine lv_aload_n hx hb dX6_tear_13 rfl (lv_at hl 1 rfl) ?_
    refine lv_iconst (v := 0) hx hb dX6_tear_14 (by decide) ?_
    refine pf_X6_338 (o := 0) C0 hb hP hS (rfl : kM 0 = 6) (Or.inl rfl) dX6_tear_15 (fun H locs hP hS => ?_)
    refine lv_iload_n hx hb dX6_tear_18 rfl (lv_at hl 0 rfl) ?_
    exact m_ri hx hb hr hlk hP hS h dX6_tear_19
  · rw [if_neg c_1] at h
    refine lv_iconst (v := 1) hx hb dX6_tear_7 (by decide) ?_
    refine lv_goto (tgt := 12) hx hb dX6_tear_8 (by decide) ?_
    refine lv_istore_n (lv' := [(1, .int 1), (0, .ref (a 0))]) hx hb dX6_tear_12 rfl hl (by decide) rfl (fun ls hl => ?_)
    refine lv_aload_n hx hb dX6_tear_13 rfl (lv_at hl 1 rfl) ?_
    refine lv_iconst (v := 0) hx hb dX6_tear_14 (by decide) ?_
    refine pf_X6_338 (o := 0) C0 hb hP hS (rfl : kM 0 = 6) (Or.inl rfl) dX6_tear_15 (fun H locs hP hS => ?_)
    refine lv_iload_n hx hb dX6_tear_18 rfl (lv_at hl 0 rfl) ?_
    exact m_ri hx hb hr hlk hP hS h dX6_tear_19
def f_X6_heldSpots_J28 (x1_1 : Int32) (x2_2 : Int32) (rec4 : Int32 → Int32 → Option (Int32)) (t_5 : Int32) : Option (Int32) := (rec4 (x1_1 + t_5) (x2_2 + 1))
def f_X6_heldSpots_B4 (σ : Mem) (rec4 : Int32 → Int32 → Option (Int32)) (x1_1 : Int32) (x2_2 : Int32) : Option (Int32) := (if 10 ≤ x2_2 then some x1_1 else (chk (64 + x2_2) 74 (f_X6_heldSpots_J28 x1_1 x2_2 rec4 (if (σ 1 ((64 + x2_2).toNatClampNeg)) < 0 then 0 else 1))))
def f_X6_heldSpots (σ : Mem) : Option (Int32) := (it2 (f_X6_heldSpots_B4 σ) FU 0 0)
set_option maxHeartbeats 4000000 in
set_option maxRecDepth 100000 in
theorem k_X6_heldSpots (l : Launch) (G : GG) (a : Nat → Nat) (σ : Mem) (hj : INJ nM a)  (q : Int32) (h : f_X6_heldSpots σ = some q) : Met l yX6_heldSpots (Cond.code yX6_heldSpots cX6_heldSpots 3 (some .int) :: TB) ({ frames := 0, cells := 0, slots := 0, locals := 0 } : Room) (PA G kM nM a σ [.ref (a 0)]) (SI q) 0 0 NF := by
  refine M_ofW (by decide) hj kM_lt (Nat.le_of_ble_eq_true rfl) (fun p e s m below meth c ls C0 hb hml hr hlk hP hS hl => ?_)
  have C0 : CT p s _ m RX6 G kM nM a := C0
  have hx := C0.1
  have hts := C0.2.1
  have hown := C0.2.2.1
  have hl : lv_has ls 3 [(0, .ref (a 0))] := hl
  unfold f_X6_heldSpots at h
  refine lv_iconst (v := 0) hx hb dX6_heldSpots_0 (by decide) ?_
  refine lv_istore_n (lv' := [(1, .int 0), (0, .ref (a 0))]) hx hb dX6_heldSpots_1 rfl hl (by decide) rfl (fun ls hl => ?_)
  refine lv_iconst (v := 0) hx hb dX6_heldSpots_2 (by decide) ?_
  refine lv_istore_n (lv' := [(2, .int 0), (1, .int 0), (0, .ref (a 0))]) hx hb dX6_heldSpots_3 rfl hl (by decide) rfl (fun ls hl => ?_)
  have L_8 : ∀ (fu4 : Nat) (x1_1 : Int32) (x2_2 : Int32) (ls : Array Slot), it2 (f_X6_heldSpots_B4 σ) fu4 x1_1 x2_2 = some q → lv_has ls 3 [(2, .int x2_2), (1, .int x1_1), (0, .ref (a 0))] → W p l e ({ frames := 0, cells := 0, slots := 0, locals := 0 } : Room) s m ([.ref (a 0)] : List Value).toArray below meth c s.heap [] 0 0 (MQ below (SI q) ([.ref (a 0)] : List Value).toArray s 0 0 NF) (F0 m 4 ls []) := by
    intro fu4
    induction fu4 with
    | zero =>
      intro x1_1 x2_2 ls h
      cases h
    | succ fu4 ih4 =>
      intro x1_1 x2_2 ls h hl
      replace h : (f_X6_heldSpots_B4 σ) (it2 (f_X6_heldSpots_B4 σ) fu4) x1_1 x2_2 = some q := h
      generalize it2 (f_X6_heldSpots_B4 σ) fu4 = rec4 at h ih4
      unfold f_X6_heldSpots_B4 at h
      refine lv_iload_n hx hb dX6_heldSpots_4 rfl (lv_at hl 0 rfl) ?_
      refine lv_bipush (v := 10) hx hb dX6_heldSpots_5 (by decide) ?_
      refine lv_icmp_ge (tgt := 36) hx hb dX6_heldSpots_7 (by decide) (fun (c_3 : 10 ≤ x2_2) => ?_) (fun (c_3 : ¬ 10 ≤ x2_2) => ?_)
      · rw [if_pos c_3] at h
        refine lv_iload_n hx hb dX6_heldSpots_36 rfl (lv_at hl 1 rfl) ?_
        exact m_si hx hb hr hlk (Option.some.inj h) dX6_heldSpots_37
      · rw [if_neg c_3] at h
        refine lv_iload_n hx hb dX6_heldSpots_10 rfl (lv_at hl 1 rfl) ?_
        refine lv_aload_n hx hb dX6_heldSpots_11 rfl (lv_at hl 2 rfl) ?_
        refine gf_X6_7 (o := 0) (o2 := 1) C0 hb hP (rfl : kM 0 = 6) rfl dX6_heldSpots_12 ?_
        refine lv_bipush (v := 64) hx hb dX6_heldSpots_15 (by decide) ?_
        refine lv_iload_n hx hb dX6_heldSpots_17 rfl (lv_at hl 0 rfl) ?_
        refine lv_iadd hx hb dX6_heldSpots_18 ?_
        obtain ⟨hi_4, h⟩ := chk_s h
        refine m_iald (o := 1) (N := 74) (i := 64 + x2_2) (j := (64 + x2_2).toNatClampNeg) C0 hb hP (rfl : kM 1 = 100 + 74) (by decide) hi_4 rfl dX6_heldSpots_19 ?_
        have J_6 : ∀ (t_5 : Int32) (ls : Array Slot), f_X6_heldSpots_J28 x1_1 x2_2 rec4 t_5 = some q → lv_has ls 3 [(2, .int x2_2), (0, .ref (a 0))] → W p l e ({ frames := 0, cells := 0, slots := 0, locals := 0 } : Room) s m ([.ref (a 0)] : List Value).toArray below meth c s.heap [] 0 0 (MQ below (SI q) ([.ref (a 0)] : List Value).toArray s 0 0 NF) (F0 m 28 ls [.int t_5, .int x1_1]) := by
          intro t_5 ls h hl
          unfold f_X6_heldSpots_J28 at h
          refine lv_iadd hx hb dX6_heldSpots_28 ?_
          refine lv_istore_n (lv' := [(1, .int (x1_1 + t_5)), (2, .int x2_2), (0, .ref (a 0))]) hx hb dX6_heldSpots_29 rfl hl (by decide) rfl (fun ls hl => ?_)
          refine lv_iinc (v := x2_2 + 1) (lv' := [(2, .int (x2_2 + 1)), (1, .int (x1_1 + t_5)), (0, .ref (a 0))]) hx hb dX6_heldSpots_30 hl (k := 1) rfl rfl (by decide) rfl (fun ls hl => ?_)
          refine lv_goto (tgt := 4) hx hb dX6_heldSpots_33 (by decide) ?_
          exact ih4 (x1_1 + t_5) (x2_2 + 1) _ h (lv_sub hl [0, 1, 2] rfl)
        refine lv_if_lt (tgt := 27) hx hb dX6_heldSpots_20 (by decide) (fun (c_7 : (σ 1 ((64 + x2_2).toNatClampNeg)) < 0) => ?_) (fun (c_7 : ¬ (σ 1 ((64 + x2_2).toNatClampNeg)) < 0) => ?_)
        · rw [if_pos c_7] at h
          refine lv_iconst (v := 0) hx hb dX6_heldSpots_27 (by decide) ?_
          exact J_6 0 _ h (lv_sub hl [0, 2] rfl)
        · rw [if_neg c_7] at h
          refine lv_iconst (v := 1) hx hb dX6_heldSpots_23 (by decide) ?_
          refine lv_goto (tgt := 28) hx hb dX6_heldSpots_24 (by decide) ?_
          exact J_6 1 _ h (lv_sub hl [0, 2] rfl)
  exact L_8 FU 0 0 _ h (lv_sub hl [0, 1, 2] rfl)
def f_X6_count (x1 : Int32) (σ : Mem) : Option (Int32 × Mem) := (if x1 = 0 then some (σ 1 0, σ) else (if x1 = 1 then some (σ 1 1, σ) else (if x1 = 2 then ((f_X6_knowing σ).bind fun q_4 => ((f_X6_ones q_4).bind fun q_6 => some (q_6, σ))) else (if x1 = 3 then ((f_X6_levels σ).bind fun q_9 => some (q_9, σ)) else (if x1 = 4 then ((f_X6_beliefs σ).bind fun q_12 => some (q_12, σ)) else (if x1 = 5 then some (σ 0 13, σ) else (if x1 = 6 then some (σ 1 3, σ) else (if x1 = 7 then ((f_X6_heldSpots σ).bind fun q_17 => some (q_17, σ)) else ((f_X6_finds (-1000001) σ).bind fun q_19 => some (q_19.1, q_19.2))))))))))
set_option maxHeartbeats 4000000 in
set_option maxRecDepth 100000 in
theorem k_X6_count (l : Launch) (G : GG) (a : Nat → Nat) (σ : Mem) (hj : INJ nM a) (x1 : Int32) (q : Int32 × Mem) (h : f_X6_count x1 σ = some q) : Met l yX6_count (Cond.code yX6_count cX6_count 2 (some .int) :: TB) ({ frames := 3, cells := 0, slots := 0, locals := 65 } : Room) (PA G kM nM a σ [.ref (a 0), .int x1]) (QI G kM nM a q) 0 0 (AW nM a) := by
  refine M_ofW (by decide) hj kM_lt (Nat.le_of_ble_eq_true rfl) (fun p e s m below meth c ls C0 hb hml hr hlk hP hS hl => ?_)
  have C0 : CT p s _ m RX6 G kM nM a := C0
  have hx := C0.1
  have hts := C0.2.1
  have hown := C0.2.2.1
  have hl : lv_has ls 2 [(0, .ref (a 0)), (1, .int x1)] := hl
  unfold f_X6_count at h
  refine lv_iload_n hx hb dX6_count_0 rfl (lv_at hl 1 rfl) ?_
  by_cases c_1 : x1 = 0
  · rw [if_pos c_1] at h
    refine lv_tableIn (off := 47) (tgt := 48) hx hb dX6_count_1 (by rw [c_1]; decide) (by rw [c_1]; decide) (by rw [c_1]; rfl) (by decide) ?_
    refine lv_aload_n hx hb dX6_count_48 rfl (lv_at hl 0 rfl) ?_
    refine gf_X6_7 (o := 0) (o2 := 1) C0 hb hP (rfl : kM 0 = 6) rfl dX6_count_49 ?_
    refine lv_iconst (v := 0) hx hb dX6_count_52 (by decide) ?_
    refine m_iald (o := 1) (N := 74) (i := 0) (j := 0) C0 hb hP (rfl : kM 1 = 100 + 74) (by decide) (show vp_in 0 74 by unfold vp_in; decide) (by decide) dX6_count_53 ?_
    exact m_ri hx hb hr hlk hP hS (Option.some.inj h) dX6_count_54
  · rw [if_neg c_1] at h
    by_cases c_2 : x1 = 1
    · rw [if_pos c_2] at h
      refine lv_tableIn (off := 54) (tgt := 55) hx hb dX6_count_1 (by rw [c_2]; decide) (by rw [c_2]; decide) (by rw [c_2]; rfl) (by decide) ?_
      refine lv_aload_n hx hb dX6_count_55 rfl (lv_at hl 0 rfl) ?_
      refine gf_X6_7 (o := 0) (o2 := 1) C0 hb hP (rfl : kM 0 = 6) rfl dX6_count_56 ?_
      refine lv_iconst (v := 1) hx hb dX6_count_59 (by decide) ?_
      refine m_iald (o := 1) (N := 74) (i := 1) (j := 1) C0 hb hP (rfl : kM 1 = 100 + 74) (by decide) (show vp_in 1 74 by unfold vp_in; decide) (by decide) dX6_count_60 ?_
      exact m_ri hx hb hr hlk hP hS (Option.some.inj h) dX6_count_61
    · rw [if_neg c_2] at h
      by_cases c_3 : x1 = 2
      · rw [if_pos c_3] at h
        refine lv_tableIn (off := 61) (tgt := 62) hx hb dX6_count_1 (by rw [c_3]; decide) (by rw [c_3]; decide) (by rw [c_3]; rfl) (by decide) ?_
        refine lv_aload_n hx hb dX6_count_62 rfl (lv_at hl 0 rfl) ?_
        obtain ⟨q_4, hq_5, h⟩ := bd_s h
        refine m_rVi (As := []) (rest := []) (o := 0) (ci := 6) C0 hb hml hl.1 wm_X6_144 md_X6_knowing (k_X6_knowing l G a σ hj q_4 hq_5) rfl rfl ⟨(Nat.le_of_ble_eq_true rfl), (Nat.le_of_ble_eq_true rfl)⟩ hP hS (rfl : kM 0 = 6) (by decide) rfl rfl rfl (Nat.le_of_ble_eq_true rfl) dX6_count_63 ?_
        obtain ⟨q_6, hq_7, h⟩ := bd_s h
        refine m_pSi (As := [.int q_4]) (rest := []) C0.z hb hml hl.1 wm_X6_190 md_X6_ones (k_X6_ones l q_4 q_6 hq_7) rfl rfl ⟨(Nat.le_of_ble_eq_true rfl), (Nat.le_of_ble_eq_true rfl)⟩ rfl rfl (Nat.le_of_ble_eq_true rfl) dX6_count_66 ?_
        exact m_ri hx hb hr hlk hP hS (Option.some.inj h) dX6_count_69
      · rw [if_neg c_3] at h
        by_cases c_8 : x1 = 3
        · rw [if_pos c_8] at h
          refine lv_tableIn (off := 69) (tgt := 70) hx hb dX6_count_1 (by rw [c_8]; decide) (by rw [c_8]; decide) (by rw [c_8]; rfl) (by decide) ?_
          refine lv_aload_n hx hb dX6_count_70 rfl (lv_at hl 0 rfl) ?_
          obtain ⟨q_9, hq_10, h⟩ := bd_s h
          refine m_rVi (As := []) (rest := []) (o := 0) (ci := 6) C0 hb hml hl.1 wm_X6_147 md_X6_levels (k_X6_levels l G a σ hj q_9 hq_10) rfl rfl ⟨(Nat.le_of_ble_eq_true rfl), (Nat.le_of_ble_eq_true rfl)⟩ hP hS (rfl : kM 0 = 6) (by decide) rfl rfl rfl (Nat.le_of_ble_eq_true rfl) dX6_count_71 ?_
          exact m_ri hx hb hr hlk hP hS (Option.some.inj h) dX6_count_74
        · rw [if_neg c_8] at h
          by_cases c_11 : x1 = 4
          · rw [if_pos c_11] at h
            refine lv_tableIn (off := 74) (tgt := 75) hx hb dX6_count_1 (by rw [c_11]; decide) (by rw [c_11]; decide) (by rw [c_11]; rfl) (by decide) ?_
            refine lv_aload_n hx hb dX6_count_75 rfl (lv_at hl 0 rfl) ?_
            obtain ⟨q_12, hq_13, h⟩ := bd_s h
            refine m_rVi (As := []) (rest := []) (o := 0) (ci := 6) C0 hb hml hl.1 wm_X6_153 md_X6_beliefs (k_X6_beliefs l G a σ hj q_12 hq_13) rfl rfl ⟨(Nat.le_of_ble_eq_true rfl), (Nat.le_of_ble_eq_true rfl)⟩ hP hS (rfl : kM 0 = 6) (by decide) rfl rfl rfl (Nat.le_of_ble_eq_true rfl) dX6_count_76 ?_
            exact m_ri hx hb hr hlk hP hS (Option.some.inj h) dX6_count_79
          · rw [if_neg c_11] at h
            by_cases c_14 : x1 = 5
            · rw [if_pos c_14] at h
              refine lv_tableIn (off := 79) (tgt := 80) hx hb dX6_count_1 (by rw [c_14]; decide) (by rw [c_14]; decide) (by rw [c_14]; rfl) (by decide) ?_
              refine lv_aload_n hx hb dX6_count_80 rfl (lv_at hl 0 rfl) ?_
              refine gf_X6_222 (o := 0) C0 hb hP (rfl : kM 0 = 6) dX6_count_81 ?_
              exact m_ri hx hb hr hlk hP hS (Option.some.inj h) dX6_count_84
            · rw [if_neg c_14] at h
              by_cases c_15 : x1 = 6
              · rw [if_pos c_15] at h
                refine lv_tableIn (off := 84) (tgt := 85) hx hb dX6_count_1 (by rw [c_15]; decide) (by rw [c_15]; decide) (by rw [c_15]; rfl) (by decide) ?_
                refine lv_aload_n hx hb dX6_count_85 rfl (lv_at hl 0 rfl) ?_
                refine gf_X6_7 (o := 0) (o2 := 1) C0 hb hP (rfl : kM 0 = 6) rfl dX6_count_86 ?_
                refine lv_iconst (v := 3) hx hb dX6_count_89 (by decide) ?_
                refine m_iald (o := 1) (N := 74) (i := 3) (j := 3) C0 hb hP (rfl : kM 1 = 100 + 74) (by decide) (show vp_in 3 74 by unfold vp_in; decide) (by decide) dX6_count_90 ?_
                exact m_ri hx hb hr hlk hP hS (Option.some.inj h) dX6_count_91
              · rw [if_neg c_15] at h
                by_cases c_16 : x1 = 7
                · rw [if_pos c_16] at h
                  refine lv_tableIn (off := 91) (tgt := 92) hx hb dX6_count_1 (by rw [c_16]; decide) (by rw [c_16]; decide) (by rw [c_16]; rfl) (by decide) ?_
                  refine lv_aload_n hx hb dX6_count_92 rfl (lv_at hl 0 rfl) ?_
                  obtain ⟨q_17, hq_18, h⟩ := bd_s h
                  refine m_rVi (As := []) (rest := []) (o := 0) (ci := 6) C0 hb hml hl.1 wm_X6_341 md_X6_heldSpots (k_X6_heldSpots l G a σ hj q_17 hq_18) rfl rfl ⟨(Nat.le_of_ble_eq_true rfl), (Nat.le_of_ble_eq_true rfl)⟩ hP hS (rfl : kM 0 = 6) (by decide) rfl rfl rfl (Nat.le_of_ble_eq_true rfl) dX6_count_93 ?_
                  exact m_ri hx hb hr hlk hP hS (Option.some.inj h) dX6_count_96
                · rw [if_neg c_16] at h
                  refine lv_tableOut (tgt := 97) hx hb dX6_count_1 (by have t0 := lv_neT c_1 (a := 0) rfl; have t1 := lv_neT c_2 (a := 1) rfl; have t2 := lv_neT c_3 (a := 2) rfl; have t3 := lv_neT c_8 (a := 3) rfl; have t4 := lv_neT c_11 (a := 4) rfl; have t5 := lv_neT c_14 (a := 5) rfl; have t6 := lv_neT c_15 (a := 6) rfl; have t7 := lv_neT c_16 (a := 7) rfl; omega) (by decide) ?_
                  refine lv_aload_n hx hb dX6_count_97 rfl (lv_at hl 0 rfl) ?_
                  refine lv_ldc hx hb hown (hts _ wk_X6_46) dX6_count_98 ?_
                  obtain ⟨q_19, hq_20, h⟩ := bd_s h
                  refine m_cVi (As := [.int (-1000001)]) (rest := []) (o := 0) (ci := 6) C0 hb hml hl.1 wm_X6_75 md_X6_finds (k_X6_finds l G a σ hj (-1000001) q_19 hq_20) rfl rfl ⟨(Nat.le_of_ble_eq_true rfl), (Nat.le_of_ble_eq_true rfl)⟩ hP hS (rfl : kM 0 = 6) (by decide) rfl rfl rfl (Nat.le_of_ble_eq_true rfl) dX6_count_100 (fun H locs hP hS => ?_)
                  exact m_ri hx hb hr hlk hP hS (Option.some.inj h) dX6_count_103
def f_X6_status_J51 (x2_2 : Int32) (x3_3 : Int32) (rec25 : Int32 → Int32 → Option (Int32 × Mem)) (t_5 : Int32) : Option (Int32 × Mem) := (rec25 (x2_2 + t_5) (x3_3 + 1))
def f_X6_status_J41 (σ : Mem) (x2_2 : Int32) (x3_3 : Int32) (rec25 : Int32 → Int32 → Option (Int32 × Mem)) : Option (Int32 × Mem) := (chk x3_3 7 (f_X6_status_J51 x2_2 x3_3 rec25 (σ 5 x3_3.toNatClampNeg)))
def f_X6_status_B25 (x1 : Int32) (σ : Mem) (rec25 : Int32 → Int32 → Option (Int32 × Mem)) (x2_2 : Int32) (x3_3 : Int32) : Option (Int32 × Mem) := (if 7 ≤ x3_3 then some (x2_2, σ) else (if x1 < 0 then (f_X6_status_J41 σ x2_2 x3_3 rec25) else (if x3_3 = x1 then (f_X6_status_J41 σ x2_2 x3_3 rec25) else (f_X6_status_J51 x2_2 x3_3 rec25 0))))
def f_X6_status (x1 : Int32) (σ : Mem) : Option (Int32 × Mem) := (if (f_X6_in x1.toInt64 (-1) 6) = 0 then ((f_X6_finds (-1000001) σ).bind fun q_12 => some (q_12.1, q_12.2)) else (it2 (f_X6_status_B25 x1 σ) FU 0 0))
set_option maxHeartbeats 4000000 in
set_option maxRecDepth 100000 in
theorem k_X6_status (l : Launch) (G : GG) (a : Nat → Nat) (σ : Mem) (hj : INJ nM a) (x1 : Int32) (q : Int32 × Mem) (h : f_X6_status x1 σ = some q) : Met l yX6_status (Cond.code yX6_status cX6_status 4 (some .int) :: TB) ({ frames := 1, cells := 0, slots := 0, locals := 25 } : Room) (PA G kM nM a σ [.ref (a 0), .int x1]) (QI G kM nM a q) 0 0 (AW nM a) := by
  refine M_ofW (by decide) hj kM_lt (Nat.le_of_ble_eq_true rfl) (fun p e s m below meth c ls C0 hb hml hr hlk hP hS hl => ?_)
  have C0 : CT p s _ m RX6 G kM nM a := C0
  have hx := C0.1
  have hts := C0.2.1
  have hown := C0.2.2.1
  have hl : lv_has ls 4 [(0, .ref (a 0)), (1, .int x1)] := hl
  unfold f_X6_status at h
  refine lv_iload_n hx hb dX6_status_0 rfl (lv_at hl 1 rfl) ?_
  refine lv_i2l (v := x1.toInt64) hx hb dX6_status_1 rfl ?_
  refine lv_ldc2 hx hb hown (hts _ wk_X6_344) dX6_status_2 ?_
  refine lv_ldc2 hx hb hown (hts _ wk_X6_57) dX6_status_5 ?_
  refine m_pSi (As := [.long x1.toInt64, .long (-1), .long 6]) (rest := []) C0.z hb hml hl.1 wm_X6_49 md_X6_in (k_X6_in l x1.toInt64 (-1) 6) rfl rfl ⟨(Nat.le_of_ble_eq_true rfl), (Nat.le_of_ble_eq_true rfl)⟩ rfl rfl (Nat.le_of_ble_eq_true rfl) dX6_status_8 ?_
  refine lv_if_ne (tgt := 21) hx hb dX6_status_11 (by decide) (fun (c_1 : ¬ (f_X6_in x1.toInt64 (-1) 6) = 0) => ?_) (fun (c_1 : (f_X6_in x1.toInt64 (-1) 6) = 0) => ?_)
  · rw [if_neg c_1] at h
    refine lv_iconst (v := 0) hx hb dX6_status_21 (by decide) ?_
    refine lv_istore_n (lv' := [(2, .int 0), (0, .ref (a 0)), (1, .int x1)]) hx hb dX6_status_22 rfl hl (by decide) rfl (fun ls hl => ?_)
    refine lv_iconst (v := 0) hx hb dX6_status_23 (by decide) ?_
    refine lv_istore_n (lv' := [(3, .int 0), (2, .int 0), (0, .ref (a 0)), (1, .int x1)]) hx hb dX6_status_24 rfl hl (by decide) rfl (fun ls hl => ?_)
    have L_11 : ∀ (fu25 : Nat) (x2_2 : Int32) (x3_3 : Int32) (H : Heap) (locs : List Loc) (ls : Array Slot), it2 (f_X6_status_B25 x1 σ) fu25 x2_2 x3_3 = some q → HP G kM nM a σ H → va_S (AW nM a) s.heap H locs → lv_has ls 4 [(3, .int x3_3), (2, .int x2_2), (0, .ref (a 0)), (1, .int x1)] → W p l e ({ frames := 1, cells := 0, slots := 0, locals := 25 } : Room) s m ([.ref (a 0), .int x1] : List Value).toArray below meth c H locs 0 0 (MQ below (QI G kM nM a q) ([.ref (a 0), .int x1] : List Value).toArray s 0 0 (AW nM a)) (F0 m 25 ls []) := by
      intro fu25
      induction fu25 with
      | zero =>
        intro x2_2 x3_3 H locs ls h
        cases h
      | succ fu25 ih25 =>
        intro x2_2 x3_3 H locs ls h hP hS hl
        replace h : (f_X6_status_B25 x1 σ) (it2 (f_X6_status_B25 x1 σ) fu25) x2_2 x3_3 = some q := h
        generalize it2 (f_X6_status_B25 x1 σ) fu25 = rec25 at h ih25
        unfold f_X6_status_B25 at h
        refine lv_iload_n hx hb dX6_status_25 rfl (lv_at hl 0 rfl) ?_
        refine lv_bipush (v := 7) hx hb dX6_status_26 (by decide) ?_
        refine lv_icmp_ge (tgt := 59) hx hb dX6_status_28 (by decide) (fun (c_4 : 7 ≤ x3_3) => ?_) (fun (c_4 : ¬ 7 ≤ x3_3) => ?_)
        · rw [if_pos c_4] at h
          refine lv_iload_n hx hb dX6_status_59 rfl (lv_at hl 1 rfl) ?_
          exact m_ri hx hb hr hlk hP hS (Option.some.inj h) dX6_status_60
        · rw [if_neg c_4] at h
          refine lv_iload_n hx hb dX6_status_31 rfl (lv_at hl 1 rfl) ?_
          refine lv_iload_n hx hb dX6_status_32 rfl (lv_at hl 3 rfl) ?_
          have J_6 : ∀ (t_5 : Int32) (H : Heap) (locs : List Loc) (ls : Array Slot), f_X6_status_J51 x2_2 x3_3 rec25 t_5 = some q → HP G kM nM a σ H → va_S (AW nM a) s.heap H locs → lv_has ls 4 [(3, .int x3_3), (0, .ref (a 0)), (1, .int x1)] → W p l e ({ frames := 1, cells := 0, slots := 0, locals := 25 } : Room) s m ([.ref (a 0), .int x1] : List Value).toArray below meth c H locs 0 0 (MQ below (QI G kM nM a q) ([.ref (a 0), .int x1] : List Value).toArray s 0 0 (AW nM a)) (F0 m 51 ls [.int t_5, .int x2_2]) := by
            intro t_5 H locs ls h hP hS hl
            unfold f_X6_status_J51 at h
            refine lv_iadd hx hb dX6_status_51 ?_
            refine lv_istore_n (lv' := [(2, .int (x2_2 + t_5)), (3, .int x3_3), (0, .ref (a 0)), (1, .int x1)]) hx hb dX6_status_52 rfl hl (by decide) rfl (fun ls hl => ?_)
            refine lv_iinc (v := x3_3 + 1) (lv' := [(3, .int (x3_3 + 1)), (2, .int (x2_2 + t_5)), (0, .ref (a 0)), (1, .int x1)]) hx hb dX6_status_53 hl (k := 1) rfl rfl (by decide) rfl (fun ls hl => ?_)
            refine lv_goto (tgt := 25) hx hb dX6_status_56 (by decide) ?_
            exact ih25 (x2_2 + t_5) (x3_3 + 1) _ _ _ h hP hS (lv_sub hl [0, 1, 2, 3] rfl)
          have J_8 : ∀  (H : Heap) (locs : List Loc) (ls : Array Slot), f_X6_status_J41 σ x2_2 x3_3 rec25 = some q → HP G kM nM a σ H → va_S (AW nM a) s.heap H locs → lv_has ls 4 [(3, .int x3_3), (0, .ref (a 0)), (1, .int x1)] → W p l e ({ frames := 1, cells := 0, slots := 0, locals := 25 } : Room) s m ([.ref (a 0), .int x1] : List Value).toArray below meth c H locs 0 0 (MQ below (QI G kM nM a q) ([.ref (a 0), .int x1] : List Value).toArray s 0 0 (AW nM a)) (F0 m 41 ls [.int x2_2]) := by
            intro  H locs ls h hP hS hl
            unfold f_X6_status_J41 at h
            refine lv_aload_n hx hb dX6_status_41 rfl (lv_at hl 1 rfl) ?_
            refine gf_X6_22 (o := 0) (o2 := 5) C0 hb hP (rfl : kM 0 = 6) rfl dX6_status_42 ?_
            refine lv_iload_n hx hb dX6_status_45 rfl (lv_at hl 0 rfl) ?_
            obtain ⟨hi_7, h⟩ := chk_s h
            refine m_iald (o := 5) (N := 7) (i := x3_3) (j := x3_3.toNatClampNeg) C0 hb hP (rfl : kM 5 = 100 + 7) (by decide) hi_7 rfl dX6_status_46 ?_
            refine lv_goto (tgt := 51) hx hb dX6_status_47 (by decide) ?_
            exact J_6 (σ 5 x3_3.toNatClampNeg) _ _ _ h hP hS (lv_sub hl [0, 1, 2] rfl)
          refine lv_if_lt (tgt := 41) hx hb dX6_status_33 (by decide) (fun (c_9 : x1 < 0) => ?_) (fun (c_9 : ¬ x1 < 0) => ?_)
          · rw [if_pos c_9] at h
            exact J_8  _ _ _ h hP hS (lv_sub hl [0, 2, 3] rfl)
          · rw [if_neg c_9] at h
            refine lv_iload_n hx hb dX6_status_36 rfl (lv_at hl 0 rfl) ?_
            refine lv_iload_n hx hb dX6_status_37 rfl (lv_at hl 3 rfl) ?_
            refine lv_icmp_ne (tgt := 50) hx hb dX6_status_38 (by decide) (fun (c_10 : ¬ x3_3 = x1) => ?_) (fun (c_10 : x3_3 = x1) => ?_)
            · rw [if_neg c_10] at h
              refine lv_iconst (v := 0) hx hb dX6_status_50 (by decide) ?_
              exact J_6 0 _ _ _ h hP hS (lv_sub hl [0, 2, 3] rfl)
            · rw [if_pos c_10] at h
              exact J_8  _ _ _ h hP hS (lv_sub hl [0, 2, 3] rfl)
    exact L_11 FU 0 0 _ _ _ h hP hS (lv_sub hl [0, 1, 2, 3] rfl)
  · rw [if_pos c_1] at h
    refine lv_aload_n hx hb dX6_status_14 rfl (lv_at hl 0 rfl) ?_
    refine lv_ldc hx hb hown (hts _ wk_X6_46) dX6_status_15 ?_
    obtain ⟨q_12, hq_13, h⟩ := bd_s h
    refine m_cVi (As := [.int (-1000001)]) (rest := []) (o := 0) (ci := 6) C0 hb hml hl.1 wm_X6_75 md_X6_finds (k_X6_finds l G a σ hj (-1000001) q_12 hq_13) rfl rfl ⟨(Nat.le_of_ble_eq_true rfl), (Nat.le_of_ble_eq_true rfl)⟩ hP hS (rfl : kM 0 = 6) (by decide) rfl rfl rfl (Nat.le_of_ble_eq_true rfl) dX6_status_17 (fun H locs hP hS => ?_)
    exact m_ri hx hb hr hlk hP hS (Option.some.inj h) dX6_status_20

def f_X6_takesBack_B2 (x1 : Int32) (rec2 : Int32 → Mem → Option (Int32 × Mem)) (x2_1 : Int32) (σ_2 : Mem) : Option (Int32 × Mem) := (if 74 ≤ x2_1 then some (x1, σ_2) else (chk x2_1 74 (chk x2_1 74 (rec2 (x2_1 + 1) (mst σ_2 1 x2_1.toNatClampNeg (σ_2 4 x2_1.toNatClampNeg))))))
def f_X6_takesBack (x1 : Int32) (σ : Mem) : Option (Int32 × Mem) := (it2 (f_X6_takesBack_B2 x1) FU 0 σ)
set_option maxHeartbeats 4000000 in
set_option maxRecDepth 100000 in
theorem k_X6_takesBack (l : Launch) (G : GG) (a : Nat → Nat) (σ : Mem) (hj : INJ nM a) (x1 : Int32) (q : Int32 × Mem) (h : f_X6_takesBack x1 σ = some q) : Met l yX6_takesBack (Cond.code yX6_takesBack cX6_takesBack 3 (some .int) :: TB) ({ frames := 0, cells := 0, slots := 0, locals := 0 } : Room) (PA G kM nM a σ [.ref (a 0), .int x1]) (QI G kM nM a q) 0 0 (AW nM a) := by
  refine M_ofW (by decide) hj kM_lt (Nat.le_of_ble_eq_true rfl) (fun p e s m below meth c ls C0 hb hml hr hlk hP hS hl => ?_)
  have C0 : CT p s _ m RX6 G kM nM a := C0
  have hx := C0.1
  have hts := C0.2.1
  have hown := C0.2.2.1
  have hl : lv_has ls 3 [(0, .ref (a 0)), (1, .int x1)] := hl
  unfold f_X6_takesBack at h
  refine lv_iconst (v := 0) hx hb dX6_takesBack_0 (by decide) ?_
  refine lv_istore_n (lv' := [(2, .int 0), (0, .ref (a 0)), (1, .int x1)]) hx hb dX6_takesBack_1 rfl hl (by decide) rfl (fun ls hl => ?_)
  have L_6 : ∀ (fu2 : Nat) (x2_1 : Int32) (σ_2 : Mem) (H : Heap) (locs : List Loc) (ls : Array Slot), it2 (f_X6_takesBack_B2 x1) fu2 x2_1 σ_2 = some q → HP G kM nM a σ_2 H → va_S (AW nM a) s.heap H locs → lv_has ls 3 [(2, .int x2_1), (0, .ref (a 0)), (1, .int x1)] → W p l e ({ frames := 0, cells := 0, slots := 0, locals := 0 } : Room) s m ([.ref (a 0), .int x1] : List Value).toArray below meth c H locs 0 0 (MQ below (QI G kM nM a q) ([.ref (a 0), .int x1] : List Value).toArray s 0 0 (AW nM a)) (F0 m 2 ls []) := by
    intro fu2
    induction fu2 with
    | zero =>
      intro x2_1 σ_2 H locs ls h
      cases h
    | succ fu2 ih2 =>
      intro x2_1 σ_2 H locs ls h hP hS hl
      replace h : (f_X6_takesBack_B2 x1) (it2 (f_X6_takesBack_B2 x1) fu2) x2_1 σ_2 = some q := h
      generalize it2 (f_X6_takesBack_B2 x1) fu2 = rec2 at h ih2
      unfold f_X6_takesBack_B2 at h
      refine lv_iload_n hx hb dX6_takesBack_2 rfl (lv_at hl 0 rfl) ?_
      refine lv_bipush (v := 74) hx hb dX6_takesBack_3 (by decide) ?_
      refine lv_icmp_ge (tgt := 26) hx hb dX6_takesBack_5 (by decide) (fun (c_3 : 74 ≤ x2_1) => ?_) (fun (c_3 : ¬ 74 ≤ x2_1) => ?_)
      · rw [if_pos c_3] at h
        refine lv_iload_n hx hb dX6_takesBack_26 rfl (lv_at hl 2 rfl) ?_
        exact m_ri hx hb hr hlk hP hS (Option.some.inj h) dX6_takesBack_27
      · rw [if_neg c_3] at h
        refine lv_aload_n hx hb dX6_takesBack_8 rfl (lv_at hl 1 rfl) ?_
        refine gf_X6_7 (o := 0) (o2 := 1) C0 hb hP (rfl : kM 0 = 6) rfl dX6_takesBack_9 ?_
        refine lv_iload_n hx hb dX6_takesBack_12 rfl (lv_at hl 0 rfl) ?_
        refine lv_aload_n hx hb dX6_takesBack_13 rfl (lv_at hl 1 rfl) ?_
        refine gf_X6_19 (o := 0) (o2 := 4) C0 hb hP (rfl : kM 0 = 6) rfl dX6_takesBack_14 ?_
        refine lv_iload_n hx hb dX6_takesBack_17 rfl (lv_at hl 0 rfl) ?_
        obtain ⟨hi_4, h⟩ := chk_s h
        refine m_iald (o := 4) (N := 74) (i := x2_1) (j := x2_1.toNatClampNeg) C0 hb hP (rfl : kM 4 = 100 + 74) (by decide) hi_4 rfl dX6_takesBack_18 ?_
        obtain ⟨hi_5, h⟩ := chk_s h
        refine m_iast (o := 1) (N := 74) (i := x2_1) (j := x2_1.toNatClampNeg) C0 hb hP hS (rfl : kM 1 = 100 + 74) (by decide) hi_5 rfl dX6_takesBack_19 (fun H locs hP hS => ?_)
        refine lv_iinc (v := x2_1 + 1) (lv' := [(2, .int (x2_1 + 1)), (0, .ref (a 0)), (1, .int x1)]) hx hb dX6_takesBack_20 hl (k := 0) rfl rfl (by decide) rfl (fun ls hl => ?_)
        refine lv_goto (tgt := 2) hx hb dX6_takesBack_23 (by decide) ?_
        exact ih2 (x2_1 + 1) (mst σ_2 1 x2_1.toNatClampNeg (σ_2 4 x2_1.toNatClampNeg)) _ _ _ h hP hS (lv_sub hl [0, 1, 2] rfl)
  exact L_6 FU 0 σ _ _ _ h hP hS (lv_sub hl [0, 1, 2] rfl)
def f_X6_behind (x1 : Int32) (x2 : Int32) (σ : Mem) : Option (Int32 × Mem) := ((f_X6_laysAside σ).bind fun q_1 => ((f_X6_goesOn x2 q_1).bind fun q_3 => (chk x1 74 ((f_X6_takesBack (q_3 1 x1.toNatClampNeg) q_3).bind fun q_6 => some (q_6.1, q_6.2)))))
set_option maxHeartbeats 4000000 in
set_option maxRecDepth 100000 in
theorem k_X6_behind (l : Launch) (G : GG) (a : Nat → Nat) (σ : Mem) (hj : INJ nM a) (x1 : Int32) (x2 : Int32) (q : Int32 × Mem) (h : f_X6_behind x1 x2 σ = some q) : Met l yX6_behind (Cond.code yX6_behind cX6_behind 3 (some .int) :: TB) ({ frames := 6, cells := 0, slots := 0, locals := 132 } : Room) (PA G kM nM a σ [.ref (a 0), .int x1, .int x2]) (QI G kM nM a q) 0 0 (AW nM a) := by
  refine M_ofW (by decide) hj kM_lt (Nat.le_of_ble_eq_true rfl) (fun p e s m below meth c ls C0 hb hml hr hlk hP hS hl => ?_)
  have C0 : CT p s _ m RX6 G kM nM a := C0
  have hx := C0.1
  have hts := C0.2.1
  have hown := C0.2.2.1
  have hl : lv_has ls 3 [(0, .ref (a 0)), (1, .int x1), (2, .int x2)] := hl
  unfold f_X6_behind at h
  refine lv_aload_n hx hb dX6_behind_0 rfl (lv_at hl 0 rfl) ?_
  obtain ⟨q_1, hq_2, h⟩ := bd_s h
  refine m_cVv (As := []) (rest := []) (o := 0) (ci := 6) C0 hb hml hl.1 wm_X6_156 md_X6_laysAside (k_X6_laysAside l G a σ hj q_1 hq_2) rfl rfl ⟨(Nat.le_of_ble_eq_true rfl), (Nat.le_of_ble_eq_true rfl)⟩ hP hS (rfl : kM 0 = 6) (by decide) rfl rfl rfl (Nat.le_of_ble_eq_true rfl) dX6_behind_1 (fun H locs hP hS => ?_)
  refine lv_aload_n hx hb dX6_behind_4 rfl (lv_at hl 0 rfl) ?_
  refine lv_iload_n hx hb dX6_behind_5 rfl (lv_at hl 2 rfl) ?_
  obtain ⟨q_3, hq_4, h⟩ := bd_s h
  refine m_cVv (As := [.int x2]) (rest := []) (o := 0) (ci := 6) C0 hb hml hl.1 wm_X6_141 md_X6_goesOn (k_X6_goesOn l G a q_1 hj x2 q_3 hq_4) rfl rfl ⟨(Nat.le_of_ble_eq_true rfl), (Nat.le_of_ble_eq_true rfl)⟩ hP hS (rfl : kM 0 = 6) (by decide) rfl rfl rfl (Nat.le_of_ble_eq_true rfl) dX6_behind_6 (fun H locs hP hS => ?_)
  refine lv_aload_n hx hb dX6_behind_9 rfl (lv_at hl 0 rfl) ?_
  refine lv_aload_n hx hb dX6_behind_10 rfl (lv_at hl 0 rfl) ?_
  refine gf_X6_7 (o := 0) (o2 := 1) C0 hb hP (rfl : kM 0 = 6) rfl dX6_behind_11 ?_
  refine lv_iload_n hx hb dX6_behind_14 rfl (lv_at hl 1 rfl) ?_
  obtain ⟨hi_5, h⟩ := chk_s h
  refine m_iald (o := 1) (N := 74) (i := x1) (j := x1.toNatClampNeg) C0 hb hP (rfl : kM 1 = 100 + 74) (by decide) hi_5 rfl dX6_behind_15 ?_
  obtain ⟨q_6, hq_7, h⟩ := bd_s h
  refine m_cVi (As := [.int (q_3 1 x1.toNatClampNeg)]) (rest := []) (o := 0) (ci := 6) C0 hb hml hl.1 wm_X6_159 md_X6_takesBack (k_X6_takesBack l G a q_3 hj (q_3 1 x1.toNatClampNeg) q_6 hq_7) rfl rfl ⟨(Nat.le_of_ble_eq_true rfl), (Nat.le_of_ble_eq_true rfl)⟩ hP hS (rfl : kM 0 = 6) (by decide) rfl rfl rfl (Nat.le_of_ble_eq_true rfl) dX6_behind_16 (fun H locs hP hS => ?_)
  exact m_ri hx hb hr hlk hP hS (Option.some.inj h) dX6_behind_19
def f_X6_ahead (x1 : Int32) (x2 : Int32) (σ : Mem) : Option (Int32 × Mem) := (if (f_X6_isCell x1) = 0 then ((f_X6_finds (-1000001) σ).bind fun q_2 => some (q_2.1, q_2.2)) else (if (f_X6_in x2.toInt64 0 100) = 0 then ((f_X6_finds (-1000001) σ).bind fun q_5 => some (q_5.1, q_5.2)) else ((f_X6_behind (12 + x1) x2 σ).bind fun q_7 => some (q_7.1, q_7.2))))
set_option maxHeartbeats 4000000 in
set_option maxRecDepth 100000 in
theorem k_X6_ahead (l : Launch) (G : GG) (a : Nat → Nat) (σ : Mem) (hj : INJ nM a) (x1 : Int32) (x2 : Int32) (q : Int32 × Mem) (h : f_X6_ahead x1 x2 σ = some q) : Met l yX6_ahead (Cond.code yX6_ahead cX6_ahead 3 (some .int) :: TB) ({ frames := 7, cells := 0, slots := 0, locals := 154 } : Room) (PA G kM nM a σ [.ref (a 0), .int x1, .int x2]) (QI G kM nM a q) 0 0 (AW nM a) := by
  refine M_ofW (by decide) hj kM_lt (Nat.le_of_ble_eq_true rfl) (fun p e s m below meth c ls C0 hb hml hr hlk hP hS hl => ?_)
  have C0 : CT p s _ m RX6 G kM nM a := C0
  have hx := C0.1
  have hts := C0.2.1
  have hown := C0.2.2.1
  have hl : lv_has ls 3 [(0, .ref (a 0)), (1, .int x1), (2, .int x2)] := hl
  unfold f_X6_ahead at h
  refine lv_iload_n hx hb dX6_ahead_0 rfl (lv_at hl 1 rfl) ?_
  refine m_pSi (As := [.int x1]) (rest := []) C0.z hb hml hl.1 wm_X6_66 md_X6_isCell (k_X6_isCell l x1) rfl rfl ⟨(Nat.le_of_ble_eq_true rfl), (Nat.le_of_ble_eq_true rfl)⟩ rfl rfl (Nat.le_of_ble_eq_true rfl) dX6_ahead_1 ?_
  refine lv_if_eq (tgt := 31) hx hb dX6_ahead_4 (by decide) (fun (c_1 : (f_X6_isCell x1) = 0) => ?_) (fun (c_1 : ¬ (f_X6_isCell x1) = 0) => ?_)
  · rw [if_pos c_1] at h
    refine lv_aload_n hx hb dX6_ahead_31 rfl (lv_at hl 0 rfl) ?_
    refine lv_ldc hx hb hown (hts _ wk_X6_46) dX6_ahead_32 ?_
    obtain ⟨q_2, hq_3, h⟩ := bd_s h
    refine m_cVi (As := [.int (-1000001)]) (rest := []) (o := 0) (ci := 6) C0 hb hml hl.1 wm_X6_75 md_X6_finds (k_X6_finds l G a σ hj (-1000001) q_2 hq_3) rfl rfl ⟨(Nat.le_of_ble_eq_true rfl), (Nat.le_of_ble_eq_true rfl)⟩ hP hS (rfl : kM 0 = 6) (by decide) rfl rfl rfl (Nat.le_of_ble_eq_true rfl) dX6_ahead_34 (fun H locs hP hS => ?_)
    exact m_ri hx hb hr hlk hP hS (Option.some.inj h) dX6_ahead_37
  · rw [if_neg c_1] at h
    refine lv_iload_n hx hb dX6_ahead_7 rfl (lv_at hl 2 rfl) ?_
    refine lv_i2l (v := x2.toInt64) hx hb dX6_ahead_8 rfl ?_
    refine lv_lconst (v := 0) hx hb dX6_ahead_9 (by decide) ?_
    refine lv_ldc2 hx hb hown (hts _ wk_X6_162) dX6_ahead_10 ?_
    refine m_pSi (As := [.long x2.toInt64, .long 0, .long 100]) (rest := []) C0.z hb hml hl.1 wm_X6_49 md_X6_in (k_X6_in l x2.toInt64 0 100) rfl rfl ⟨(Nat.le_of_ble_eq_true rfl), (Nat.le_of_ble_eq_true rfl)⟩ rfl rfl (Nat.le_of_ble_eq_true rfl) dX6_ahead_13 ?_
    refine lv_if_eq (tgt := 31) hx hb dX6_ahead_16 (by decide) (fun (c_4 : (f_X6_in x2.toInt64 0 100) = 0) => ?_) (fun (c_4 : ¬ (f_X6_in x2.toInt64 0 100) = 0) => ?_)
    · rw [if_pos c_4] at h
      refine lv_aload_n hx hb dX6_ahead_31 rfl (lv_at hl 0 rfl) ?_
      refine lv_ldc hx hb hown (hts _ wk_X6_46) dX6_ahead_32 ?_
      obtain ⟨q_5, hq_6, h⟩ := bd_s h
      refine m_cVi (As := [.int (-1000001)]) (rest := []) (o := 0) (ci := 6) C0 hb hml hl.1 wm_X6_75 md_X6_finds (k_X6_finds l G a σ hj (-1000001) q_5 hq_6) rfl rfl ⟨(Nat.le_of_ble_eq_true rfl), (Nat.le_of_ble_eq_true rfl)⟩ hP hS (rfl : kM 0 = 6) (by decide) rfl rfl rfl (Nat.le_of_ble_eq_true rfl) dX6_ahead_34 (fun H locs hP hS => ?_)
      exact m_ri hx hb hr hlk hP hS (Option.some.inj h) dX6_ahead_37
    · rw [if_neg c_4] at h
      refine lv_aload_n hx hb dX6_ahead_19 rfl (lv_at hl 0 rfl) ?_
      refine lv_bipush (v := 12) hx hb dX6_ahead_20 (by decide) ?_
      refine lv_iload_n hx hb dX6_ahead_22 rfl (lv_at hl 1 rfl) ?_
      refine lv_iadd hx hb dX6_ahead_23 ?_
      refine lv_iload_n hx hb dX6_ahead_24 rfl (lv_at hl 2 rfl) ?_
      obtain ⟨q_7, hq_8, h⟩ := bd_s h
      refine m_cVi (As := [.int (12 + x1), .int x2]) (rest := []) (o := 0) (ci := 6) C0 hb hml hl.1 wm_X6_164 md_X6_behind (k_X6_behind l G a σ hj (12 + x1) x2 q_7 hq_8) rfl rfl ⟨(Nat.le_of_ble_eq_true rfl), (Nat.le_of_ble_eq_true rfl)⟩ hP hS (rfl : kM 0 = 6) (by decide) rfl rfl rfl (Nat.le_of_ble_eq_true rfl) dX6_ahead_25 (fun H locs hP hS => ?_)
      refine lv_goto (tgt := 37) hx hb dX6_ahead_28 (by decide) ?_
      exact m_ri hx hb hr hlk hP hS (Option.some.inj h) dX6_ahead_37
def f_X6_belief (x1 : Int32) (x2 : Int32) (x3 : Int32) (σ : Mem) : Option (Int32 × Mem) := (if (f_X6_isWatcher x1 σ) = 0 then ((f_X6_finds (-1000001) σ).bind fun q_2 => some (q_2.1, q_2.2)) else (if (f_X6_in x2.toInt64 3 4) = 0 then ((f_X6_finds (-1000001) σ).bind fun q_5 => some (q_5.1, q_5.2)) else (if (f_X6_in x3.toInt64 0 100) = 0 then ((f_X6_finds (-1000001) σ).bind fun q_8 => some (q_8.1, q_8.2)) else ((f_X6_behind (f_X6_place x1 x2) x3 σ).bind fun q_10 => some (q_10.1, q_10.2)))))
set_option maxHeartbeats 4000000 in
set_option maxRecDepth 100000 in
theorem k_X6_belief (l : Launch) (G : GG) (a : Nat → Nat) (σ : Mem) (hj : INJ nM a) (x1 : Int32) (x2 : Int32) (x3 : Int32) (q : Int32 × Mem) (h : f_X6_belief x1 x2 x3 σ = some q) : Met l yX6_belief (Cond.code yX6_belief cX6_belief 4 (some .int) :: TB) ({ frames := 7, cells := 0, slots := 0, locals := 154 } : Room) (PA G kM nM a σ [.ref (a 0), .int x1, .int x2, .int x3]) (QI G kM nM a q) 0 0 (AW nM a) := by
  refine M_ofW (by decide) hj kM_lt (Nat.le_of_ble_eq_true rfl) (fun p e s m below meth c ls C0 hb hml hr hlk hP hS hl => ?_)
  have C0 : CT p s _ m RX6 G kM nM a := C0
  have hx := C0.1
  have hts := C0.2.1
  have hown := C0.2.2.1
  have hl : lv_has ls 4 [(0, .ref (a 0)), (1, .int x1), (2, .int x2), (3, .int x3)] := hl
  unfold f_X6_belief at h
  refine lv_aload_n hx hb dX6_belief_0 rfl (lv_at hl 0 rfl) ?_
  refine lv_iload_n hx hb dX6_belief_1 rfl (lv_at hl 1 rfl) ?_
  refine m_rVi (As := [.int x1]) (rest := []) (o := 0) (ci := 6) C0 hb hml hl.1 wm_X6_100 md_X6_isWatcher (k_X6_isWatcher l G a σ hj x1) rfl rfl ⟨(Nat.le_of_ble_eq_true rfl), (Nat.le_of_ble_eq_true rfl)⟩ hP hS (rfl : kM 0 = 6) (by decide) rfl rfl rfl (Nat.le_of_ble_eq_true rfl) dX6_belief_2 ?_
  refine lv_if_eq (tgt := 47) hx hb dX6_belief_5 (by decide) (fun (c_1 : (f_X6_isWatcher x1 σ) = 0) => ?_) (fun (c_1 : ¬ (f_X6_isWatcher x1 σ) = 0) => ?_)
  · rw [if_pos c_1] at h
    refine lv_aload_n hx hb dX6_belief_47 rfl (lv_at hl 0 rfl) ?_
    refine lv_ldc hx hb hown (hts _ wk_X6_46) dX6_belief_48 ?_
    obtain ⟨q_2, hq_3, h⟩ := bd_s h
    refine m_cVi (As := [.int (-1000001)]) (rest := []) (o := 0) (ci := 6) C0 hb hml hl.1 wm_X6_75 md_X6_finds (k_X6_finds l G a σ hj (-1000001) q_2 hq_3) rfl rfl ⟨(Nat.le_of_ble_eq_true rfl), (Nat.le_of_ble_eq_true rfl)⟩ hP hS (rfl : kM 0 = 6) (by decide) rfl rfl rfl (Nat.le_of_ble_eq_true rfl) dX6_belief_50 (fun H locs hP hS => ?_)
    exact m_ri hx hb hr hlk hP hS (Option.some.inj h) dX6_belief_53
  · rw [if_neg c_1] at h
    refine lv_iload_n hx hb dX6_belief_8 rfl (lv_at hl 2 rfl) ?_
    refine lv_i2l (v := x2.toInt64) hx hb dX6_belief_9 rfl ?_
    refine lv_ldc2 hx hb hown (hts _ wk_X6_167) dX6_belief_10 ?_
    refine lv_ldc2 hx hb hown (hts _ wk_X6_112) dX6_belief_13 ?_
    refine m_pSi (As := [.long x2.toInt64, .long 3, .long 4]) (rest := []) C0.z hb hml hl.1 wm_X6_49 md_X6_in (k_X6_in l x2.toInt64 3 4) rfl rfl ⟨(Nat.le_of_ble_eq_true rfl), (Nat.le_of_ble_eq_true rfl)⟩ rfl rfl (Nat.le_of_ble_eq_true rfl) dX6_belief_16 ?_
    refine lv_if_eq (tgt := 47) hx hb dX6_belief_19 (by decide) (fun (c_4 : (f_X6_in x2.toInt64 3 4) = 0) => ?_) (fun (c_4 : ¬ (f_X6_in x2.toInt64 3 4) = 0) => ?_)
    · rw [if_pos c_4] at h
      refine lv_aload_n hx hb dX6_belief_47 rfl (lv_at hl 0 rfl) ?_
      refine lv_ldc hx hb hown (hts _ wk_X6_46) dX6_belief_48 ?_
      obtain ⟨q_5, hq_6, h⟩ := bd_s h
      refine m_cVi (As := [.int (-1000001)]) (rest := []) (o := 0) (ci := 6) C0 hb hml hl.1 wm_X6_75 md_X6_finds (k_X6_finds l G a σ hj (-1000001) q_5 hq_6) rfl rfl ⟨(Nat.le_of_ble_eq_true rfl), (Nat.le_of_ble_eq_true rfl)⟩ hP hS (rfl : kM 0 = 6) (by decide) rfl rfl rfl (Nat.le_of_ble_eq_true rfl) dX6_belief_50 (fun H locs hP hS => ?_)
      exact m_ri hx hb hr hlk hP hS (Option.some.inj h) dX6_belief_53
    · rw [if_neg c_4] at h
      refine lv_iload_n hx hb dX6_belief_22 rfl (lv_at hl 3 rfl) ?_
      refine lv_i2l (v := x3.toInt64) hx hb dX6_belief_23 rfl ?_
      refine lv_lconst (v := 0) hx hb dX6_belief_24 (by decide) ?_
      refine lv_ldc2 hx hb hown (hts _ wk_X6_162) dX6_belief_25 ?_
      refine m_pSi (As := [.long x3.toInt64, .long 0, .long 100]) (rest := []) C0.z hb hml hl.1 wm_X6_49 md_X6_in (k_X6_in l x3.toInt64 0 100) rfl rfl ⟨(Nat.le_of_ble_eq_true rfl), (Nat.le_of_ble_eq_true rfl)⟩ rfl rfl (Nat.le_of_ble_eq_true rfl) dX6_belief_28 ?_
      refine lv_if_eq (tgt := 47) hx hb dX6_belief_31 (by decide) (fun (c_7 : (f_X6_in x3.toInt64 0 100) = 0) => ?_) (fun (c_7 : ¬ (f_X6_in x3.toInt64 0 100) = 0) => ?_)
      · rw [if_pos c_7] at h
        refine lv_aload_n hx hb dX6_belief_47 rfl (lv_at hl 0 rfl) ?_
        refine lv_ldc hx hb hown (hts _ wk_X6_46) dX6_belief_48 ?_
        obtain ⟨q_8, hq_9, h⟩ := bd_s h
        refine m_cVi (As := [.int (-1000001)]) (rest := []) (o := 0) (ci := 6) C0 hb hml hl.1 wm_X6_75 md_X6_finds (k_X6_finds l G a σ hj (-1000001) q_8 hq_9) rfl rfl ⟨(Nat.le_of_ble_eq_true rfl), (Nat.le_of_ble_eq_true rfl)⟩ hP hS (rfl : kM 0 = 6) (by decide) rfl rfl rfl (Nat.le_of_ble_eq_true rfl) dX6_belief_50 (fun H locs hP hS => ?_)
        exact m_ri hx hb hr hlk hP hS (Option.some.inj h) dX6_belief_53
      · rw [if_neg c_7] at h
        refine lv_aload_n hx hb dX6_belief_34 rfl (lv_at hl 0 rfl) ?_
        refine lv_iload_n hx hb dX6_belief_35 rfl (lv_at hl 1 rfl) ?_
        refine lv_iload_n hx hb dX6_belief_36 rfl (lv_at hl 2 rfl) ?_
        refine m_pSi (As := [.int x1, .int x2]) (rest := [.ref (a 0)]) C0.z hb hml hl.1 wm_X6_59 md_X6_place (k_X6_place l x1 x2) rfl rfl ⟨(Nat.le_of_ble_eq_true rfl), (Nat.le_of_ble_eq_true rfl)⟩ rfl rfl (Nat.le_of_ble_eq_true rfl) dX6_belief_37 ?_
        refine lv_iload_n hx hb dX6_belief_40 rfl (lv_at hl 3 rfl) ?_
        obtain ⟨q_10, hq_11, h⟩ := bd_s h
        refine m_cVi (As := [.int (f_X6_place x1 x2), .int x3]) (rest := []) (o := 0) (ci := 6) C0 hb hml hl.1 wm_X6_164 md_X6_behind (k_X6_behind l G a σ hj (f_X6_place x1 x2) x3 q_10 hq_11) rfl rfl ⟨(Nat.le_of_ble_eq_true rfl), (Nat.le_of_ble_eq_true rfl)⟩ hP hS (rfl : kM 0 = 6) (by decide) rfl rfl rfl (Nat.le_of_ble_eq_true rfl) dX6_belief_41 (fun H locs hP hS => ?_)
        refine lv_goto (tgt := 53) hx hb dX6_belief_44 (by decide) ?_
        exact m_ri hx hb hr hlk hP hS (Option.some.inj h) dX6_belief_53
def f_X6_orNone (x1 : Int32) (σ : Mem) : Option (Int32 × Mem) := (if x1 ≤ 200 then some (x1, σ) else ((f_X6_finds (-1000004) σ).bind fun q_2 => some (q_2.1, q_2.2)))
set_option maxHeartbeats 4000000 in
set_option maxRecDepth 100000 in
theorem k_X6_orNone (l : Launch) (G : GG) (a : Nat → Nat) (σ : Mem) (hj : INJ nM a) (x1 : Int32) (q : Int32 × Mem) (h : f_X6_orNone x1 σ = some q) : Met l yX6_orNone (Cond.code yX6_orNone cX6_orNone 2 (some .int) :: TB) ({ frames := 1, cells := 0, slots := 0, locals := 21 } : Room) (PA G kM nM a σ [.ref (a 0), .int x1]) (QI G kM nM a q) 0 0 (AW nM a) := by
  refine M_ofW (by decide) hj kM_lt (Nat.le_of_ble_eq_true rfl) (fun p e s m below meth c ls C0 hb hml hr hlk hP hS hl => ?_)
  have C0 : CT p s _ m RX6 G kM nM a := C0
  have hx := C0.1
  have hts := C0.2.1
  have hown := C0.2.2.1
  have hl : lv_has ls 2 [(0, .ref (a 0)), (1, .int x1)] := hl
  unfold f_X6_orNone at h
  refine lv_iload_n hx hb dX6_orNone_0 rfl (lv_at hl 1 rfl) ?_
  refine lv_sipush (v := 200) hx hb dX6_orNone_1 (by decide) ?_
  refine lv_icmp_le (tgt := 16) hx hb dX6_orNone_4 (by decide) (fun (c_1 : x1 ≤ 200) => ?_) (fun (c_1 : ¬ x1 ≤ 200) => ?_)
  · rw [if_pos c_1] at h
    refine lv_iload_n hx hb dX6_orNone_16 rfl (lv_at hl 1 rfl) ?_
    exact m_ri hx hb hr hlk hP hS (Option.some.inj h) dX6_orNone_17
  · rw [if_neg c_1] at h
    refine lv_aload_n hx hb dX6_orNone_7 rfl (lv_at hl 0 rfl) ?_
    refine lv_ldc hx hb hown (hts _ wk_X6_169) dX6_orNone_8 ?_
    obtain ⟨q_2, hq_3, h⟩ := bd_s h
    refine m_cVi (As := [.int (-1000004)]) (rest := []) (o := 0) (ci := 6) C0 hb hml hl.1 wm_X6_75 md_X6_finds (k_X6_finds l G a σ hj (-1000004) q_2 hq_3) rfl rfl ⟨(Nat.le_of_ble_eq_true rfl), (Nat.le_of_ble_eq_true rfl)⟩ hP hS (rfl : kM 0 = 6) (by decide) rfl rfl rfl (Nat.le_of_ble_eq_true rfl) dX6_orNone_10 (fun H locs hP hS => ?_)
    refine lv_goto (tgt := 17) hx hb dX6_orNone_13 (by decide) ?_
    exact m_ri hx hb hr hlk hP hS (Option.some.inj h) dX6_orNone_17
def f_X6_until_J42 (x4_3 : Int32) (σ_4 : Mem) (rec7 : Int32 → Mem → Option (Int32 × Mem)) : Option (Int32 × Mem) := ((f_X6_hour σ_4).bind fun q_8 => (rec7 (x4_3 + 1) q_8))
def f_X6_until_B7 (x1 : Int32) (x2 : Int32) (x3 : Int32) (rec7 : Int32 → Mem → Option (Int32 × Mem)) (x4_3 : Int32) (σ_4 : Mem) : Option (Int32 × Mem) := (if 200 < x4_3 then ((f_X6_takesBack x4_3 σ_4).bind fun q_6 => some (q_6.1, q_6.2)) else (if x3 = 0 then (chk x1 74 (if x2 ≤ (σ_4 1 x1.toNatClampNeg) then ((f_X6_takesBack x4_3 σ_4).bind fun q_14 => some (q_14.1, q_14.2)) else (f_X6_until_J42 x4_3 σ_4 rec7))) else (chk x1 74 (if (σ_4 1 x1.toNatClampNeg) ≤ x2 then ((f_X6_takesBack x4_3 σ_4).bind fun q_18 => some (q_18.1, q_18.2)) else (f_X6_until_J42 x4_3 σ_4 rec7)))))
def f_X6_until (x1 : Int32) (x2 : Int32) (x3 : Int32) (σ : Mem) : Option (Int32 × Mem) := ((f_X6_laysAside σ).bind fun q_1 => (it2 (f_X6_until_B7 x1 x2 x3) FU 0 q_1))
set_option maxHeartbeats 4000000 in
set_option maxRecDepth 100000 in
theorem k_X6_until (l : Launch) (G : GG) (a : Nat → Nat) (σ : Mem) (hj : INJ nM a) (x1 : Int32) (x2 : Int32) (x3 : Int32) (q : Int32 × Mem) (h : f_X6_until x1 x2 x3 σ = some q) : Met l yX6_until (Cond.code yX6_until cX6_until 5 (some .int) :: TB) ({ frames := 5, cells := 0, slots := 0, locals := 110 } : Room) (PA G kM nM a σ [.ref (a 0), .int x1, .int x2, .int x3]) (QI G kM nM a q) 0 0 (AW nM a) := by
  refine M_ofW (by decide) hj kM_lt (Nat.le_of_ble_eq_true rfl) (fun p e s m below meth c ls C0 hb hml hr hlk hP hS hl => ?_)
  have C0 : CT p s _ m RX6 G kM nM a := C0
  have hx := C0.1
  have hts := C0.2.1
  have hown := C0.2.2.1
  have hl : lv_has ls 5 [(0, .ref (a 0)), (1, .int x1), (2, .int x2), (3, .int x3)] := hl
  unfold f_X6_until at h
  refine lv_aload_n hx hb dX6_until_0 rfl (lv_at hl 0 rfl) ?_
  obtain ⟨q_1, hq_2, h⟩ := bd_s h
  refine m_cVv (As := []) (rest := []) (o := 0) (ci := 6) C0 hb hml hl.1 wm_X6_156 md_X6_laysAside (k_X6_laysAside l G a σ hj q_1 hq_2) rfl rfl ⟨(Nat.le_of_ble_eq_true rfl), (Nat.le_of_ble_eq_true rfl)⟩ hP hS (rfl : kM 0 = 6) (by decide) rfl rfl rfl (Nat.le_of_ble_eq_true rfl) dX6_until_1 (fun H locs hP hS => ?_)
  refine lv_iconst (v := 0) hx hb dX6_until_4 (by decide) ?_
  refine lv_istore (lv' := [(4, .int 0), (0, .ref (a 0)), (1, .int x1), (2, .int x2), (3, .int x3)]) hx hb dX6_until_5 hl (by decide) rfl (fun ls hl => ?_)
  have L_20 : ∀ (fu7 : Nat) (x4_3 : Int32) (σ_4 : Mem) (H : Heap) (locs : List Loc) (ls : Array Slot), it2 (f_X6_until_B7 x1 x2 x3) fu7 x4_3 σ_4 = some q → HP G kM nM a σ_4 H → va_S (AW nM a) s.heap H locs → lv_has ls 5 [(4, .int x4_3), (0, .ref (a 0)), (1, .int x1), (2, .int x2), (3, .int x3)] → W p l e ({ frames := 5, cells := 0, slots := 0, locals := 110 } : Room) s m ([.ref (a 0), .int x1, .int x2, .int x3] : List Value).toArray below meth c H locs 0 0 (MQ below (QI G kM nM a q) ([.ref (a 0), .int x1, .int x2, .int x3] : List Value).toArray s 0 0 (AW nM a)) (F0 m 7 ls []) := by
    intro fu7
    induction fu7 with
    | zero =>
      intro x4_3 σ_4 H locs ls h
      cases h
    | succ fu7 ih7 =>
      intro x4_3 σ_4 H locs ls h hP hS hl
      replace h : (f_X6_until_B7 x1 x2 x3) (it2 (f_X6_until_B7 x1 x2 x3) fu7) x4_3 σ_4 = some q := h
      generalize it2 (f_X6_until_B7 x1 x2 x3) fu7 = rec7 at h ih7
      unfold f_X6_until_B7 at h
      refine lv_iload hx hb dX6_until_7 (lv_at hl 0 rfl) ?_
      refine lv_sipush (v := 200) hx hb dX6_until_9 (by decide) ?_
      refine lv_icmp_gt (tgt := 52) hx hb dX6_until_12 (by decide) (fun (c_5 : 200 < x4_3) => ?_) (fun (c_5 : ¬ 200 < x4_3) => ?_)
      · rw [if_pos c_5] at h
        refine lv_aload_n hx hb dX6_until_52 rfl (lv_at hl 1 rfl) ?_
        refine lv_iload hx hb dX6_until_53 (lv_at hl 0 rfl) ?_
        obtain ⟨q_6, hq_7, h⟩ := bd_s h
        refine m_cVi (As := [.int x4_3]) (rest := []) (o := 0) (ci := 6) C0 hb hml hl.1 wm_X6_159 md_X6_takesBack (k_X6_takesBack l G a σ_4 hj x4_3 q_6 hq_7) rfl rfl ⟨(Nat.le_of_ble_eq_true rfl), (Nat.le_of_ble_eq_true rfl)⟩ hP hS (rfl : kM 0 = 6) (by decide) rfl rfl rfl (Nat.le_of_ble_eq_true rfl) dX6_until_55 (fun H locs hP hS => ?_)
        exact m_ri hx hb hr hlk hP hS (Option.some.inj h) dX6_until_58
      · rw [if_neg c_5] at h
        refine lv_iload_n hx hb dX6_until_15 rfl (lv_at hl 4 rfl) ?_
        have J_10 : ∀  (H : Heap) (locs : List Loc) (ls : Array Slot), f_X6_until_J42 x4_3 σ_4 rec7 = some q → HP G kM nM a σ_4 H → va_S (AW nM a) s.heap H locs → lv_has ls 5 [(4, .int x4_3), (0, .ref (a 0)), (1, .int x1), (2, .int x2), (3, .int x3)] → W p l e ({ frames := 5, cells := 0, slots := 0, locals := 110 } : Room) s m ([.ref (a 0), .int x1, .int x2, .int x3] : List Value).toArray below meth c H locs 0 0 (MQ below (QI G kM nM a q) ([.ref (a 0), .int x1, .int x2, .int x3] : List Value).toArray s 0 0 (AW nM a)) (F0 m 42 ls []) := by
          intro  H locs ls h hP hS hl
          unfold f_X6_until_J42 at h
          refine lv_aload_n hx hb dX6_until_42 rfl (lv_at hl 1 rfl) ?_
          obtain ⟨q_8, hq_9, h⟩ := bd_s h
          refine m_cVv (As := []) (rest := []) (o := 0) (ci := 6) C0 hb hml hl.1 wm_X6_134 md_X6_hour (k_X6_hour l G a σ_4 hj q_8 hq_9) rfl rfl ⟨(Nat.le_of_ble_eq_true rfl), (Nat.le_of_ble_eq_true rfl)⟩ hP hS (rfl : kM 0 = 6) (by decide) rfl rfl rfl (Nat.le_of_ble_eq_true rfl) dX6_until_43 (fun H locs hP hS => ?_)
          refine lv_iinc (v := x4_3 + 1) (lv' := [(4, .int (x4_3 + 1)), (0, .ref (a 0)), (1, .int x1), (2, .int x2), (3, .int x3)]) hx hb dX6_until_46 hl (k := 0) rfl rfl (by decide) rfl (fun ls hl => ?_)
          refine lv_goto (tgt := 7) hx hb dX6_until_49 (by decide) ?_
          exact ih7 (x4_3 + 1) q_8 _ _ _ h hP hS (lv_sub hl [0, 1, 2, 3, 4] rfl)
        refine lv_if_eq (tgt := 32) hx hb dX6_until_16 (by decide) (fun (c_11 : x3 = 0) => ?_) (fun (c_11 : ¬ x3 = 0) => ?_)
        · rw [if_pos c_11] at h
          refine lv_aload_n hx hb dX6_until_32 rfl (lv_at hl 1 rfl) ?_
          refine gf_X6_7 (o := 0) (o2 := 1) C0 hb hP (rfl : kM 0 = 6) rfl dX6_until_33 ?_
          refine lv_iload_n hx hb dX6_until_36 rfl (lv_at hl 2 rfl) ?_
          obtain ⟨hi_12, h⟩ := chk_s h
          refine m_iald (o := 1) (N := 74) (i := x1) (j := x1.toNatClampNeg) C0 hb hP (rfl : kM 1 = 100 + 74) (by decide) hi_12 rfl dX6_until_37 ?_
          refine lv_iload_n hx hb dX6_until_38 rfl (lv_at hl 3 rfl) ?_
          refine lv_icmp_ge (tgt := 52) hx hb dX6_until_39 (by decide) (fun (c_13 : x2 ≤ (σ_4 1 x1.toNatClampNeg)) => ?_) (fun (c_13 : ¬ x2 ≤ (σ_4 1 x1.toNatClampNeg)) => ?_)
          · rw [if_pos c_13] at h
            refine lv_aload_n hx hb dX6_until_52 rfl (lv_at hl 1 rfl) ?_
            refine lv_iload hx hb dX6_until_53 (lv_at hl 0 rfl) ?_
            obtain ⟨q_14, hq_15, h⟩ := bd_s h
            refine m_cVi (As := [.int x4_3]) (rest := []) (o := 0) (ci := 6) C0 hb hml hl.1 wm_X6_159 md_X6_takesBack (k_X6_takesBack l G a σ_4 hj x4_3 q_14 hq_15) rfl rfl ⟨(Nat.le_of_ble_eq_true rfl), (Nat.le_of_ble_eq_true rfl)⟩ hP hS (rfl : kM 0 = 6) (by decide) rfl rfl rfl (Nat.le_of_ble_eq_true rfl) dX6_until_55 (fun H locs hP hS => ?_)
            exact m_ri hx hb hr hlk hP hS (Option.some.inj h) dX6_until_58
          · rw [if_neg c_13] at h
            exact J_10  _ _ _ h hP hS (lv_sub hl [0, 1, 2, 3, 4] rfl)
        · rw [if_neg c_11] at h
          refine lv_aload_n hx hb dX6_until_19 rfl (lv_at hl 1 rfl) ?_
          refine gf_X6_7 (o := 0) (o2 := 1) C0 hb hP (rfl : kM 0 = 6) rfl dX6_until_20 ?_
          refine lv_iload_n hx hb dX6_until_23 rfl (lv_at hl 2 rfl) ?_
          obtain ⟨hi_16, h⟩ := chk_s h
          refine m_iald (o := 1) (N := 74) (i := x1) (j := x1.toNatClampNeg) C0 hb hP (rfl : kM 1 = 100 + 74) (by decide) hi_16 rfl dX6_until_24 ?_
          refine lv_iload_n hx hb dX6_until_25 rfl (lv_at hl 3 rfl) ?_
          refine lv_icmp_le (tgt := 52) hx hb dX6_until_26 (by decide) (fun (c_17 : (σ_4 1 x1.toNatClampNeg) ≤ x2) => ?_) (fun (c_17 : ¬ (σ_4 1 x1.toNatClampNeg) ≤ x2) => ?_)
          · rw [if_pos c_17] at h
            refine lv_aload_n hx hb dX6_until_52 rfl (lv_at hl 1 rfl) ?_
            refine lv_iload hx hb dX6_until_53 (lv_at hl 0 rfl) ?_
            obtain ⟨q_18, hq_19, h⟩ := bd_s h
            refine m_cVi (As := [.int x4_3]) (rest := []) (o := 0) (ci := 6) C0 hb hml hl.1 wm_X6_159 md_X6_takesBack (k_X6_takesBack l G a σ_4 hj x4_3 q_18 hq_19) rfl rfl ⟨(Nat.le_of_ble_eq_true rfl), (Nat.le_of_ble_eq_true rfl)⟩ hP hS (rfl : kM 0 = 6) (by decide) rfl rfl rfl (Nat.le_of_ble_eq_true rfl) dX6_until_55 (fun H locs hP hS => ?_)
            exact m_ri hx hb hr hlk hP hS (Option.some.inj h) dX6_until_58
          · rw [if_neg c_17] at h
            refine lv_goto (tgt := 42) hx hb dX6_until_29 (by decide) ?_
            exact J_10  _ _ _ h hP hS (lv_sub hl [0, 1, 2, 3, 4] rfl)
  exact L_20 FU 0 q_1 _ _ _ h hP hS (lv_sub hl [0, 1, 2, 3, 4] rfl)
def f_X6_when (x1 : Int32) (σ : Mem) : Option (Int32 × Mem) := (if (f_X6_isWatcher x1 σ) = 0 then ((f_X6_finds (-1000001) σ).bind fun q_2 => some (q_2.1, q_2.2)) else ((f_X6_until (f_X6_place x1 3) 0 1 σ).bind fun q_4 => ((f_X6_orNone q_4.1 q_4.2).bind fun q_6 => some (q_6.1, q_6.2))))
set_option maxHeartbeats 4000000 in
set_option maxRecDepth 100000 in
theorem k_X6_when (l : Launch) (G : GG) (a : Nat → Nat) (σ : Mem) (hj : INJ nM a) (x1 : Int32) (q : Int32 × Mem) (h : f_X6_when x1 σ = some q) : Met l yX6_when (Cond.code yX6_when cX6_when 2 (some .int) :: TB) ({ frames := 6, cells := 0, slots := 0, locals := 134 } : Room) (PA G kM nM a σ [.ref (a 0), .int x1]) (QI G kM nM a q) 0 0 (AW nM a) := by
  refine M_ofW (by decide) hj kM_lt (Nat.le_of_ble_eq_true rfl) (fun p e s m below meth c ls C0 hb hml hr hlk hP hS hl => ?_)
  have C0 : CT p s _ m RX6 G kM nM a := C0
  have hx := C0.1
  have hts := C0.2.1
  have hown := C0.2.2.1
  have hl : lv_has ls 2 [(0, .ref (a 0)), (1, .int x1)] := hl
  unfold f_X6_when at h
  refine lv_aload_n hx hb dX6_when_0 rfl (lv_at hl 0 rfl) ?_
  refine lv_iload_n hx hb dX6_when_1 rfl (lv_at hl 1 rfl) ?_
  refine m_rVi (As := [.int x1]) (rest := []) (o := 0) (ci := 6) C0 hb hml hl.1 wm_X6_100 md_X6_isWatcher (k_X6_isWatcher l G a σ hj x1) rfl rfl ⟨(Nat.le_of_ble_eq_true rfl), (Nat.le_of_ble_eq_true rfl)⟩ hP hS (rfl : kM 0 = 6) (by decide) rfl rfl rfl (Nat.le_of_ble_eq_true rfl) dX6_when_2 ?_
  refine lv_if_eq (tgt := 26) hx hb dX6_when_5 (by decide) (fun (c_1 : (f_X6_isWatcher x1 σ) = 0) => ?_) (fun (c_1 : ¬ (f_X6_isWatcher x1 σ) = 0) => ?_)
  · rw [if_pos c_1] at h
    refine lv_aload_n hx hb dX6_when_26 rfl (lv_at hl 0 rfl) ?_
    refine lv_ldc hx hb hown (hts _ wk_X6_46) dX6_when_27 ?_
    obtain ⟨q_2, hq_3, h⟩ := bd_s h
    refine m_cVi (As := [.int (-1000001)]) (rest := []) (o := 0) (ci := 6) C0 hb hml hl.1 wm_X6_75 md_X6_finds (k_X6_finds l G a σ hj (-1000001) q_2 hq_3) rfl rfl ⟨(Nat.le_of_ble_eq_true rfl), (Nat.le_of_ble_eq_true rfl)⟩ hP hS (rfl : kM 0 = 6) (by decide) rfl rfl rfl (Nat.le_of_ble_eq_true rfl) dX6_when_29 (fun H locs hP hS => ?_)
    exact m_ri hx hb hr hlk hP hS (Option.some.inj h) dX6_when_32
  · rw [if_neg c_1] at h
    refine lv_aload_n hx hb dX6_when_8 rfl (lv_at hl 0 rfl) ?_
    refine lv_aload_n hx hb dX6_when_9 rfl (lv_at hl 0 rfl) ?_
    refine lv_iload_n hx hb dX6_when_10 rfl (lv_at hl 1 rfl) ?_
    refine lv_iconst (v := 3) hx hb dX6_when_11 (by decide) ?_
    refine m_pSi (As := [.int x1, .int 3]) (rest := [.ref (a 0), .ref (a 0)]) C0.z hb hml hl.1 wm_X6_59 md_X6_place (k_X6_place l x1 3) rfl rfl ⟨(Nat.le_of_ble_eq_true rfl), (Nat.le_of_ble_eq_true rfl)⟩ rfl rfl (Nat.le_of_ble_eq_true rfl) dX6_when_12 ?_
    refine lv_iconst (v := 0) hx hb dX6_when_15 (by decide) ?_
    refine lv_iconst (v := 1) hx hb dX6_when_16 (by decide) ?_
    obtain ⟨q_4, hq_5, h⟩ := bd_s h
    refine m_cVi (As := [.int (f_X6_place x1 3), .int 0, .int 1]) (rest := [.ref (a 0)]) (o := 0) (ci := 6) C0 hb hml hl.1 wm_X6_170 md_X6_until (k_X6_until l G a σ hj (f_X6_place x1 3) 0 1 q_4 hq_5) rfl rfl ⟨(Nat.le_of_ble_eq_true rfl), (Nat.le_of_ble_eq_true rfl)⟩ hP hS (rfl : kM 0 = 6) (by decide) rfl rfl rfl (Nat.le_of_ble_eq_true rfl) dX6_when_17 (fun H locs hP hS => ?_)
    obtain ⟨q_6, hq_7, h⟩ := bd_s h
    refine m_cVi (As := [.int q_4.1]) (rest := []) (o := 0) (ci := 6) C0 hb hml hl.1 wm_X6_174 md_X6_orNone (k_X6_orNone l G a q_4.2 hj q_4.1 q_6 hq_7) rfl rfl ⟨(Nat.le_of_ble_eq_true rfl), (Nat.le_of_ble_eq_true rfl)⟩ hP hS (rfl : kM 0 = 6) (by decide) rfl rfl rfl (Nat.le_of_ble_eq_true rfl) dX6_when_20 (fun H locs hP hS => ?_)
    refine lv_goto (tgt := 32) hx hb dX6_when_23 (by decide) ?_
    exact m_ri hx hb hr hlk hP hS (Option.some.inj h) dX6_when_32
def f_X6_first_J55 (x3_3 : Int32) (rec8 : Int32 → Int32 → Int32 → Mem → Option (Int32 × Mem)) (q_9 : Int32 × Mem) (t_11 : Int32) (t_12 : Int32) : Option (Int32 × Mem) := (rec8 t_11 t_12 (x3_3 + 1) q_9.2)
def f_X6_first_J42 (x2_2 : Int32) (x3_3 : Int32) (rec8 : Int32 → Int32 → Int32 → Mem → Option (Int32 × Mem)) (q_9 : Int32 × Mem) (t_11 : Int32) : Option (Int32 × Mem) := (f_X6_first_J55 x3_3 rec8 q_9 t_11 (if x2_2 ≤ q_9.1 then x2_2 else q_9.1))
def f_X6_first_B8  (rec8 : Int32 → Int32 → Int32 → Mem → Option (Int32 × Mem)) (x1_1 : Int32) (x2_2 : Int32) (x3_3 : Int32) (σ_4 : Mem) : Option (Int32 × Mem) := (if (σ_4 1 1) ≤ x3_3 then (if 0 ≤ x1_1 then some (x1_1, σ_4) else ((f_X6_finds (-1000004) σ_4).bind fun q_7 => some (q_7.1, q_7.2))) else ((f_X6_until (f_X6_place x3_3 3) 0 1 σ_4).bind fun q_9 => (f_X6_first_J42 x2_2 x3_3 rec8 q_9 (if x2_2 ≤ q_9.1 then x1_1 else x3_3))))
def f_X6_first (σ : Mem) : Option (Int32 × Mem) := (it4 f_X6_first_B8 FU (-1) 201 0 σ)
set_option maxHeartbeats 4000000 in
set_option maxRecDepth 100000 in
theorem k_X6_first (l : Launch) (G : GG) (a : Nat → Nat) (σ : Mem) (hj : INJ nM a)  (q : Int32 × Mem) (h : f_X6_first σ = some q) : Met l yX6_first (Cond.code yX6_first cX6_first 5 (some .int) :: TB) ({ frames := 6, cells := 0, slots := 0, locals := 134 } : Room) (PA G kM nM a σ [.ref (a 0)]) (QI G kM nM a q) 0 0 (AW nM a) := by
  refine M_ofW (by decide) hj kM_lt (Nat.le_of_ble_eq_true rfl) (fun p e s m below meth c ls C0 hb hml hr hlk hP hS hl => ?_)
  have C0 : CT p s _ m RX6 G kM nM a := C0
  have hx := C0.1
  have hts := C0.2.1
  have hown := C0.2.2.1
  have hl : lv_has ls 5 [(0, .ref (a 0))] := hl
  unfold f_X6_first at h
  refine lv_iconst (v := (-1)) hx hb dX6_first_0 (by decide) ?_
  refine lv_istore_n (lv' := [(1, .int (-1)), (0, .ref (a 0))]) hx hb dX6_first_1 rfl hl (by decide) rfl (fun ls hl => ?_)
  refine lv_sipush (v := 201) hx hb dX6_first_2 (by decide) ?_
  refine lv_istore_n (lv' := [(2, .int 201), (1, .int (-1)), (0, .ref (a 0))]) hx hb dX6_first_5 rfl hl (by decide) rfl (fun ls hl => ?_)
  refine lv_iconst (v := 0) hx hb dX6_first_6 (by decide) ?_
  refine lv_istore_n (lv' := [(3, .int 0), (2, .int 201), (1, .int (-1)), (0, .ref (a 0))]) hx hb dX6_first_7 rfl hl (by decide) rfl (fun ls hl => ?_)
  have L_17 : ∀ (fu8 : Nat) (x1_1 : Int32) (x2_2 : Int32) (x3_3 : Int32) (σ_4 : Mem) (H : Heap) (locs : List Loc) (ls : Array Slot), it4 f_X6_first_B8 fu8 x1_1 x2_2 x3_3 σ_4 = some q → HP G kM nM a σ_4 H → va_S (AW nM a) s.heap H locs → lv_has ls 5 [(3, .int x3_3), (2, .int x2_2), (1, .int x1_1), (0, .ref (a 0))] → W p l e ({ frames := 6, cells := 0, slots := 0, locals := 134 } : Room) s m ([.ref (a 0)] : List Value).toArray below meth c H locs 0 0 (MQ below (QI G kM nM a q) ([.ref (a 0)] : List Value).toArray s 0 0 (AW nM a)) (F0 m 8 ls []) := by
    intro fu8
    induction fu8 with
    | zero =>
      intro x1_1 x2_2 x3_3 σ_4 H locs ls h
      cases h
    | succ fu8 ih8 =>
      intro x1_1 x2_2 x3_3 σ_4 H locs ls h hP hS hl
      replace h : f_X6_first_B8 (it4 f_X6_first_B8 fu8) x1_1 x2_2 x3_3 σ_4 = some q := h
      generalize it4 f_X6_first_B8 fu8 = rec8 at h ih8
      unfold f_X6_first_B8 at h
      refine lv_iload_n hx hb dX6_first_8 rfl (lv_at hl 0 rfl) ?_
      refine lv_aload_n hx hb dX6_first_9 rfl (lv_at hl 3 rfl) ?_
      refine gf_X6_7 (o := 0) (o2 := 1) C0 hb hP (rfl : kM 0 = 6) rfl dX6_first_10 ?_
      refine lv_iconst (v := 1) hx hb dX6_first_13 (by decide) ?_
      refine m_iald (o := 1) (N := 74) (i := 1) (j := 1) C0 hb hP (rfl : kM 1 = 100 + 74) (by decide) (show vp_in 1 74 by unfold vp_in; decide) (by decide) dX6_first_14 ?_
      refine lv_icmp_ge (tgt := 62) hx hb dX6_first_15 (by decide) (fun (c_5 : (σ_4 1 1) ≤ x3_3) => ?_) (fun (c_5 : ¬ (σ_4 1 1) ≤ x3_3) => ?_)
      · rw [if_pos c_5] at h
        refine lv_iload_n hx hb dX6_first_62 rfl (lv_at hl 2 rfl) ?_
        refine lv_if_ge (tgt := 75) hx hb dX6_first_63 (by decide) (fun (c_6 : 0 ≤ x1_1) => ?_) (fun (c_6 : ¬ 0 ≤ x1_1) => ?_)
        · rw [if_pos c_6] at h
          refine lv_iload_n hx hb dX6_first_75 rfl (lv_at hl 2 rfl) ?_
          exact m_ri hx hb hr hlk hP hS (Option.some.inj h) dX6_first_76
        · rw [if_neg c_6] at h
          refine lv_aload_n hx hb dX6_first_66 rfl (lv_at hl 3 rfl) ?_
          refine lv_ldc hx hb hown (hts _ wk_X6_169) dX6_first_67 ?_
          obtain ⟨q_7, hq_8, h⟩ := bd_s h
          refine m_cVi (As := [.int (-1000004)]) (rest := []) (o := 0) (ci := 6) C0 hb hml hl.1 wm_X6_75 md_X6_finds (k_X6_finds l G a σ_4 hj (-1000004) q_7 hq_8) rfl rfl ⟨(Nat.le_of_ble_eq_true rfl), (Nat.le_of_ble_eq_true rfl)⟩ hP hS (rfl : kM 0 = 6) (by decide) rfl rfl rfl (Nat.le_of_ble_eq_true rfl) dX6_first_69 (fun H locs hP hS => ?_)
          refine lv_goto (tgt := 76) hx hb dX6_first_72 (by decide) ?_
          exact m_ri hx hb hr hlk hP hS (Option.some.inj h) dX6_first_76
      · rw [if_neg c_5] at h
        refine lv_aload_n hx hb dX6_first_18 rfl (lv_at hl 3 rfl) ?_
        refine lv_iload_n hx hb dX6_first_19 rfl (lv_at hl 0 rfl) ?_
        refine lv_iconst (v := 3) hx hb dX6_first_20 (by decide) ?_
        refine m_pSi (As := [.int x3_3, .int 3]) (rest := [.ref (a 0)]) C0.z hb hml hl.1 wm_X6_59 md_X6_place (k_X6_place l x3_3 3) rfl rfl ⟨(Nat.le_of_ble_eq_true rfl), (Nat.le_of_ble_eq_true rfl)⟩ rfl rfl (Nat.le_of_ble_eq_true rfl) dX6_first_21 ?_
        refine lv_iconst (v := 0) hx hb dX6_first_24 (by decide) ?_
        refine lv_iconst (v := 1) hx hb dX6_first_25 (by decide) ?_
        obtain ⟨q_9, hq_10, h⟩ := bd_s h
        refine m_cVi (As := [.int (f_X6_place x3_3 3), .int 0, .int 1]) (rest := []) (o := 0) (ci := 6) C0 hb hml hl.1 wm_X6_170 md_X6_until (k_X6_until l G a σ_4 hj (f_X6_place x3_3 3) 0 1 q_9 hq_10) rfl rfl ⟨(Nat.le_of_ble_eq_true rfl), (Nat.le_of_ble_eq_true rfl)⟩ hP hS (rfl : kM 0 = 6) (by decide) rfl rfl rfl (Nat.le_of_ble_eq_true rfl) dX6_first_26 (fun H locs hP hS => ?_)
        refine lv_istore (lv' := [(4, .int q_9.1), (3, .int x3_3), (2, .int x2_2), (1, .int x1_1), (0, .ref (a 0))]) hx hb dX6_first_29 hl (by decide) rfl (fun ls hl => ?_)
        refine lv_iload hx hb dX6_first_31 (lv_at hl 0 rfl) ?_
        refine lv_iload_n hx hb dX6_first_33 rfl (lv_at hl 2 rfl) ?_
        have J_15 : ∀ (t_11 : Int32) (H : Heap) (locs : List Loc) (ls : Array Slot), f_X6_first_J42 x2_2 x3_3 rec8 q_9 t_11 = some q → HP G kM nM a q_9.2 H → va_S (AW nM a) s.heap H locs → lv_has ls 5 [(4, .int q_9.1), (3, .int x3_3), (2, .int x2_2), (0, .ref (a 0))] → W p l e ({ frames := 6, cells := 0, slots := 0, locals := 134 } : Room) s m ([.ref (a 0)] : List Value).toArray below meth c H locs 0 0 (MQ below (QI G kM nM a q) ([.ref (a 0)] : List Value).toArray s 0 0 (AW nM a)) (F0 m 42 ls [.int t_11]) := by
          intro t_11 H locs ls h hP hS hl
          unfold f_X6_first_J42 at h
          refine lv_istore_n (lv' := [(1, .int t_11), (4, .int q_9.1), (3, .int x3_3), (2, .int x2_2), (0, .ref (a 0))]) hx hb dX6_first_42 rfl hl (by decide) rfl (fun ls hl => ?_)
          refine lv_iload hx hb dX6_first_43 (lv_at hl 1 rfl) ?_
          refine lv_iload_n hx hb dX6_first_45 rfl (lv_at hl 3 rfl) ?_
          have J_13 : ∀ (t_12 : Int32) (H : Heap) (locs : List Loc) (ls : Array Slot), f_X6_first_J55 x3_3 rec8 q_9 t_11 t_12 = some q → HP G kM nM a q_9.2 H → va_S (AW nM a) s.heap H locs → lv_has ls 5 [(1, .int t_11), (3, .int x3_3), (0, .ref (a 0))] → W p l e ({ frames := 6, cells := 0, slots := 0, locals := 134 } : Room) s m ([.ref (a 0)] : List Value).toArray below meth c H locs 0 0 (MQ below (QI G kM nM a q) ([.ref (a 0)] : List Value).toArray s 0 0 (AW nM a)) (F0 m 55 ls [.int t_12]) := by
            intro t_12 H locs ls h hP hS hl
            unfold f_X6_first_J55 at h
            refine lv_istore_n (lv' := [(2, .int t_12), (1, .int t_11), (3, .int x3_3), (0, .ref (a 0))]) hx hb dX6_first_55 rfl hl (by decide) rfl (fun ls hl => ?_)
            refine lv_iinc (v := x3_3 + 1) (lv' := [(3, .int (x3_3 + 1)), (2, .int t_12), (1, .int t_11), (0, .ref (a 0))]) hx hb dX6_first_56 hl (k := 2) rfl rfl (by decide) rfl (fun ls hl => ?_)
            refine lv_goto (tgt := 8) hx hb dX6_first_59 (by decide) ?_
            exact ih8 t_11 t_12 (x3_3 + 1) q_9.2 _ _ _ h hP hS (lv_sub hl [0, 1, 2, 3] rfl)
          refine lv_icmp_ge (tgt := 54) hx hb dX6_first_46 (by decide) (fun (c_14 : x2_2 ≤ q_9.1) => ?_) (fun (c_14 : ¬ x2_2 ≤ q_9.1) => ?_)
          · rw [if_pos c_14] at h
            refine lv_iload_n hx hb dX6_first_54 rfl (lv_at hl 3 rfl) ?_
            exact J_13 x2_2 _ _ _ h hP hS (lv_sub hl [0, 2, 4] rfl)
          · rw [if_neg c_14] at h
            refine lv_iload hx hb dX6_first_49 (lv_at hl 1 rfl) ?_
            refine lv_goto (tgt := 55) hx hb dX6_first_51 (by decide) ?_
            exact J_13 q_9.1 _ _ _ h hP hS (lv_sub hl [0, 2, 4] rfl)
        refine lv_icmp_ge (tgt := 41) hx hb dX6_first_34 (by decide) (fun (c_16 : x2_2 ≤ q_9.1) => ?_) (fun (c_16 : ¬ x2_2 ≤ q_9.1) => ?_)
        · rw [if_pos c_16] at h
          refine lv_iload_n hx hb dX6_first_41 rfl (lv_at hl 3 rfl) ?_
          exact J_15 x1_1 _ _ _ h hP hS (lv_sub hl [0, 1, 2, 4] rfl)
        · rw [if_neg c_16] at h
          refine lv_iload_n hx hb dX6_first_37 rfl (lv_at hl 1 rfl) ?_
          refine lv_goto (tgt := 42) hx hb dX6_first_38 (by decide) ?_
          exact J_15 x3_3 _ _ _ h hP hS (lv_sub hl [0, 1, 2, 4] rfl)
  exact L_17 FU (-1) 201 0 σ _ _ _ h hP hS (lv_sub hl [0, 1, 2, 3] rfl)
def f_X6_reaches (x1 : Int32) (x2 : Int32) (σ : Mem) : Option (Int32 × Mem) := (if (f_X6_isCell x1) = 0 then ((f_X6_finds (-1000001) σ).bind fun q_2 => some (q_2.1, q_2.2)) else (if (f_X6_in x2.toInt64 0 9999) = 0 then ((f_X6_finds (-1000001) σ).bind fun q_5 => some (q_5.1, q_5.2)) else ((f_X6_until (12 + x1) x2 0 σ).bind fun q_7 => ((f_X6_orNone q_7.1 q_7.2).bind fun q_9 => some (q_9.1, q_9.2)))))
set_option maxHeartbeats 4000000 in
set_option maxRecDepth 100000 in
theorem k_X6_reaches (l : Launch) (G : GG) (a : Nat → Nat) (σ : Mem) (hj : INJ nM a) (x1 : Int32) (x2 : Int32) (q : Int32 × Mem) (h : f_X6_reaches x1 x2 σ = some q) : Met l yX6_reaches (Cond.code yX6_reaches cX6_reaches 3 (some .int) :: TB) ({ frames := 6, cells := 0, slots := 0, locals := 134 } : Room) (PA G kM nM a σ [.ref (a 0), .int x1, .int x2]) (QI G kM nM a q) 0 0 (AW nM a) := by
  refine M_ofW (by decide) hj kM_lt (Nat.le_of_ble_eq_true rfl) (fun p e s m below meth c ls C0 hb hml hr hlk hP hS hl => ?_)
  have C0 : CT p s _ m RX6 G kM nM a := C0
  have hx := C0.1
  have hts := C0.2.1
  have hown := C0.2.2.1
  have hl : lv_has ls 3 [(0, .ref (a 0)), (1, .int x1), (2, .int x2)] := hl
  unfold f_X6_reaches at h
  refine lv_iload_n hx hb dX6_reaches_0 rfl (lv_at hl 1 rfl) ?_
  refine m_pSi (As := [.int x1]) (rest := []) C0.z hb hml hl.1 wm_X6_66 md_X6_isCell (k_X6_isCell l x1) rfl rfl ⟨(Nat.le_of_ble_eq_true rfl), (Nat.le_of_ble_eq_true rfl)⟩ rfl rfl (Nat.le_of_ble_eq_true rfl) dX6_reaches_1 ?_
  refine lv_if_eq (tgt := 36) hx hb dX6_reaches_4 (by decide) (fun (c_1 : (f_X6_isCell x1) = 0) => ?_) (fun (c_1 : ¬ (f_X6_isCell x1) = 0) => ?_)
  · rw [if_pos c_1] at h
    refine lv_aload_n hx hb dX6_reaches_36 rfl (lv_at hl 0 rfl) ?_
    refine lv_ldc hx hb hown (hts _ wk_X6_46) dX6_reaches_37 ?_
    obtain ⟨q_2, hq_3, h⟩ := bd_s h
    refine m_cVi (As := [.int (-1000001)]) (rest := []) (o := 0) (ci := 6) C0 hb hml hl.1 wm_X6_75 md_X6_finds (k_X6_finds l G a σ hj (-1000001) q_2 hq_3) rfl rfl ⟨(Nat.le_of_ble_eq_true rfl), (Nat.le_of_ble_eq_true rfl)⟩ hP hS (rfl : kM 0 = 6) (by decide) rfl rfl rfl (Nat.le_of_ble_eq_true rfl) dX6_reaches_39 (fun H locs hP hS => ?_)
    exact m_ri hx hb hr hlk hP hS (Option.some.inj h) dX6_reaches_42
  · rw [if_neg c_1] at h
    refine lv_iload_n hx hb dX6_reaches_7 rfl (lv_at hl 2 rfl) ?_
    refine lv_i2l (v := x2.toInt64) hx hb dX6_reaches_8 rfl ?_
    refine lv_lconst (v := 0) hx hb dX6_reaches_9 (by decide) ?_
    refine lv_ldc2 hx hb hown (hts _ wk_X6_70) dX6_reaches_10 ?_
    refine m_pSi (As := [.long x2.toInt64, .long 0, .long 9999]) (rest := []) C0.z hb hml hl.1 wm_X6_49 md_X6_in (k_X6_in l x2.toInt64 0 9999) rfl rfl ⟨(Nat.le_of_ble_eq_true rfl), (Nat.le_of_ble_eq_true rfl)⟩ rfl rfl (Nat.le_of_ble_eq_true rfl) dX6_reaches_13 ?_
    refine lv_if_eq (tgt := 36) hx hb dX6_reaches_16 (by decide) (fun (c_4 : (f_X6_in x2.toInt64 0 9999) = 0) => ?_) (fun (c_4 : ¬ (f_X6_in x2.toInt64 0 9999) = 0) => ?_)
    · rw [if_pos c_4] at h
      refine lv_aload_n hx hb dX6_reaches_36 rfl (lv_at hl 0 rfl) ?_
      refine lv_ldc hx hb hown (hts _ wk_X6_46) dX6_reaches_37 ?_
      obtain ⟨q_5, hq_6, h⟩ := bd_s h
      refine m_cVi (As := [.int (-1000001)]) (rest := []) (o := 0) (ci := 6) C0 hb hml hl.1 wm_X6_75 md_X6_finds (k_X6_finds l G a σ hj (-1000001) q_5 hq_6) rfl rfl ⟨(Nat.le_of_ble_eq_true rfl), (Nat.le_of_ble_eq_true rfl)⟩ hP hS (rfl : kM 0 = 6) (by decide) rfl rfl rfl (Nat.le_of_ble_eq_true rfl) dX6_reaches_39 (fun H locs hP hS => ?_)
      exact m_ri hx hb hr hlk hP hS (Option.some.inj h) dX6_reaches_42
    · rw [if_neg c_4] at h
      refine lv_aload_n hx hb dX6_reaches_19 rfl (lv_at hl 0 rfl) ?_
      refine lv_aload_n hx hb dX6_reaches_20 rfl (lv_at hl 0 rfl) ?_
      refine lv_bipush (v := 12) hx hb dX6_reaches_21 (by decide) ?_
      refine lv_iload_n hx hb dX6_reaches_23 rfl (lv_at hl 1 rfl) ?_
      refine lv_iadd hx hb dX6_reaches_24 ?_
      refine lv_iload_n hx hb dX6_reaches_25 rfl (lv_at hl 2 rfl) ?_
      refine lv_iconst (v := 0) hx hb dX6_reaches_26 (by decide) ?_
      obtain ⟨q_7, hq_8, h⟩ := bd_s h
      refine m_cVi (As := [.int (12 + x1), .int x2, .int 0]) (rest := [.ref (a 0)]) (o := 0) (ci := 6) C0 hb hml hl.1 wm_X6_170 md_X6_until (k_X6_until l G a σ hj (12 + x1) x2 0 q_7 hq_8) rfl rfl ⟨(Nat.le_of_ble_eq_true rfl), (Nat.le_of_ble_eq_true rfl)⟩ hP hS (rfl : kM 0 = 6) (by decide) rfl rfl rfl (Nat.le_of_ble_eq_true rfl) dX6_reaches_27 (fun H locs hP hS => ?_)
      obtain ⟨q_9, hq_10, h⟩ := bd_s h
      refine m_cVi (As := [.int q_7.1]) (rest := []) (o := 0) (ci := 6) C0 hb hml hl.1 wm_X6_174 md_X6_orNone (k_X6_orNone l G a q_7.2 hj q_7.1 q_9 hq_10) rfl rfl ⟨(Nat.le_of_ble_eq_true rfl), (Nat.le_of_ble_eq_true rfl)⟩ hP hS (rfl : kM 0 = 6) (by decide) rfl rfl rfl (Nat.le_of_ble_eq_true rfl) dX6_reaches_30 (fun H locs hP hS => ?_)
      refine lv_goto (tgt := 42) hx hb dX6_reaches_33 (by decide) ?_
      exact m_ri hx hb hr hlk hP hS (Option.some.inj h) dX6_reaches_42
def f_X6_leastOf_J85 (x5_7 : Int32) (rec29 : Int32 → Int32 → Mem → Option (Int32 × Mem)) (q_12 : Mem) (t_15 : Int32) (t_16 : Int32) : Option (Int32 × Mem) := (rec29 t_15 (x5_7 + 1) (mst q_12 0 8 t_16))
def f_X6_leastOf_J64 (x1 : Int32) (x5_7 : Int32) (rec29 : Int32 → Int32 → Mem → Option (Int32 × Mem)) (q_12 : Mem) (t_15 : Int32) : Option (Int32 × Mem) := (f_X6_leastOf_J85 x5_7 rec29 q_12 t_15 (if (q_12 1 ((12 + x1).toNatClampNeg)) ≤ (q_12 0 8) then q_12 0 8 else q_12 1 ((12 + x1).toNatClampNeg)))
def f_X6_leastOf_B29 (x1 : Int32) (x3 : Int32) (rec29 : Int32 → Int32 → Mem → Option (Int32 × Mem)) (x4_6 : Int32) (x5_7 : Int32) (σ_8 : Mem) : Option (Int32 × Mem) := (if x3 ≤ x5_7 then ((f_X6_takesBack x4_6 σ_8).bind fun q_10 => some (q_10.1, q_10.2)) else ((f_X6_hour σ_8).bind fun q_12 => (chk (12 + x1) 74 (f_X6_leastOf_J64 x1 x5_7 rec29 q_12 (if x4_6 ≤ (q_12 1 ((12 + x1).toNatClampNeg)) then x4_6 else q_12 1 ((12 + x1).toNatClampNeg))))))
def f_X6_leastOf (x1 : Int32) (x2 : Int32) (x3 : Int32) (σ : Mem) : Option (Int32 × Mem) := ((f_X6_laysAside σ).bind fun q_1 => ((f_X6_goesOn x2 q_1).bind fun q_3 => (chk (12 + x1) 74 (it3 (f_X6_leastOf_B29 x1 x3) FU (q_3 1 ((12 + x1).toNatClampNeg)) x2 (mst q_3 0 8 (q_3 1 ((12 + x1).toNatClampNeg)))))))
set_option maxHeartbeats 4000000 in
set_option maxRecDepth 100000 in
theorem k_X6_leastOf (l : Launch) (G : GG) (a : Nat → Nat) (σ : Mem) (hj : INJ nM a) (x1 : Int32) (x2 : Int32) (x3 : Int32) (q : Int32 × Mem) (h : f_X6_leastOf x1 x2 x3 σ = some q) : Met l yX6_leastOf (Cond.code yX6_leastOf cX6_leastOf 7 (some .int) :: TB) ({ frames := 6, cells := 0, slots := 0, locals := 132 } : Room) (PA G kM nM a σ [.ref (a 0), .int x1, .int x2, .int x3]) (QI G kM nM a q) 0 0 (AW nM a) := by
  refine M_ofW (by decide) hj kM_lt (Nat.le_of_ble_eq_true rfl) (fun p e s m below meth c ls C0 hb hml hr hlk hP hS hl => ?_)
  have C0 : CT p s _ m RX6 G kM nM a := C0
  have hx := C0.1
  have hts := C0.2.1
  have hown := C0.2.2.1
  have hl : lv_has ls 7 [(0, .ref (a 0)), (1, .int x1), (2, .int x2), (3, .int x3)] := hl
  unfold f_X6_leastOf at h
  refine lv_aload_n hx hb dX6_leastOf_0 rfl (lv_at hl 0 rfl) ?_
  obtain ⟨q_1, hq_2, h⟩ := bd_s h
  refine m_cVv (As := []) (rest := []) (o := 0) (ci := 6) C0 hb hml hl.1 wm_X6_156 md_X6_laysAside (k_X6_laysAside l G a σ hj q_1 hq_2) rfl rfl ⟨(Nat.le_of_ble_eq_true rfl), (Nat.le_of_ble_eq_true rfl)⟩ hP hS (rfl : kM 0 = 6) (by decide) rfl rfl rfl (Nat.le_of_ble_eq_true rfl) dX6_leastOf_1 (fun H locs hP hS => ?_)
  refine lv_aload_n hx hb dX6_leastOf_4 rfl (lv_at hl 0 rfl) ?_
  refine lv_iload_n hx hb dX6_leastOf_5 rfl (lv_at hl 2 rfl) ?_
  obtain ⟨q_3, hq_4, h⟩ := bd_s h
  refine m_cVv (As := [.int x2]) (rest := []) (o := 0) (ci := 6) C0 hb hml hl.1 wm_X6_141 md_X6_goesOn (k_X6_goesOn l G a q_1 hj x2 q_3 hq_4) rfl rfl ⟨(Nat.le_of_ble_eq_true rfl), (Nat.le_of_ble_eq_true rfl)⟩ hP hS (rfl : kM 0 = 6) (by decide) rfl rfl rfl (Nat.le_of_ble_eq_true rfl) dX6_leastOf_6 (fun H locs hP hS => ?_)
  refine lv_aload_n hx hb dX6_leastOf_9 rfl (lv_at hl 0 rfl) ?_
  refine gf_X6_7 (o := 0) (o2 := 1) C0 hb hP (rfl : kM 0 = 6) rfl dX6_leastOf_10 ?_
  refine lv_bipush (v := 12) hx hb dX6_leastOf_13 (by decide) ?_
  refine lv_iload_n hx hb dX6_leastOf_15 rfl (lv_at hl 1 rfl) ?_
  refine lv_iadd hx hb dX6_leastOf_16 ?_
  obtain ⟨hi_5, h⟩ := chk_s h
  refine m_iald (o := 1) (N := 74) (i := 12 + x1) (j := (12 + x1).toNatClampNeg) C0 hb hP (rfl : kM 1 = 100 + 74) (by decide) hi_5 rfl dX6_leastOf_17 ?_
  refine lv_istore (lv' := [(4, .int (q_3 1 ((12 + x1).toNatClampNeg))), (0, .ref (a 0)), (1, .int x1), (2, .int x2), (3, .int x3)]) hx hb dX6_leastOf_18 hl (by decide) rfl (fun ls hl => ?_)
  refine lv_aload_n hx hb dX6_leastOf_20 rfl (lv_at hl 1 rfl) ?_
  refine lv_iload hx hb dX6_leastOf_21 (lv_at hl 0 rfl) ?_
  refine pf_X6_177 (o := 0) C0 hb hP hS (rfl : kM 0 = 6) dX6_leastOf_23 (fun H locs hP hS => ?_)
  refine lv_iload_n hx hb dX6_leastOf_26 rfl (lv_at hl 3 rfl) ?_
  refine lv_istore (lv' := [(5, .int x2), (4, .int (q_3 1 ((12 + x1).toNatClampNeg))), (0, .ref (a 0)), (1, .int x1), (2, .int x2), (3, .int x3)]) hx hb dX6_leastOf_27 hl (by decide) rfl (fun ls hl => ?_)
  have L_21 : ∀ (fu29 : Nat) (x4_6 : Int32) (x5_7 : Int32) (σ_8 : Mem) (H : Heap) (locs : List Loc) (ls : Array Slot), it3 (f_X6_leastOf_B29 x1 x3) fu29 x4_6 x5_7 σ_8 = some q → HP G kM nM a σ_8 H → va_S (AW nM a) s.heap H locs → lv_has ls 7 [(5, .int x5_7), (4, .int x4_6), (0, .ref (a 0)), (1, .int x1), (3, .int x3)] → W p l e ({ frames := 6, cells := 0, slots := 0, locals := 132 } : Room) s m ([.ref (a 0), .int x1, .int x2, .int x3] : List Value).toArray below meth c H locs 0 0 (MQ below (QI G kM nM a q) ([.ref (a 0), .int x1, .int x2, .int x3] : List Value).toArray s 0 0 (AW nM a)) (F0 m 29 ls []) := by
    intro fu29
    induction fu29 with
    | zero =>
      intro x4_6 x5_7 σ_8 H locs ls h
      cases h
    | succ fu29 ih29 =>
      intro x4_6 x5_7 σ_8 H locs ls h hP hS hl
      replace h : (f_X6_leastOf_B29 x1 x3) (it3 (f_X6_leastOf_B29 x1 x3) fu29) x4_6 x5_7 σ_8 = some q := h
      generalize it3 (f_X6_leastOf_B29 x1 x3) fu29 = rec29 at h ih29
      unfold f_X6_leastOf_B29 at h
      refine lv_iload hx hb dX6_leastOf_29 (lv_at hl 0 rfl) ?_
      refine lv_iload_n hx hb dX6_leastOf_31 rfl (lv_at hl 4 rfl) ?_
      refine lv_icmp_ge (tgt := 94) hx hb dX6_leastOf_32 (by decide) (fun (c_9 : x3 ≤ x5_7) => ?_) (fun (c_9 : ¬ x3 ≤ x5_7) => ?_)
      · rw [if_pos c_9] at h
        refine lv_aload_n hx hb dX6_leastOf_94 rfl (lv_at hl 2 rfl) ?_
        refine lv_iload hx hb dX6_leastOf_95 (lv_at hl 1 rfl) ?_
        obtain ⟨q_10, hq_11, h⟩ := bd_s h
        refine m_cVi (As := [.int x4_6]) (rest := []) (o := 0) (ci := 6) C0 hb hml hl.1 wm_X6_159 md_X6_takesBack (k_X6_takesBack l G a σ_8 hj x4_6 q_10 hq_11) rfl rfl ⟨(Nat.le_of_ble_eq_true rfl), (Nat.le_of_ble_eq_true rfl)⟩ hP hS (rfl : kM 0 = 6) (by decide) rfl rfl rfl (Nat.le_of_ble_eq_true rfl) dX6_leastOf_97 (fun H locs hP hS => ?_)
        exact m_ri hx hb hr hlk hP hS (Option.some.inj h) dX6_leastOf_100
      · rw [if_neg c_9] at h
        refine lv_aload_n hx hb dX6_leastOf_35 rfl (lv_at hl 2 rfl) ?_
        obtain ⟨q_12, hq_13, h⟩ := bd_s h
        refine m_cVv (As := []) (rest := []) (o := 0) (ci := 6) C0 hb hml hl.1 wm_X6_134 md_X6_hour (k_X6_hour l G a σ_8 hj q_12 hq_13) rfl rfl ⟨(Nat.le_of_ble_eq_true rfl), (Nat.le_of_ble_eq_true rfl)⟩ hP hS (rfl : kM 0 = 6) (by decide) rfl rfl rfl (Nat.le_of_ble_eq_true rfl) dX6_leastOf_36 (fun H locs hP hS => ?_)
        refine lv_aload_n hx hb dX6_leastOf_39 rfl (lv_at hl 2 rfl) ?_
        refine gf_X6_7 (o := 0) (o2 := 1) C0 hb hP (rfl : kM 0 = 6) rfl dX6_leastOf_40 ?_
        refine lv_bipush (v := 12) hx hb dX6_leastOf_43 (by decide) ?_
        refine lv_iload_n hx hb dX6_leastOf_45 rfl (lv_at hl 3 rfl) ?_
        refine lv_iadd hx hb dX6_leastOf_46 ?_
        obtain ⟨hi_14, h⟩ := chk_s h
        refine m_iald (o := 1) (N := 74) (i := 12 + x1) (j := (12 + x1).toNatClampNeg) C0 hb hP (rfl : kM 1 = 100 + 74) (by decide) hi_14 rfl dX6_leastOf_47 ?_
        refine lv_istore (lv' := [(6, .int (q_12 1 ((12 + x1).toNatClampNeg))), (5, .int x5_7), (4, .int x4_6), (0, .ref (a 0)), (1, .int x1), (3, .int x3)]) hx hb dX6_leastOf_48 hl (by decide) rfl (fun ls hl => ?_)
        refine lv_iload hx hb dX6_leastOf_50 (lv_at hl 0 rfl) ?_
        refine lv_iload hx hb dX6_leastOf_52 (lv_at hl 2 rfl) ?_
        have J_19 : ∀ (t_15 : Int32) (H : Heap) (locs : List Loc) (ls : Array Slot), f_X6_leastOf_J64 x1 x5_7 rec29 q_12 t_15 = some q → HP G kM nM a q_12 H → va_S (AW nM a) s.heap H locs → lv_has ls 7 [(6, .int (q_12 1 ((12 + x1).toNatClampNeg))), (5, .int x5_7), (0, .ref (a 0)), (1, .int x1), (3, .int x3)] → W p l e ({ frames := 6, cells := 0, slots := 0, locals := 132 } : Room) s m ([.ref (a 0), .int x1, .int x2, .int x3] : List Value).toArray below meth c H locs 0 0 (MQ below (QI G kM nM a q) ([.ref (a 0), .int x1, .int x2, .int x3] : List Value).toArray s 0 0 (AW nM a)) (F0 m 64 ls [.int t_15]) := by
          intro t_15 H locs ls h hP hS hl
          unfold f_X6_leastOf_J64 at h
          refine lv_istore (lv' := [(4, .int t_15), (6, .int (q_12 1 ((12 + x1).toNatClampNeg))), (5, .int x5_7), (0, .ref (a 0)), (1, .int x1), (3, .int x3)]) hx hb dX6_leastOf_64 hl (by decide) rfl (fun ls hl => ?_)
          refine lv_aload_n hx hb dX6_leastOf_66 rfl (lv_at hl 3 rfl) ?_
          refine lv_iload hx hb dX6_leastOf_67 (lv_at hl 1 rfl) ?_
          refine lv_aload_n hx hb dX6_leastOf_69 rfl (lv_at hl 3 rfl) ?_
          refine gf_X6_177 (o := 0) C0 hb hP (rfl : kM 0 = 6) dX6_leastOf_70 ?_
          have J_17 : ∀ (t_16 : Int32) (H : Heap) (locs : List Loc) (ls : Array Slot), f_X6_leastOf_J85 x5_7 rec29 q_12 t_15 t_16 = some q → HP G kM nM a q_12 H → va_S (AW nM a) s.heap H locs → lv_has ls 7 [(4, .int t_15), (5, .int x5_7), (0, .ref (a 0)), (1, .int x1), (3, .int x3)] → W p l e ({ frames := 6, cells := 0, slots := 0, locals := 132 } : Room) s m ([.ref (a 0), .int x1, .int x2, .int x3] : List Value).toArray below meth c H locs 0 0 (MQ below (QI G kM nM a q) ([.ref (a 0), .int x1, .int x2, .int x3] : List Value).toArray s 0 0 (AW nM a)) (F0 m 85 ls [.int t_16, .ref (a 0)]) := by
            intro t_16 H locs ls h hP hS hl
            unfold f_X6_leastOf_J85 at h
            refine pf_X6_177 (o := 0) C0 hb hP hS (rfl : kM 0 = 6) dX6_leastOf_85 (fun H locs hP hS => ?_)
            refine lv_iinc (v := x5_7 + 1) (lv' := [(5, .int (x5_7 + 1)), (4, .int t_15), (0, .ref (a 0)), (1, .int x1), (3, .int x3)]) hx hb dX6_leastOf_88 hl (k := 1) rfl rfl (by decide) rfl (fun ls hl => ?_)
            refine lv_goto (tgt := 29) hx hb dX6_leastOf_91 (by decide) ?_
            exact ih29 t_15 (x5_7 + 1) (mst q_12 0 8 t_16) _ _ _ h hP hS (lv_sub hl [0, 1, 2, 3, 4] rfl)
          refine lv_icmp_le (tgt := 81) hx hb dX6_leastOf_73 (by decide) (fun (c_18 : (q_12 1 ((12 + x1).toNatClampNeg)) ≤ (q_12 0 8)) => ?_) (fun (c_18 : ¬ (q_12 1 ((12 + x1).toNatClampNeg)) ≤ (q_12 0 8)) => ?_)
          · rw [if_pos c_18] at h
            refine lv_aload_n hx hb dX6_leastOf_81 rfl (lv_at hl 3 rfl) ?_
            refine gf_X6_177 (o := 0) C0 hb hP (rfl : kM 0 = 6) dX6_leastOf_82 ?_
            exact J_17 (q_12 0 8) _ _ _ h hP hS (lv_sub hl [0, 2, 3, 4, 5] rfl)
          · rw [if_neg c_18] at h
            refine lv_iload hx hb dX6_leastOf_76 (lv_at hl 1 rfl) ?_
            refine lv_goto (tgt := 85) hx hb dX6_leastOf_78 (by decide) ?_
            exact J_17 (q_12 1 ((12 + x1).toNatClampNeg)) _ _ _ h hP hS (lv_sub hl [0, 2, 3, 4, 5] rfl)
        refine lv_icmp_ge (tgt := 62) hx hb dX6_leastOf_54 (by decide) (fun (c_20 : x4_6 ≤ (q_12 1 ((12 + x1).toNatClampNeg))) => ?_) (fun (c_20 : ¬ x4_6 ≤ (q_12 1 ((12 + x1).toNatClampNeg))) => ?_)
        · rw [if_pos c_20] at h
          refine lv_iload hx hb dX6_leastOf_62 (lv_at hl 2 rfl) ?_
          exact J_19 x4_6 _ _ _ h hP hS (lv_sub hl [0, 1, 3, 4, 5] rfl)
        · rw [if_neg c_20] at h
          refine lv_iload hx hb dX6_leastOf_57 (lv_at hl 0 rfl) ?_
          refine lv_goto (tgt := 64) hx hb dX6_leastOf_59 (by decide) ?_
          exact J_19 (q_12 1 ((12 + x1).toNatClampNeg)) _ _ _ h hP hS (lv_sub hl [0, 1, 3, 4, 5] rfl)
  exact L_21 FU (q_3 1 ((12 + x1).toNatClampNeg)) x2 (mst q_3 0 8 (q_3 1 ((12 + x1).toNatClampNeg))) _ _ _ h hP hS (lv_sub hl [0, 1, 2, 3, 5] rfl)
def f_X6_range (x1 : Int32) (x2 : Int32) (x3 : Int32) (σ : Mem) : Option (Int32 × Mem) := (if (f_X6_isCell x1) = 0 then ((f_X6_finds (-1000001) σ).bind fun q_2 => some (q_2.1, q_2.2)) else (if (f_X6_in x2.toInt64 0 100) = 0 then ((f_X6_finds (-1000001) σ).bind fun q_5 => some (q_5.1, q_5.2)) else (if (f_X6_in x3.toInt64 0 1) = 0 then ((f_X6_finds (-1000001) σ).bind fun q_11 => some (q_11.1, q_11.2)) else ((f_X6_leastOf x1 0 x2 σ).bind fun q_8 => (if x3 = 0 then some (q_8.1, q_8.2) else some (q_8.2 0 8, q_8.2))))))
set_option maxHeartbeats 4000000 in
set_option maxRecDepth 100000 in
theorem k_X6_range (l : Launch) (G : GG) (a : Nat → Nat) (σ : Mem) (hj : INJ nM a) (x1 : Int32) (x2 : Int32) (x3 : Int32) (q : Int32 × Mem) (h : f_X6_range x1 x2 x3 σ = some q) : Met l yX6_range (Cond.code yX6_range cX6_range 5 (some .int) :: TB) ({ frames := 7, cells := 0, slots := 0, locals := 158 } : Room) (PA G kM nM a σ [.ref (a 0), .int x1, .int x2, .int x3]) (QI G kM nM a q) 0 0 (AW nM a) := by
  refine M_ofW (by decide) hj kM_lt (Nat.le_of_ble_eq_true rfl) (fun p e s m below meth c ls C0 hb hml hr hlk hP hS hl => ?_)
  have C0 : CT p s _ m RX6 G kM nM a := C0
  have hx := C0.1
  have hts := C0.2.1
  have hown := C0.2.2.1
  have hl : lv_has ls 5 [(0, .ref (a 0)), (1, .int x1), (2, .int x2), (3, .int x3)] := hl
  unfold f_X6_range at h
  refine lv_iload_n hx hb dX6_range_0 rfl (lv_at hl 1 rfl) ?_
  refine m_pSi (As := [.int x1]) (rest := []) C0.z hb hml hl.1 wm_X6_66 md_X6_isCell (k_X6_isCell l x1) rfl rfl ⟨(Nat.le_of_ble_eq_true rfl), (Nat.le_of_ble_eq_true rfl)⟩ rfl rfl (Nat.le_of_ble_eq_true rfl) dX6_range_1 ?_
  refine lv_if_eq (tgt := 29) hx hb dX6_range_4 (by decide) (fun (c_1 : (f_X6_isCell x1) = 0) => ?_) (fun (c_1 : ¬ (f_X6_isCell x1) = 0) => ?_)
  · rw [if_pos c_1] at h
    refine lv_aload_n hx hb dX6_range_29 rfl (lv_at hl 0 rfl) ?_
    refine lv_ldc hx hb hown (hts _ wk_X6_46) dX6_range_30 ?_
    obtain ⟨q_2, hq_3, h⟩ := bd_s h
    refine m_cVi (As := [.int (-1000001)]) (rest := []) (o := 0) (ci := 6) C0 hb hml hl.1 wm_X6_75 md_X6_finds (k_X6_finds l G a σ hj (-1000001) q_2 hq_3) rfl rfl ⟨(Nat.le_of_ble_eq_true rfl), (Nat.le_of_ble_eq_true rfl)⟩ hP hS (rfl : kM 0 = 6) (by decide) rfl rfl rfl (Nat.le_of_ble_eq_true rfl) dX6_range_32 (fun H locs hP hS => ?_)
    exact m_ri hx hb hr hlk hP hS (Option.some.inj h) dX6_range_35
  · rw [if_neg c_1] at h
    refine lv_iload_n hx hb dX6_range_7 rfl (lv_at hl 2 rfl) ?_
    refine lv_i2l (v := x2.toInt64) hx hb dX6_range_8 rfl ?_
    refine lv_lconst (v := 0) hx hb dX6_range_9 (by decide) ?_
    refine lv_ldc2 hx hb hown (hts _ wk_X6_162) dX6_range_10 ?_
    refine m_pSi (As := [.long x2.toInt64, .long 0, .long 100]) (rest := []) C0.z hb hml hl.1 wm_X6_49 md_X6_in (k_X6_in l x2.toInt64 0 100) rfl rfl ⟨(Nat.le_of_ble_eq_true rfl), (Nat.le_of_ble_eq_true rfl)⟩ rfl rfl (Nat.le_of_ble_eq_true rfl) dX6_range_13 ?_
    refine lv_if_eq (tgt := 29) hx hb dX6_range_16 (by decide) (fun (c_4 : (f_X6_in x2.toInt64 0 100) = 0) => ?_) (fun (c_4 : ¬ (f_X6_in x2.toInt64 0 100) = 0) => ?_)
    · rw [if_pos c_4] at h
      refine lv_aload_n hx hb dX6_range_29 rfl (lv_at hl 0 rfl) ?_
      refine lv_ldc hx hb hown (hts _ wk_X6_46) dX6_range_30 ?_
      obtain ⟨q_5, hq_6, h⟩ := bd_s h
      refine m_cVi (As := [.int (-1000001)]) (rest := []) (o := 0) (ci := 6) C0 hb hml hl.1 wm_X6_75 md_X6_finds (k_X6_finds l G a σ hj (-1000001) q_5 hq_6) rfl rfl ⟨(Nat.le_of_ble_eq_true rfl), (Nat.le_of_ble_eq_true rfl)⟩ hP hS (rfl : kM 0 = 6) (by decide) rfl rfl rfl (Nat.le_of_ble_eq_true rfl) dX6_range_32 (fun H locs hP hS => ?_)
      exact m_ri hx hb hr hlk hP hS (Option.some.inj h) dX6_range_35
    · rw [if_neg c_4] at h
      refine lv_iload_n hx hb dX6_range_19 rfl (lv_at hl 3 rfl) ?_
      refine lv_i2l (v := x3.toInt64) hx hb dX6_range_20 rfl ?_
      refine lv_lconst (v := 0) hx hb dX6_range_21 (by decide) ?_
      refine lv_lconst (v := 1) hx hb dX6_range_22 (by decide) ?_
      refine m_pSi (As := [.long x3.toInt64, .long 0, .long 1]) (rest := []) C0.z hb hml hl.1 wm_X6_49 md_X6_in (k_X6_in l x3.toInt64 0 1) rfl rfl ⟨(Nat.le_of_ble_eq_true rfl), (Nat.le_of_ble_eq_true rfl)⟩ rfl rfl (Nat.le_of_ble_eq_true rfl) dX6_range_23 ?_
      refine lv_if_ne (tgt := 36) hx hb dX6_range_26 (by decide) (fun (c_7 : ¬ (f_X6_in x3.toInt64 0 1) = 0) => ?_) (fun (c_7 : (f_X6_in x3.toInt64 0 1) = 0) => ?_)
      · rw [if_neg c_7] at h
        refine lv_aload_n hx hb dX6_range_36 rfl (lv_at hl 0 rfl) ?_
        refine lv_iload_n hx hb dX6_range_37 rfl (lv_at hl 1 rfl) ?_
        refine lv_iconst (v := 0) hx hb dX6_range_38 (by decide) ?_
        refine lv_iload_n hx hb dX6_range_39 rfl (lv_at hl 2 rfl) ?_
        obtain ⟨q_8, hq_9, h⟩ := bd_s h
        refine m_cVi (As := [.int x1, .int 0, .int x2]) (rest := []) (o := 0) (ci := 6) C0 hb hml hl.1 wm_X6_181 md_X6_leastOf (k_X6_leastOf l G a σ hj x1 0 x2 q_8 hq_9) rfl rfl ⟨(Nat.le_of_ble_eq_true rfl), (Nat.le_of_ble_eq_true rfl)⟩ hP hS (rfl : kM 0 = 6) (by decide) rfl rfl rfl (Nat.le_of_ble_eq_true rfl) dX6_range_40 (fun H locs hP hS => ?_)
        refine lv_istore (lv' := [(4, .int q_8.1), (0, .ref (a 0)), (1, .int x1), (2, .int x2), (3, .int x3)]) hx hb dX6_range_43 hl (by decide) rfl (fun ls hl => ?_)
        refine lv_iload_n hx hb dX6_range_45 rfl (lv_at hl 4 rfl) ?_
        refine lv_if_ne (tgt := 54) hx hb dX6_range_46 (by decide) (fun (c_10 : ¬ x3 = 0) => ?_) (fun (c_10 : x3 = 0) => ?_)
        · rw [if_neg c_10] at h
          refine lv_aload_n hx hb dX6_range_54 rfl (lv_at hl 1 rfl) ?_
          refine gf_X6_177 (o := 0) C0 hb hP (rfl : kM 0 = 6) dX6_range_55 ?_
          exact m_ri hx hb hr hlk hP hS (Option.some.inj h) dX6_range_58
        · rw [if_pos c_10] at h
          refine lv_iload hx hb dX6_range_49 (lv_at hl 0 rfl) ?_
          refine lv_goto (tgt := 58) hx hb dX6_range_51 (by decide) ?_
          exact m_ri hx hb hr hlk hP hS (Option.some.inj h) dX6_range_58
      · rw [if_pos c_7] at h
        refine lv_aload_n hx hb dX6_range_29 rfl (lv_at hl 0 rfl) ?_
        refine lv_ldc hx hb hown (hts _ wk_X6_46) dX6_range_30 ?_
        obtain ⟨q_11, hq_12, h⟩ := bd_s h
        refine m_cVi (As := [.int (-1000001)]) (rest := []) (o := 0) (ci := 6) C0 hb hml hl.1 wm_X6_75 md_X6_finds (k_X6_finds l G a σ hj (-1000001) q_11 hq_12) rfl rfl ⟨(Nat.le_of_ble_eq_true rfl), (Nat.le_of_ble_eq_true rfl)⟩ hP hS (rfl : kM 0 = 6) (by decide) rfl rfl rfl (Nat.le_of_ble_eq_true rfl) dX6_range_32 (fun H locs hP hS => ?_)
        exact m_ri hx hb hr hlk hP hS (Option.some.inj h) dX6_range_35
def f_X6_enough_J70 (x2_4 : Int32) (σ_6 : Mem) : Option (Int32 × Mem) := (if 0 ≤ x2_4 then some (x2_4, σ_6) else ((f_X6_finds (-1000004) σ_6).bind fun q_8 => some (q_8.1, q_8.2)))
def f_X6_enough_J60 (x3_5 : Int32) (rec27 : Int32 → Int32 → Mem → Option (Int32 × Mem)) (q_15 : Mem) (t_19 : Int32) : Option (Int32 × Mem) := ((f_X6_takesBack t_19 q_15).bind fun q_20 => (rec27 q_20.1 (x3_5 + 1) q_20.2))
def f_X6_enough_B27 (x1 : Int32) (rec27 : Int32 → Int32 → Mem → Option (Int32 × Mem)) (x2_4 : Int32) (x3_5 : Int32) (σ_6 : Mem) : Option (Int32 × Mem) := (if 99 < x3_5 then (f_X6_enough_J70 x2_4 σ_6) else (if 0 ≤ x2_4 then (f_X6_enough_J70 x2_4 σ_6) else ((f_X6_opensAll x3_5 σ_6).bind fun q_13 => ((f_X6_goesOn x1 q_13).bind fun q_15 => ((f_X6_wanting q_15).bind fun q_17 => (f_X6_enough_J60 x3_5 rec27 q_15 (if q_17 = 0 then x3_5 else (-1))))))))
def f_X6_enough (x1 : Int32) (σ : Mem) : Option (Int32 × Mem) := (if (f_X6_in x1.toInt64 0 80) = 0 then ((f_X6_finds (-1000001) σ).bind fun q_25 => some (q_25.1, q_25.2)) else ((f_X6_laysAside σ).bind fun q_2 => (it3 (f_X6_enough_B27 x1) FU (-1) 0 q_2)))
set_option maxHeartbeats 4000000 in
set_option maxRecDepth 100000 in
theorem k_X6_enough (l : Launch) (G : GG) (a : Nat → Nat) (σ : Mem) (hj : INJ nM a) (x1 : Int32) (q : Int32 × Mem) (h : f_X6_enough x1 σ = some q) : Met l yX6_enough (Cond.code yX6_enough cX6_enough 4 (some .int) :: TB) ({ frames := 6, cells := 0, slots := 0, locals := 132 } : Room) (PA G kM nM a σ [.ref (a 0), .int x1]) (QI G kM nM a q) 0 0 (AW nM a) := by
  refine M_ofW (by decide) hj kM_lt (Nat.le_of_ble_eq_true rfl) (fun p e s m below meth c ls C0 hb hml hr hlk hP hS hl => ?_)
  have C0 : CT p s _ m RX6 G kM nM a := C0
  have hx := C0.1
  have hts := C0.2.1
  have hown := C0.2.2.1
  have hl : lv_has ls 4 [(0, .ref (a 0)), (1, .int x1)] := hl
  unfold f_X6_enough at h
  refine lv_iload_n hx hb dX6_enough_0 rfl (lv_at hl 1 rfl) ?_
  refine lv_i2l (v := x1.toInt64) hx hb dX6_enough_1 rfl ?_
  refine lv_lconst (v := 0) hx hb dX6_enough_2 (by decide) ?_
  refine lv_ldc2 hx hb hown (hts _ wk_X6_137) dX6_enough_3 ?_
  refine m_pSi (As := [.long x1.toInt64, .long 0, .long 80]) (rest := []) C0.z hb hml hl.1 wm_X6_49 md_X6_in (k_X6_in l x1.toInt64 0 80) rfl rfl ⟨(Nat.le_of_ble_eq_true rfl), (Nat.le_of_ble_eq_true rfl)⟩ rfl rfl (Nat.le_of_ble_eq_true rfl) dX6_enough_6 ?_
  refine lv_if_ne (tgt := 19) hx hb dX6_enough_9 (by decide) (fun (c_1 : ¬ (f_X6_in x1.toInt64 0 80) = 0) => ?_) (fun (c_1 : (f_X6_in x1.toInt64 0 80) = 0) => ?_)
  · rw [if_neg c_1] at h
    refine lv_aload_n hx hb dX6_enough_19 rfl (lv_at hl 0 rfl) ?_
    obtain ⟨q_2, hq_3, h⟩ := bd_s h
    refine m_cVv (As := []) (rest := []) (o := 0) (ci := 6) C0 hb hml hl.1 wm_X6_156 md_X6_laysAside (k_X6_laysAside l G a σ hj q_2 hq_3) rfl rfl ⟨(Nat.le_of_ble_eq_true rfl), (Nat.le_of_ble_eq_true rfl)⟩ hP hS (rfl : kM 0 = 6) (by decide) rfl rfl rfl (Nat.le_of_ble_eq_true rfl) dX6_enough_20 (fun H locs hP hS => ?_)
    refine lv_iconst (v := (-1)) hx hb dX6_enough_23 (by decide) ?_
    refine lv_istore_n (lv' := [(2, .int (-1)), (0, .ref (a 0)), (1, .int x1)]) hx hb dX6_enough_24 rfl hl (by decide) rfl (fun ls hl => ?_)
    refine lv_iconst (v := 0) hx hb dX6_enough_25 (by decide) ?_
    refine lv_istore_n (lv' := [(3, .int 0), (2, .int (-1)), (0, .ref (a 0)), (1, .int x1)]) hx hb dX6_enough_26 rfl hl (by decide) rfl (fun ls hl => ?_)
    have L_24 : ∀ (fu27 : Nat) (x2_4 : Int32) (x3_5 : Int32) (σ_6 : Mem) (H : Heap) (locs : List Loc) (ls : Array Slot), it3 (f_X6_enough_B27 x1) fu27 x2_4 x3_5 σ_6 = some q → HP G kM nM a σ_6 H → va_S (AW nM a) s.heap H locs → lv_has ls 4 [(3, .int x3_5), (2, .int x2_4), (0, .ref (a 0)), (1, .int x1)] → W p l e ({ frames := 6, cells := 0, slots := 0, locals := 132 } : Room) s m ([.ref (a 0), .int x1] : List Value).toArray below meth c H locs 0 0 (MQ below (QI G kM nM a q) ([.ref (a 0), .int x1] : List Value).toArray s 0 0 (AW nM a)) (F0 m 27 ls []) := by
      intro fu27
      induction fu27 with
      | zero =>
        intro x2_4 x3_5 σ_6 H locs ls h
        cases h
      | succ fu27 ih27 =>
        intro x2_4 x3_5 σ_6 H locs ls h hP hS hl
        replace h : (f_X6_enough_B27 x1) (it3 (f_X6_enough_B27 x1) fu27) x2_4 x3_5 σ_6 = some q := h
        generalize it3 (f_X6_enough_B27 x1) fu27 = rec27 at h ih27
        unfold f_X6_enough_B27 at h
        refine lv_iload_n hx hb dX6_enough_27 rfl (lv_at hl 0 rfl) ?_
        refine lv_bipush (v := 99) hx hb dX6_enough_28 (by decide) ?_
        have J_10 : ∀  (H : Heap) (locs : List Loc) (ls : Array Slot), f_X6_enough_J70 x2_4 σ_6 = some q → HP G kM nM a σ_6 H → va_S (AW nM a) s.heap H locs → lv_has ls 4 [(2, .int x2_4), (0, .ref (a 0))] → W p l e ({ frames := 6, cells := 0, slots := 0, locals := 132 } : Room) s m ([.ref (a 0), .int x1] : List Value).toArray below meth c H locs 0 0 (MQ below (QI G kM nM a q) ([.ref (a 0), .int x1] : List Value).toArray s 0 0 (AW nM a)) (F0 m 70 ls []) := by
          intro  H locs ls h hP hS hl
          unfold f_X6_enough_J70 at h
          refine lv_iload_n hx hb dX6_enough_70 rfl (lv_at hl 0 rfl) ?_
          refine lv_if_ge (tgt := 83) hx hb dX6_enough_71 (by decide) (fun (c_7 : 0 ≤ x2_4) => ?_) (fun (c_7 : ¬ 0 ≤ x2_4) => ?_)
          · rw [if_pos c_7] at h
            refine lv_iload_n hx hb dX6_enough_83 rfl (lv_at hl 0 rfl) ?_
            exact m_ri hx hb hr hlk hP hS (Option.some.inj h) dX6_enough_84
          · rw [if_neg c_7] at h
            refine lv_aload_n hx hb dX6_enough_74 rfl (lv_at hl 1 rfl) ?_
            refine lv_ldc hx hb hown (hts _ wk_X6_169) dX6_enough_75 ?_
            obtain ⟨q_8, hq_9, h⟩ := bd_s h
            refine m_cVi (As := [.int (-1000004)]) (rest := []) (o := 0) (ci := 6) C0 hb hml hl.1 wm_X6_75 md_X6_finds (k_X6_finds l G a σ_6 hj (-1000004) q_8 hq_9) rfl rfl ⟨(Nat.le_of_ble_eq_true rfl), (Nat.le_of_ble_eq_true rfl)⟩ hP hS (rfl : kM 0 = 6) (by decide) rfl rfl rfl (Nat.le_of_ble_eq_true rfl) dX6_enough_77 (fun H locs hP hS => ?_)
            refine lv_goto (tgt := 84) hx hb dX6_enough_80 (by decide) ?_
            exact m_ri hx hb hr hlk hP hS (Option.some.inj h) dX6_enough_84
        refine lv_icmp_gt (tgt := 70) hx hb dX6_enough_30 (by decide) (fun (c_11 : 99 < x3_5) => ?_) (fun (c_11 : ¬ 99 < x3_5) => ?_)
        · rw [if_pos c_11] at h
          exact J_10  _ _ _ h hP hS (lv_sub hl [1, 2] rfl)
        · rw [if_neg c_11] at h
          refine lv_iload_n hx hb dX6_enough_33 rfl (lv_at hl 1 rfl) ?_
          refine lv_if_ge (tgt := 70) hx hb dX6_enough_34 (by decide) (fun (c_12 : 0 ≤ x2_4) => ?_) (fun (c_12 : ¬ 0 ≤ x2_4) => ?_)
          · rw [if_pos c_12] at h
            exact J_10  _ _ _ h hP hS (lv_sub hl [1, 2] rfl)
          · rw [if_neg c_12] at h
            refine lv_aload_n hx hb dX6_enough_37 rfl (lv_at hl 2 rfl) ?_
            refine lv_iload_n hx hb dX6_enough_38 rfl (lv_at hl 0 rfl) ?_
            obtain ⟨q_13, hq_14, h⟩ := bd_s h
            refine m_cVv (As := [.int x3_5]) (rest := []) (o := 0) (ci := 6) C0 hb hml hl.1 wm_X6_89 md_X6_opensAll (k_X6_opensAll l G a σ_6 hj x3_5 q_13 hq_14) rfl rfl ⟨(Nat.le_of_ble_eq_true rfl), (Nat.le_of_ble_eq_true rfl)⟩ hP hS (rfl : kM 0 = 6) (by decide) rfl rfl rfl (Nat.le_of_ble_eq_true rfl) dX6_enough_39 (fun H locs hP hS => ?_)
            refine lv_aload_n hx hb dX6_enough_42 rfl (lv_at hl 2 rfl) ?_
            refine lv_iload_n hx hb dX6_enough_43 rfl (lv_at hl 3 rfl) ?_
            obtain ⟨q_15, hq_16, h⟩ := bd_s h
            refine m_cVv (As := [.int x1]) (rest := []) (o := 0) (ci := 6) C0 hb hml hl.1 wm_X6_141 md_X6_goesOn (k_X6_goesOn l G a q_13 hj x1 q_15 hq_16) rfl rfl ⟨(Nat.le_of_ble_eq_true rfl), (Nat.le_of_ble_eq_true rfl)⟩ hP hS (rfl : kM 0 = 6) (by decide) rfl rfl rfl (Nat.le_of_ble_eq_true rfl) dX6_enough_44 (fun H locs hP hS => ?_)
            refine lv_aload_n hx hb dX6_enough_47 rfl (lv_at hl 2 rfl) ?_
            refine lv_aload_n hx hb dX6_enough_48 rfl (lv_at hl 2 rfl) ?_
            obtain ⟨q_17, hq_18, h⟩ := bd_s h
            refine m_rVi (As := []) (rest := [.ref (a 0)]) (o := 0) (ci := 6) C0 hb hml hl.1 wm_X6_150 md_X6_wanting (k_X6_wanting l G a q_15 hj q_17 hq_18) rfl rfl ⟨(Nat.le_of_ble_eq_true rfl), (Nat.le_of_ble_eq_true rfl)⟩ hP hS (rfl : kM 0 = 6) (by decide) rfl rfl rfl (Nat.le_of_ble_eq_true rfl) dX6_enough_49 ?_
            have J_22 : ∀ (t_19 : Int32) (H : Heap) (locs : List Loc) (ls : Array Slot), f_X6_enough_J60 x3_5 rec27 q_15 t_19 = some q → HP G kM nM a q_15 H → va_S (AW nM a) s.heap H locs → lv_has ls 4 [(3, .int x3_5), (0, .ref (a 0)), (1, .int x1)] → W p l e ({ frames := 6, cells := 0, slots := 0, locals := 132 } : Room) s m ([.ref (a 0), .int x1] : List Value).toArray below meth c H locs 0 0 (MQ below (QI G kM nM a q) ([.ref (a 0), .int x1] : List Value).toArray s 0 0 (AW nM a)) (F0 m 60 ls [.int t_19, .ref (a 0)]) := by
              intro t_19 H locs ls h hP hS hl
              unfold f_X6_enough_J60 at h
              obtain ⟨q_20, hq_21, h⟩ := bd_s h
              refine m_cVi (As := [.int t_19]) (rest := []) (o := 0) (ci := 6) C0 hb hml hl.1 wm_X6_159 md_X6_takesBack (k_X6_takesBack l G a q_15 hj t_19 q_20 hq_21) rfl rfl ⟨(Nat.le_of_ble_eq_true rfl), (Nat.le_of_ble_eq_true rfl)⟩ hP hS (rfl : kM 0 = 6) (by decide) rfl rfl rfl (Nat.le_of_ble_eq_true rfl) dX6_enough_60 (fun H locs hP hS => ?_)
              refine lv_istore_n (lv' := [(2, .int q_20.1), (3, .int x3_5), (0, .ref (a 0)), (1, .int x1)]) hx hb dX6_enough_63 rfl hl (by decide) rfl (fun ls hl => ?_)
              refine lv_iinc (v := x3_5 + 1) (lv' := [(3, .int (x3_5 + 1)), (2, .int q_20.1), (0, .ref (a 0)), (1, .int x1)]) hx hb dX6_enough_64 hl (k := 1) rfl rfl (by decide) rfl (fun ls hl => ?_)
              refine lv_goto (tgt := 27) hx hb dX6_enough_67 (by decide) ?_
              exact ih27 q_20.1 (x3_5 + 1) q_20.2 _ _ _ h hP hS (lv_sub hl [0, 1, 2, 3] rfl)
            refine lv_if_ne (tgt := 59) hx hb dX6_enough_52 (by decide) (fun (c_23 : ¬ q_17 = 0) => ?_) (fun (c_23 : q_17 = 0) => ?_)
            · rw [if_neg c_23] at h
              refine lv_iconst (v := (-1)) hx hb dX6_enough_59 (by decide) ?_
              exact J_22 (-1) _ _ _ h hP hS (lv_sub hl [0, 2, 3] rfl)
            · rw [if_pos c_23] at h
              refine lv_iload_n hx hb dX6_enough_55 rfl (lv_at hl 0 rfl) ?_
              refine lv_goto (tgt := 60) hx hb dX6_enough_56 (by decide) ?_
              exact J_22 x3_5 _ _ _ h hP hS (lv_sub hl [0, 2, 3] rfl)
    exact L_24 FU (-1) 0 q_2 _ _ _ h hP hS (lv_sub hl [0, 1, 2, 3] rfl)
  · rw [if_pos c_1] at h
    refine lv_aload_n hx hb dX6_enough_12 rfl (lv_at hl 0 rfl) ?_
    refine lv_ldc hx hb hown (hts _ wk_X6_46) dX6_enough_13 ?_
    obtain ⟨q_25, hq_26, h⟩ := bd_s h
    refine m_cVi (As := [.int (-1000001)]) (rest := []) (o := 0) (ci := 6) C0 hb hml hl.1 wm_X6_75 md_X6_finds (k_X6_finds l G a σ hj (-1000001) q_25 hq_26) rfl rfl ⟨(Nat.le_of_ble_eq_true rfl), (Nat.le_of_ble_eq_true rfl)⟩ hP hS (rfl : kM 0 = 6) (by decide) rfl rfl rfl (Nat.le_of_ble_eq_true rfl) dX6_enough_15 (fun H locs hP hS => ?_)
    exact m_ri hx hb hr hlk hP hS (Option.some.inj h) dX6_enough_18
def f_X6_hide_J97 (x5_9 : Int32) (rec34 : Int32 → Int32 → Int32 → Mem → Option (Int32 × Mem)) (q_19 : Int32 × Mem) (t_21 : Int32) (t_22 : Int32) : Option (Int32 × Mem) := (rec34 t_21 t_22 (x5_9 + 1) q_19.2)
def f_X6_hide_J82 (x4_8 : Int32) (x5_9 : Int32) (rec34 : Int32 → Int32 → Int32 → Mem → Option (Int32 × Mem)) (q_19 : Int32 × Mem) (t_21 : Int32) : Option (Int32 × Mem) := (f_X6_hide_J97 x5_9 rec34 q_19 t_21 (if x4_8 ≤ q_19.1 then x4_8 else q_19.1))
def f_X6_hide_B34 (x1 : Int32) (x2 : Int32) (rec34 : Int32 → Int32 → Int32 → Mem → Option (Int32 × Mem)) (x3_7 : Int32) (x4_8 : Int32) (x5_9 : Int32) (σ_10 : Mem) : Option (Int32 × Mem) := (if 8 ≤ x5_9 then some (x3_7, σ_10) else (chk (4 + x5_9) 74 ((f_X6_goesOn x2 (mst σ_10 1 ((4 + x5_9).toNatClampNeg) x1)).bind fun q_13 => ((f_X6_knowing q_13).bind fun q_15 => ((f_X6_ones q_15).bind fun q_17 => ((f_X6_takesBack q_17 q_13).bind fun q_19 => (f_X6_hide_J82 x4_8 x5_9 rec34 q_19 (if x4_8 ≤ q_19.1 then x3_7 else x5_9))))))))
def f_X6_hide (x1 : Int32) (x2 : Int32) (σ : Mem) : Option (Int32 × Mem) := (if (f_X6_isOpening x1) = 0 then ((f_X6_finds (-1000001) σ).bind fun q_2 => some (q_2.1, q_2.2)) else (if (f_X6_isSoon x2) = 0 then ((f_X6_finds (-1000001) σ).bind fun q_28 => some (q_28.1, q_28.2)) else ((f_X6_laysAside σ).bind fun q_5 => (it4 (f_X6_hide_B34 x1 x2) FU 0 9 0 q_5))))
set_option maxHeartbeats 4000000 in
set_option maxRecDepth 100000 in
theorem k_X6_hide (l : Launch) (G : GG) (a : Nat → Nat) (σ : Mem) (hj : INJ nM a) (x1 : Int32) (x2 : Int32) (q : Int32 × Mem) (h : f_X6_hide x1 x2 σ = some q) : Met l yX6_hide (Cond.code yX6_hide cX6_hide 7 (some .int) :: TB) ({ frames := 6, cells := 0, slots := 0, locals := 132 } : Room) (PA G kM nM a σ [.ref (a 0), .int x1, .int x2]) (QI G kM nM a q) 0 0 (AW nM a) := by
  refine M_ofW (by decide) hj kM_lt (Nat.le_of_ble_eq_true rfl) (fun p e s m below meth c ls C0 hb hml hr hlk hP hS hl => ?_)
  have C0 : CT p s _ m RX6 G kM nM a := C0
  have hx := C0.1
  have hts := C0.2.1
  have hown := C0.2.2.1
  have hl : lv_has ls 7 [(0, .ref (a 0)), (1, .int x1), (2, .int x2)] := hl
  unfold f_X6_hide at h
  refine lv_iload_n hx hb dX6_hide_0 rfl (lv_at hl 1 rfl) ?_
  refine m_pSi (As := [.int x1]) (rest := []) C0.z hb hml hl.1 wm_X6_82 md_X6_isOpening (k_X6_isOpening l x1) rfl rfl ⟨(Nat.le_of_ble_eq_true rfl), (Nat.le_of_ble_eq_true rfl)⟩ rfl rfl (Nat.le_of_ble_eq_true rfl) dX6_hide_1 ?_
  refine lv_if_eq (tgt := 14) hx hb dX6_hide_4 (by decide) (fun (c_1 : (f_X6_isOpening x1) = 0) => ?_) (fun (c_1 : ¬ (f_X6_isOpening x1) = 0) => ?_)
  · rw [if_pos c_1] at h
    refine lv_aload_n hx hb dX6_hide_14 rfl (lv_at hl 0 rfl) ?_
    refine lv_ldc hx hb hown (hts _ wk_X6_46) dX6_hide_15 ?_
    obtain ⟨q_2, hq_3, h⟩ := bd_s h
    refine m_cVi (As := [.int (-1000001)]) (rest := []) (o := 0) (ci := 6) C0 hb hml hl.1 wm_X6_75 md_X6_finds (k_X6_finds l G a σ hj (-1000001) q_2 hq_3) rfl rfl ⟨(Nat.le_of_ble_eq_true rfl), (Nat.le_of_ble_eq_true rfl)⟩ hP hS (rfl : kM 0 = 6) (by decide) rfl rfl rfl (Nat.le_of_ble_eq_true rfl) dX6_hide_17 (fun H locs hP hS => ?_)
    exact m_ri hx hb hr hlk hP hS (Option.some.inj h) dX6_hide_20
  · rw [if_neg c_1] at h
    refine lv_iload_n hx hb dX6_hide_7 rfl (lv_at hl 2 rfl) ?_
    refine m_pSi (As := [.int x2]) (rest := []) C0.z hb hml hl.1 wm_X6_187 md_X6_isSoon (k_X6_isSoon l x2) rfl rfl ⟨(Nat.le_of_ble_eq_true rfl), (Nat.le_of_ble_eq_true rfl)⟩ rfl rfl (Nat.le_of_ble_eq_true rfl) dX6_hide_8 ?_
    refine lv_if_ne (tgt := 21) hx hb dX6_hide_11 (by decide) (fun (c_4 : ¬ (f_X6_isSoon x2) = 0) => ?_) (fun (c_4 : (f_X6_isSoon x2) = 0) => ?_)
    · rw [if_neg c_4] at h
      refine lv_aload_n hx hb dX6_hide_21 rfl (lv_at hl 0 rfl) ?_
      obtain ⟨q_5, hq_6, h⟩ := bd_s h
      refine m_cVv (As := []) (rest := []) (o := 0) (ci := 6) C0 hb hml hl.1 wm_X6_156 md_X6_laysAside (k_X6_laysAside l G a σ hj q_5 hq_6) rfl rfl ⟨(Nat.le_of_ble_eq_true rfl), (Nat.le_of_ble_eq_true rfl)⟩ hP hS (rfl : kM 0 = 6) (by decide) rfl rfl rfl (Nat.le_of_ble_eq_true rfl) dX6_hide_22 (fun H locs hP hS => ?_)
      refine lv_iconst (v := 0) hx hb dX6_hide_25 (by decide) ?_
      refine lv_istore_n (lv' := [(3, .int 0), (0, .ref (a 0)), (1, .int x1), (2, .int x2)]) hx hb dX6_hide_26 rfl hl (by decide) rfl (fun ls hl => ?_)
      refine lv_bipush (v := 9) hx hb dX6_hide_27 (by decide) ?_
      refine lv_istore (lv' := [(4, .int 9), (3, .int 0), (0, .ref (a 0)), (1, .int x1), (2, .int x2)]) hx hb dX6_hide_29 hl (by decide) rfl (fun ls hl => ?_)
      refine lv_iconst (v := 0) hx hb dX6_hide_31 (by decide) ?_
      refine lv_istore (lv' := [(5, .int 0), (4, .int 9), (3, .int 0), (0, .ref (a 0)), (1, .int x1), (2, .int x2)]) hx hb dX6_hide_32 hl (by decide) rfl (fun ls hl => ?_)
      have L_27 : ∀ (fu34 : Nat) (x3_7 : Int32) (x4_8 : Int32) (x5_9 : Int32) (σ_10 : Mem) (H : Heap) (locs : List Loc) (ls : Array Slot), it4 (f_X6_hide_B34 x1 x2) fu34 x3_7 x4_8 x5_9 σ_10 = some q → HP G kM nM a σ_10 H → va_S (AW nM a) s.heap H locs → lv_has ls 7 [(5, .int x5_9), (4, .int x4_8), (3, .int x3_7), (0, .ref (a 0)), (1, .int x1), (2, .int x2)] → W p l e ({ frames := 6, cells := 0, slots := 0, locals := 132 } : Room) s m ([.ref (a 0), .int x1, .int x2] : List Value).toArray below meth c H locs 0 0 (MQ below (QI G kM nM a q) ([.ref (a 0), .int x1, .int x2] : List Value).toArray s 0 0 (AW nM a)) (F0 m 34 ls []) := by
        intro fu34
        induction fu34 with
        | zero =>
          intro x3_7 x4_8 x5_9 σ_10 H locs ls h
          cases h
        | succ fu34 ih34 =>
          intro x3_7 x4_8 x5_9 σ_10 H locs ls h hP hS hl
          replace h : (f_X6_hide_B34 x1 x2) (it4 (f_X6_hide_B34 x1 x2) fu34) x3_7 x4_8 x5_9 σ_10 = some q := h
          generalize it4 (f_X6_hide_B34 x1 x2) fu34 = rec34 at h ih34
          unfold f_X6_hide_B34 at h
          refine lv_iload hx hb dX6_hide_34 (lv_at hl 0 rfl) ?_
          refine lv_bipush (v := 8) hx hb dX6_hide_36 (by decide) ?_
          refine lv_icmp_ge (tgt := 105) hx hb dX6_hide_38 (by decide) (fun (c_11 : 8 ≤ x5_9) => ?_) (fun (c_11 : ¬ 8 ≤ x5_9) => ?_)
          · rw [if_pos c_11] at h
            refine lv_iload_n hx hb dX6_hide_105 rfl (lv_at hl 2 rfl) ?_
            exact m_ri hx hb hr hlk hP hS (Option.some.inj h) dX6_hide_106
          · rw [if_neg c_11] at h
            refine lv_aload_n hx hb dX6_hide_41 rfl (lv_at hl 3 rfl) ?_
            refine gf_X6_7 (o := 0) (o2 := 1) C0 hb hP (rfl : kM 0 = 6) rfl dX6_hide_42 ?_
            refine lv_iconst (v := 4) hx hb dX6_hide_45 (by decide) ?_
            refine lv_iload hx hb dX6_hide_46 (lv_at hl 0 rfl) ?_
            refine lv_iadd hx hb dX6_hide_48 ?_
            refine lv_iload_n hx hb dX6_hide_49 rfl (lv_at hl 4 rfl) ?_
            obtain ⟨hi_12, h⟩ := chk_s h
            refine m_iast (o := 1) (N := 74) (i := 4 + x5_9) (j := (4 + x5_9).toNatClampNeg) C0 hb hP hS (rfl : kM 1 = 100 + 74) (by decide) hi_12 rfl dX6_hide_50 (fun H locs hP hS => ?_)
            refine lv_aload_n hx hb dX6_hide_51 rfl (lv_at hl 3 rfl) ?_
            refine lv_iload_n hx hb dX6_hide_52 rfl (lv_at hl 5 rfl) ?_
            obtain ⟨q_13, hq_14, h⟩ := bd_s h
            refine m_cVv (As := [.int x2]) (rest := []) (o := 0) (ci := 6) C0 hb hml hl.1 wm_X6_141 md_X6_goesOn (k_X6_goesOn l G a (mst σ_10 1 ((4 + x5_9).toNatClampNeg) x1) hj x2 q_13 hq_14) rfl rfl ⟨(Nat.le_of_ble_eq_true rfl), (Nat.le_of_ble_eq_true rfl)⟩ hP hS (rfl : kM 0 = 6) (by decide) rfl rfl rfl (Nat.le_of_ble_eq_true rfl) dX6_hide_53 (fun H locs hP hS => ?_)
            refine lv_aload_n hx hb dX6_hide_56 rfl (lv_at hl 3 rfl) ?_
            refine lv_aload_n hx hb dX6_hide_57 rfl (lv_at hl 3 rfl) ?_
            obtain ⟨q_15, hq_16, h⟩ := bd_s h
            refine m_rVi (As := []) (rest := [.ref (a 0)]) (o := 0) (ci := 6) C0 hb hml hl.1 wm_X6_144 md_X6_knowing (k_X6_knowing l G a q_13 hj q_15 hq_16) rfl rfl ⟨(Nat.le_of_ble_eq_true rfl), (Nat.le_of_ble_eq_true rfl)⟩ hP hS (rfl : kM 0 = 6) (by decide) rfl rfl rfl (Nat.le_of_ble_eq_true rfl) dX6_hide_58 ?_
            obtain ⟨q_17, hq_18, h⟩ := bd_s h
            refine m_pSi (As := [.int q_15]) (rest := [.ref (a 0)]) C0.z hb hml hl.1 wm_X6_190 md_X6_ones (k_X6_ones l q_15 q_17 hq_18) rfl rfl ⟨(Nat.le_of_ble_eq_true rfl), (Nat.le_of_ble_eq_true rfl)⟩ rfl rfl (Nat.le_of_ble_eq_true rfl) dX6_hide_61 ?_
            obtain ⟨q_19, hq_20, h⟩ := bd_s h
            refine m_cVi (As := [.int q_17]) (rest := []) (o := 0) (ci := 6) C0 hb hml hl.1 wm_X6_159 md_X6_takesBack (k_X6_takesBack l G a q_13 hj q_17 q_19 hq_20) rfl rfl ⟨(Nat.le_of_ble_eq_true rfl), (Nat.le_of_ble_eq_true rfl)⟩ hP hS (rfl : kM 0 = 6) (by decide) rfl rfl rfl (Nat.le_of_ble_eq_true rfl) dX6_hide_64 (fun H locs hP hS => ?_)
            refine lv_istore (lv' := [(6, .int q_19.1), (5, .int x5_9), (4, .int x4_8), (3, .int x3_7), (0, .ref (a 0)), (1, .int x1), (2, .int x2)]) hx hb dX6_hide_67 hl (by decide) rfl (fun ls hl => ?_)
            refine lv_iload hx hb dX6_hide_69 (lv_at hl 0 rfl) ?_
            refine lv_iload hx hb dX6_hide_71 (lv_at hl 2 rfl) ?_
            have J_25 : ∀ (t_21 : Int32) (H : Heap) (locs : List Loc) (ls : Array Slot), f_X6_hide_J82 x4_8 x5_9 rec34 q_19 t_21 = some q → HP G kM nM a q_19.2 H → va_S (AW nM a) s.heap H locs → lv_has ls 7 [(6, .int q_19.1), (5, .int x5_9), (4, .int x4_8), (0, .ref (a 0)), (1, .int x1), (2, .int x2)] → W p l e ({ frames := 6, cells := 0, slots := 0, locals := 132 } : Room) s m ([.ref (a 0), .int x1, .int x2] : List Value).toArray below meth c H locs 0 0 (MQ below (QI G kM nM a q) ([.ref (a 0), .int x1, .int x2] : List Value).toArray s 0 0 (AW nM a)) (F0 m 82 ls [.int t_21]) := by
              intro t_21 H locs ls h hP hS hl
              unfold f_X6_hide_J82 at h
              refine lv_istore_n (lv' := [(3, .int t_21), (6, .int q_19.1), (5, .int x5_9), (4, .int x4_8), (0, .ref (a 0)), (1, .int x1), (2, .int x2)]) hx hb dX6_hide_82 rfl hl (by decide) rfl (fun ls hl => ?_)
              refine lv_iload hx hb dX6_hide_83 (lv_at hl 1 rfl) ?_
              refine lv_iload hx hb dX6_hide_85 (lv_at hl 3 rfl) ?_
              have J_23 : ∀ (t_22 : Int32) (H : Heap) (locs : List Loc) (ls : Array Slot), f_X6_hide_J97 x5_9 rec34 q_19 t_21 t_22 = some q → HP G kM nM a q_19.2 H → va_S (AW nM a) s.heap H locs → lv_has ls 7 [(3, .int t_21), (5, .int x5_9), (0, .ref (a 0)), (1, .int x1), (2, .int x2)] → W p l e ({ frames := 6, cells := 0, slots := 0, locals := 132 } : Room) s m ([.ref (a 0), .int x1, .int x2] : List Value).toArray below meth c H locs 0 0 (MQ below (QI G kM nM a q) ([.ref (a 0), .int x1, .int x2] : List Value).toArray s 0 0 (AW nM a)) (F0 m 97 ls [.int t_22]) := by
                intro t_22 H locs ls h hP hS hl
                unfold f_X6_hide_J97 at h
                refine lv_istore (lv' := [(4, .int t_22), (3, .int t_21), (5, .int x5_9), (0, .ref (a 0)), (1, .int x1), (2, .int x2)]) hx hb dX6_hide_97 hl (by decide) rfl (fun ls hl => ?_)
                refine lv_iinc (v := x5_9 + 1) (lv' := [(5, .int (x5_9 + 1)), (4, .int t_22), (3, .int t_21), (0, .ref (a 0)), (1, .int x1), (2, .int x2)]) hx hb dX6_hide_99 hl (k := 2) rfl rfl (by decide) rfl (fun ls hl => ?_)
                refine lv_goto (tgt := 34) hx hb dX6_hide_102 (by decide) ?_
                exact ih34 t_21 t_22 (x5_9 + 1) q_19.2 _ _ _ h hP hS (lv_sub hl [0, 1, 2, 3, 4, 5] rfl)
              refine lv_icmp_ge (tgt := 95) hx hb dX6_hide_87 (by decide) (fun (c_24 : x4_8 ≤ q_19.1) => ?_) (fun (c_24 : ¬ x4_8 ≤ q_19.1) => ?_)
              · rw [if_pos c_24] at h
                refine lv_iload hx hb dX6_hide_95 (lv_at hl 3 rfl) ?_
                exact J_23 x4_8 _ _ _ h hP hS (lv_sub hl [0, 2, 4, 5, 6] rfl)
              · rw [if_neg c_24] at h
                refine lv_iload hx hb dX6_hide_90 (lv_at hl 1 rfl) ?_
                refine lv_goto (tgt := 97) hx hb dX6_hide_92 (by decide) ?_
                exact J_23 q_19.1 _ _ _ h hP hS (lv_sub hl [0, 2, 4, 5, 6] rfl)
            refine lv_icmp_ge (tgt := 81) hx hb dX6_hide_73 (by decide) (fun (c_26 : x4_8 ≤ q_19.1) => ?_) (fun (c_26 : ¬ x4_8 ≤ q_19.1) => ?_)
            · rw [if_pos c_26] at h
              refine lv_iload_n hx hb dX6_hide_81 rfl (lv_at hl 3 rfl) ?_
              exact J_25 x3_7 _ _ _ h hP hS (lv_sub hl [0, 1, 2, 4, 5, 6] rfl)
            · rw [if_neg c_26] at h
              refine lv_iload hx hb dX6_hide_76 (lv_at hl 1 rfl) ?_
              refine lv_goto (tgt := 82) hx hb dX6_hide_78 (by decide) ?_
              exact J_25 x5_9 _ _ _ h hP hS (lv_sub hl [0, 1, 2, 4, 5, 6] rfl)
      exact L_27 FU 0 9 0 q_5 _ _ _ h hP hS (lv_sub hl [0, 1, 2, 3, 4, 5] rfl)
    · rw [if_pos c_4] at h
      refine lv_aload_n hx hb dX6_hide_14 rfl (lv_at hl 0 rfl) ?_
      refine lv_ldc hx hb hown (hts _ wk_X6_46) dX6_hide_15 ?_
      obtain ⟨q_28, hq_29, h⟩ := bd_s h
      refine m_cVi (As := [.int (-1000001)]) (rest := []) (o := 0) (ci := 6) C0 hb hml hl.1 wm_X6_75 md_X6_finds (k_X6_finds l G a σ hj (-1000001) q_28 hq_29) rfl rfl ⟨(Nat.le_of_ble_eq_true rfl), (Nat.le_of_ble_eq_true rfl)⟩ hP hS (rfl : kM 0 = 6) (by decide) rfl rfl rfl (Nat.le_of_ble_eq_true rfl) dX6_hide_17 (fun H locs hP hS => ?_)
      exact m_ri hx hb hr hlk hP hS (Option.some.inj h) dX6_hide_20
def f_X6_safe_J89 (x4_9 : Int32) (σ_11 : Mem) : Option (Int32 × Mem) := (if 0 ≤ x4_9 then some (x4_9, σ_11) else ((f_X6_finds (-1000004) σ_11).bind fun q_13 => some (q_13.1, q_13.2)))
def f_X6_safe_J78 (x5_10 : Int32) (rec36 : Int32 → Int32 → Mem → Option (Int32 × Mem)) (q_19 : Mem) (t_23 : Int32) : Option (Int32 × Mem) := ((f_X6_takesBack t_23 q_19).bind fun q_24 => (rec36 q_24.1 (x5_10 + 1) q_24.2))
def f_X6_safe_B36 (x1 : Int32) (x2 : Int32) (q_5 : Int32) (rec36 : Int32 → Int32 → Mem → Option (Int32 × Mem)) (x4_9 : Int32) (x5_10 : Int32) (σ_11 : Mem) : Option (Int32 × Mem) := (if 99 < x5_10 then (f_X6_safe_J89 x4_9 σ_11) else (if 0 ≤ x4_9 then (f_X6_safe_J89 x4_9 σ_11) else (chk (4 + x1) 74 ((f_X6_goesOn x2 (mst σ_11 1 ((4 + x1).toNatClampNeg) x5_10)).bind fun q_19 => ((f_X6_knowing q_19).bind fun q_21 => (f_X6_safe_J78 x5_10 rec36 q_19 (if q_21 = q_5 then x5_10 else (-1))))))))
def f_X6_safe (x1 : Int32) (x2 : Int32) (σ : Mem) : Option (Int32 × Mem) := (if (f_X6_isHour x1) = 0 then ((f_X6_finds (-1000001) σ).bind fun q_2 => some (q_2.1, q_2.2)) else (if (f_X6_isSoon x2) = 0 then ((f_X6_finds (-1000001) σ).bind fun q_29 => some (q_29.1, q_29.2)) else ((f_X6_knowing σ).bind fun q_5 => ((f_X6_laysAside σ).bind fun q_7 => (it3 (f_X6_safe_B36 x1 x2 q_5) FU (-1) 0 q_7)))))
set_option maxHeartbeats 4000000 in
set_option maxRecDepth 100000 in
theorem k_X6_safe (l : Launch) (G : GG) (a : Nat → Nat) (σ : Mem) (hj : INJ nM a) (x1 : Int32) (x2 : Int32) (q : Int32 × Mem) (h : f_X6_safe x1 x2 σ = some q) : Met l yX6_safe (Cond.code yX6_safe cX6_safe 6 (some .int) :: TB) ({ frames := 6, cells := 0, slots := 0, locals := 132 } : Room) (PA G kM nM a σ [.ref (a 0), .int x1, .int x2]) (QI G kM nM a q) 0 0 (AW nM a) := by
  refine M_ofW (by decide) hj kM_lt (Nat.le_of_ble_eq_true rfl) (fun p e s m below meth c ls C0 hb hml hr hlk hP hS hl => ?_)
  have C0 : CT p s _ m RX6 G kM nM a := C0
  have hx := C0.1
  have hts := C0.2.1
  have hown := C0.2.2.1
  have hl : lv_has ls 6 [(0, .ref (a 0)), (1, .int x1), (2, .int x2)] := hl
  unfold f_X6_safe at h
  refine lv_iload_n hx hb dX6_safe_0 rfl (lv_at hl 1 rfl) ?_
  refine m_pSi (As := [.int x1]) (rest := []) C0.z hb hml hl.1 wm_X6_79 md_X6_isHour (k_X6_isHour l x1) rfl rfl ⟨(Nat.le_of_ble_eq_true rfl), (Nat.le_of_ble_eq_true rfl)⟩ rfl rfl (Nat.le_of_ble_eq_true rfl) dX6_safe_1 ?_
  refine lv_if_eq (tgt := 14) hx hb dX6_safe_4 (by decide) (fun (c_1 : (f_X6_isHour x1) = 0) => ?_) (fun (c_1 : ¬ (f_X6_isHour x1) = 0) => ?_)
  · rw [if_pos c_1] at h
    refine lv_aload_n hx hb dX6_safe_14 rfl (lv_at hl 0 rfl) ?_
    refine lv_ldc hx hb hown (hts _ wk_X6_46) dX6_safe_15 ?_
    obtain ⟨q_2, hq_3, h⟩ := bd_s h
    refine m_cVi (As := [.int (-1000001)]) (rest := []) (o := 0) (ci := 6) C0 hb hml hl.1 wm_X6_75 md_X6_finds (k_X6_finds l G a σ hj (-1000001) q_2 hq_3) rfl rfl ⟨(Nat.le_of_ble_eq_true rfl), (Nat.le_of_ble_eq_true rfl)⟩ hP hS (rfl : kM 0 = 6) (by decide) rfl rfl rfl (Nat.le_of_ble_eq_true rfl) dX6_safe_17 (fun H locs hP hS => ?_)
    exact m_ri hx hb hr hlk hP hS (Option.some.inj h) dX6_safe_20
  · rw [if_neg c_1] at h
    refine lv_iload_n hx hb dX6_safe_7 rfl (lv_at hl 2 rfl) ?_
    refine m_pSi (As := [.int x2]) (rest := []) C0.z hb hml hl.1 wm_X6_187 md_X6_isSoon (k_X6_isSoon l x2) rfl rfl ⟨(Nat.le_of_ble_eq_true rfl), (Nat.le_of_ble_eq_true rfl)⟩ rfl rfl (Nat.le_of_ble_eq_true rfl) dX6_safe_8 ?_
    refine lv_if_ne (tgt := 21) hx hb dX6_safe_11 (by decide) (fun (c_4 : ¬ (f_X6_isSoon x2) = 0) => ?_) (fun (c_4 : (f_X6_isSoon x2) = 0) => ?_)
    · rw [if_neg c_4] at h
      refine lv_aload_n hx hb dX6_safe_21 rfl (lv_at hl 0 rfl) ?_
      obtain ⟨q_5, hq_6, h⟩ := bd_s h
      refine m_rVi (As := []) (rest := []) (o := 0) (ci := 6) C0 hb hml hl.1 wm_X6_144 md_X6_knowing (k_X6_knowing l G a σ hj q_5 hq_6) rfl rfl ⟨(Nat.le_of_ble_eq_true rfl), (Nat.le_of_ble_eq_true rfl)⟩ hP hS (rfl : kM 0 = 6) (by decide) rfl rfl rfl (Nat.le_of_ble_eq_true rfl) dX6_safe_22 ?_
      refine lv_istore_n (lv' := [(3, .int q_5), (0, .ref (a 0)), (1, .int x1), (2, .int x2)]) hx hb dX6_safe_25 rfl hl (by decide) rfl (fun ls hl => ?_)
      refine lv_aload_n hx hb dX6_safe_26 rfl (lv_at hl 1 rfl) ?_
      obtain ⟨q_7, hq_8, h⟩ := bd_s h
      refine m_cVv (As := []) (rest := []) (o := 0) (ci := 6) C0 hb hml hl.1 wm_X6_156 md_X6_laysAside (k_X6_laysAside l G a σ hj q_7 hq_8) rfl rfl ⟨(Nat.le_of_ble_eq_true rfl), (Nat.le_of_ble_eq_true rfl)⟩ hP hS (rfl : kM 0 = 6) (by decide) rfl rfl rfl (Nat.le_of_ble_eq_true rfl) dX6_safe_27 (fun H locs hP hS => ?_)
      refine lv_iconst (v := (-1)) hx hb dX6_safe_30 (by decide) ?_
      refine lv_istore (lv' := [(4, .int (-1)), (3, .int q_5), (0, .ref (a 0)), (1, .int x1), (2, .int x2)]) hx hb dX6_safe_31 hl (by decide) rfl (fun ls hl => ?_)
      refine lv_iconst (v := 0) hx hb dX6_safe_33 (by decide) ?_
      refine lv_istore (lv' := [(5, .int 0), (4, .int (-1)), (3, .int q_5), (0, .ref (a 0)), (1, .int x1), (2, .int x2)]) hx hb dX6_safe_34 hl (by decide) rfl (fun ls hl => ?_)
      have L_28 : ∀ (fu36 : Nat) (x4_9 : Int32) (x5_10 : Int32) (σ_11 : Mem) (H : Heap) (locs : List Loc) (ls : Array Slot), it3 (f_X6_safe_B36 x1 x2 q_5) fu36 x4_9 x5_10 σ_11 = some q → HP G kM nM a σ_11 H → va_S (AW nM a) s.heap H locs → lv_has ls 6 [(5, .int x5_10), (4, .int x4_9), (3, .int q_5), (0, .ref (a 0)), (1, .int x1), (2, .int x2)] → W p l e ({ frames := 6, cells := 0, slots := 0, locals := 132 } : Room) s m ([.ref (a 0), .int x1, .int x2] : List Value).toArray below meth c H locs 0 0 (MQ below (QI G kM nM a q) ([.ref (a 0), .int x1, .int x2] : List Value).toArray s 0 0 (AW nM a)) (F0 m 36 ls []) := by
        intro fu36
        induction fu36 with
        | zero =>
          intro x4_9 x5_10 σ_11 H locs ls h
          cases h
        | succ fu36 ih36 =>
          intro x4_9 x5_10 σ_11 H locs ls h hP hS hl
          replace h : (f_X6_safe_B36 x1 x2 q_5) (it3 (f_X6_safe_B36 x1 x2 q_5) fu36) x4_9 x5_10 σ_11 = some q := h
          generalize it3 (f_X6_safe_B36 x1 x2 q_5) fu36 = rec36 at h ih36
          unfold f_X6_safe_B36 at h
          refine lv_iload hx hb dX6_safe_36 (lv_at hl 0 rfl) ?_
          refine lv_bipush (v := 99) hx hb dX6_safe_38 (by decide) ?_
          have J_15 : ∀  (H : Heap) (locs : List Loc) (ls : Array Slot), f_X6_safe_J89 x4_9 σ_11 = some q → HP G kM nM a σ_11 H → va_S (AW nM a) s.heap H locs → lv_has ls 6 [(4, .int x4_9), (0, .ref (a 0))] → W p l e ({ frames := 6, cells := 0, slots := 0, locals := 132 } : Room) s m ([.ref (a 0), .int x1, .int x2] : List Value).toArray below meth c H locs 0 0 (MQ below (QI G kM nM a q) ([.ref (a 0), .int x1, .int x2] : List Value).toArray s 0 0 (AW nM a)) (F0 m 89 ls []) := by
            intro  H locs ls h hP hS hl
            unfold f_X6_safe_J89 at h
            refine lv_iload hx hb dX6_safe_89 (lv_at hl 0 rfl) ?_
            refine lv_if_ge (tgt := 103) hx hb dX6_safe_91 (by decide) (fun (c_12 : 0 ≤ x4_9) => ?_) (fun (c_12 : ¬ 0 ≤ x4_9) => ?_)
            · rw [if_pos c_12] at h
              refine lv_iload hx hb dX6_safe_103 (lv_at hl 0 rfl) ?_
              exact m_ri hx hb hr hlk hP hS (Option.some.inj h) dX6_safe_105
            · rw [if_neg c_12] at h
              refine lv_aload_n hx hb dX6_safe_94 rfl (lv_at hl 1 rfl) ?_
              refine lv_ldc hx hb hown (hts _ wk_X6_169) dX6_safe_95 ?_
              obtain ⟨q_13, hq_14, h⟩ := bd_s h
              refine m_cVi (As := [.int (-1000004)]) (rest := []) (o := 0) (ci := 6) C0 hb hml hl.1 wm_X6_75 md_X6_finds (k_X6_finds l G a σ_11 hj (-1000004) q_13 hq_14) rfl rfl ⟨(Nat.le_of_ble_eq_true rfl), (Nat.le_of_ble_eq_true rfl)⟩ hP hS (rfl : kM 0 = 6) (by decide) rfl rfl rfl (Nat.le_of_ble_eq_true rfl) dX6_safe_97 (fun H locs hP hS => ?_)
              refine lv_goto (tgt := 105) hx hb dX6_safe_100 (by decide) ?_
              exact m_ri hx hb hr hlk hP hS (Option.some.inj h) dX6_safe_105
          refine lv_icmp_gt (tgt := 89) hx hb dX6_safe_40 (by decide) (fun (c_16 : 99 < x5_10) => ?_) (fun (c_16 : ¬ 99 < x5_10) => ?_)
          · rw [if_pos c_16] at h
            exact J_15  _ _ _ h hP hS (lv_sub hl [1, 3] rfl)
          · rw [if_neg c_16] at h
            refine lv_iload hx hb dX6_safe_43 (lv_at hl 1 rfl) ?_
            refine lv_if_ge (tgt := 89) hx hb dX6_safe_45 (by decide) (fun (c_17 : 0 ≤ x4_9) => ?_) (fun (c_17 : ¬ 0 ≤ x4_9) => ?_)
            · rw [if_pos c_17] at h
              exact J_15  _ _ _ h hP hS (lv_sub hl [1, 3] rfl)
            · rw [if_neg c_17] at h
              refine lv_aload_n hx hb dX6_safe_48 rfl (lv_at hl 3 rfl) ?_
              refine gf_X6_7 (o := 0) (o2 := 1) C0 hb hP (rfl : kM 0 = 6) rfl dX6_safe_49 ?_
              refine lv_iconst (v := 4) hx hb dX6_safe_52 (by decide) ?_
              refine lv_iload_n hx hb dX6_safe_53 rfl (lv_at hl 4 rfl) ?_
              refine lv_iadd hx hb dX6_safe_54 ?_
              refine lv_iload hx hb dX6_safe_55 (lv_at hl 0 rfl) ?_
              obtain ⟨hi_18, h⟩ := chk_s h
              refine m_iast (o := 1) (N := 74) (i := 4 + x1) (j := (4 + x1).toNatClampNeg) C0 hb hP hS (rfl : kM 1 = 100 + 74) (by decide) hi_18 rfl dX6_safe_57 (fun H locs hP hS => ?_)
              refine lv_aload_n hx hb dX6_safe_58 rfl (lv_at hl 3 rfl) ?_
              refine lv_iload_n hx hb dX6_safe_59 rfl (lv_at hl 5 rfl) ?_
              obtain ⟨q_19, hq_20, h⟩ := bd_s h
              refine m_cVv (As := [.int x2]) (rest := []) (o := 0) (ci := 6) C0 hb hml hl.1 wm_X6_141 md_X6_goesOn (k_X6_goesOn l G a (mst σ_11 1 ((4 + x1).toNatClampNeg) x5_10) hj x2 q_19 hq_20) rfl rfl ⟨(Nat.le_of_ble_eq_true rfl), (Nat.le_of_ble_eq_true rfl)⟩ hP hS (rfl : kM 0 = 6) (by decide) rfl rfl rfl (Nat.le_of_ble_eq_true rfl) dX6_safe_60 (fun H locs hP hS => ?_)
              refine lv_aload_n hx hb dX6_safe_63 rfl (lv_at hl 3 rfl) ?_
              refine lv_aload_n hx hb dX6_safe_64 rfl (lv_at hl 3 rfl) ?_
              obtain ⟨q_21, hq_22, h⟩ := bd_s h
              refine m_rVi (As := []) (rest := [.ref (a 0)]) (o := 0) (ci := 6) C0 hb hml hl.1 wm_X6_144 md_X6_knowing (k_X6_knowing l G a q_19 hj q_21 hq_22) rfl rfl ⟨(Nat.le_of_ble_eq_true rfl), (Nat.le_of_ble_eq_true rfl)⟩ hP hS (rfl : kM 0 = 6) (by decide) rfl rfl rfl (Nat.le_of_ble_eq_true rfl) dX6_safe_65 ?_
              refine lv_iload_n hx hb dX6_safe_68 rfl (lv_at hl 2 rfl) ?_
              have J_26 : ∀ (t_23 : Int32) (H : Heap) (locs : List Loc) (ls : Array Slot), f_X6_safe_J78 x5_10 rec36 q_19 t_23 = some q → HP G kM nM a q_19 H → va_S (AW nM a) s.heap H locs → lv_has ls 6 [(5, .int x5_10), (3, .int q_5), (0, .ref (a 0)), (1, .int x1), (2, .int x2)] → W p l e ({ frames := 6, cells := 0, slots := 0, locals := 132 } : Room) s m ([.ref (a 0), .int x1, .int x2] : List Value).toArray below meth c H locs 0 0 (MQ below (QI G kM nM a q) ([.ref (a 0), .int x1, .int x2] : List Value).toArray s 0 0 (AW nM a)) (F0 m 78 ls [.int t_23, .ref (a 0)]) := by
                intro t_23 H locs ls h hP hS hl
                unfold f_X6_safe_J78 at h
                obtain ⟨q_24, hq_25, h⟩ := bd_s h
                refine m_cVi (As := [.int t_23]) (rest := []) (o := 0) (ci := 6) C0 hb hml hl.1 wm_X6_159 md_X6_takesBack (k_X6_takesBack l G a q_19 hj t_23 q_24 hq_25) rfl rfl ⟨(Nat.le_of_ble_eq_true rfl), (Nat.le_of_ble_eq_true rfl)⟩ hP hS (rfl : kM 0 = 6) (by decide) rfl rfl rfl (Nat.le_of_ble_eq_true rfl) dX6_safe_78 (fun H locs hP hS => ?_)
                refine lv_istore (lv' := [(4, .int q_24.1), (5, .int x5_10), (3, .int q_5), (0, .ref (a 0)), (1, .int x1), (2, .int x2)]) hx hb dX6_safe_81 hl (by decide) rfl (fun ls hl => ?_)
                refine lv_iinc (v := x5_10 + 1) (lv' := [(5, .int (x5_10 + 1)), (4, .int q_24.1), (3, .int q_5), (0, .ref (a 0)), (1, .int x1), (2, .int x2)]) hx hb dX6_safe_83 hl (k := 1) rfl rfl (by decide) rfl (fun ls hl => ?_)
                refine lv_goto (tgt := 36) hx hb dX6_safe_86 (by decide) ?_
                exact ih36 q_24.1 (x5_10 + 1) q_24.2 _ _ _ h hP hS (lv_sub hl [0, 1, 2, 3, 4, 5] rfl)
              refine lv_icmp_ne (tgt := 77) hx hb dX6_safe_69 (by decide) (fun (c_27 : ¬ q_21 = q_5) => ?_) (fun (c_27 : q_21 = q_5) => ?_)
              · rw [if_neg c_27] at h
                refine lv_iconst (v := (-1)) hx hb dX6_safe_77 (by decide) ?_
                exact J_26 (-1) _ _ _ h hP hS (lv_sub hl [0, 2, 3, 4, 5] rfl)
              · rw [if_pos c_27] at h
                refine lv_iload hx hb dX6_safe_72 (lv_at hl 0 rfl) ?_
                refine lv_goto (tgt := 78) hx hb dX6_safe_74 (by decide) ?_
                exact J_26 x5_10 _ _ _ h hP hS (lv_sub hl [0, 2, 3, 4, 5] rfl)
      exact L_28 FU (-1) 0 q_7 _ _ _ h hP hS (lv_sub hl [0, 1, 2, 3, 4, 5] rfl)
    · rw [if_pos c_4] at h
      refine lv_aload_n hx hb dX6_safe_14 rfl (lv_at hl 0 rfl) ?_
      refine lv_ldc hx hb hown (hts _ wk_X6_46) dX6_safe_15 ?_
      obtain ⟨q_29, hq_30, h⟩ := bd_s h
      refine m_cVi (As := [.int (-1000001)]) (rest := []) (o := 0) (ci := 6) C0 hb hml hl.1 wm_X6_75 md_X6_finds (k_X6_finds l G a σ hj (-1000001) q_29 hq_30) rfl rfl ⟨(Nat.le_of_ble_eq_true rfl), (Nat.le_of_ble_eq_true rfl)⟩ hP hS (rfl : kM 0 = 6) (by decide) rfl rfl rfl (Nat.le_of_ble_eq_true rfl) dX6_safe_17 (fun H locs hP hS => ?_)
      exact m_ri hx hb hr hlk hP hS (Option.some.inj h) dX6_safe_20
def f_X6_sleep_J76 (x4_7 : Int32) (rec33 : Int32 → Int32 → Mem → Option (Int32 × Mem)) (q_15 : Mem) (t_19 : Int32) : Option (Int32 × Mem) := ((f_X6_takesBack t_19 q_15).bind fun q_20 => (rec33 q_20.1 (x4_7 + 1) q_20.2))
def f_X6_sleep_B33 (x1 : Int32) (q_2 : Int32) (rec33 : Int32 → Int32 → Mem → Option (Int32 × Mem)) (x3_6 : Int32) (x4_7 : Int32) (σ_8 : Mem) : Option (Int32 × Mem) := (if 60 < x4_7 then (if 0 ≤ x3_6 then some (x3_6, σ_8) else ((f_X6_finds (-1000004) σ_8).bind fun q_11 => some (q_11.1, q_11.2))) else ((f_X6_goesOn x4_7 (mst σ_8 0 6 1)).bind fun q_13 => ((f_X6_goesOn x1 (mst q_13 0 6 0)).bind fun q_15 => ((f_X6_knowing q_15).bind fun q_17 => (f_X6_sleep_J76 x4_7 rec33 q_15 (if q_17 = q_2 then x4_7 else x3_6))))))
def f_X6_sleep (x1 : Int32) (σ : Mem) : Option (Int32 × Mem) := (if (f_X6_in x1.toInt64 0 20) = 0 then ((f_X6_finds (-1000001) σ).bind fun q_25 => some (q_25.1, q_25.2)) else ((f_X6_knowing σ).bind fun q_2 => ((f_X6_laysAside σ).bind fun q_4 => (it3 (f_X6_sleep_B33 x1 q_2) FU (-1) 0 q_4))))
set_option maxHeartbeats 4000000 in
set_option maxRecDepth 100000 in
theorem k_X6_sleep (l : Launch) (G : GG) (a : Nat → Nat) (σ : Mem) (hj : INJ nM a) (x1 : Int32) (q : Int32 × Mem) (h : f_X6_sleep x1 σ = some q) : Met l yX6_sleep (Cond.code yX6_sleep cX6_sleep 5 (some .int) :: TB) ({ frames := 6, cells := 0, slots := 0, locals := 132 } : Room) (PA G kM nM a σ [.ref (a 0), .int x1]) (QI G kM nM a q) 0 0 (AW nM a) := by
  refine M_ofW (by decide) hj kM_lt (Nat.le_of_ble_eq_true rfl) (fun p e s m below meth c ls C0 hb hml hr hlk hP hS hl => ?_)
  have C0 : CT p s _ m RX6 G kM nM a := C0
  have hx := C0.1
  have hts := C0.2.1
  have hown := C0.2.2.1
  have hl : lv_has ls 5 [(0, .ref (a 0)), (1, .int x1)] := hl
  unfold f_X6_sleep at h
  refine lv_iload_n hx hb dX6_sleep_0 rfl (lv_at hl 1 rfl) ?_
  refine lv_i2l (v := x1.toInt64) hx hb dX6_sleep_1 rfl ?_
  refine lv_lconst (v := 0) hx hb dX6_sleep_2 (by decide) ?_
  refine lv_ldc2 hx hb hown (hts _ wk_X6_193) dX6_sleep_3 ?_
  refine m_pSi (As := [.long x1.toInt64, .long 0, .long 20]) (rest := []) C0.z hb hml hl.1 wm_X6_49 md_X6_in (k_X6_in l x1.toInt64 0 20) rfl rfl ⟨(Nat.le_of_ble_eq_true rfl), (Nat.le_of_ble_eq_true rfl)⟩ rfl rfl (Nat.le_of_ble_eq_true rfl) dX6_sleep_6 ?_
  refine lv_if_ne (tgt := 19) hx hb dX6_sleep_9 (by decide) (fun (c_1 : ¬ (f_X6_in x1.toInt64 0 20) = 0) => ?_) (fun (c_1 : (f_X6_in x1.toInt64 0 20) = 0) => ?_)
  · rw [if_neg c_1] at h
    refine lv_aload_n hx hb dX6_sleep_19 rfl (lv_at hl 0 rfl) ?_
    obtain ⟨q_2, hq_3, h⟩ := bd_s h
    refine m_rVi (As := []) (rest := []) (o := 0) (ci := 6) C0 hb hml hl.1 wm_X6_144 md_X6_knowing (k_X6_knowing l G a σ hj q_2 hq_3) rfl rfl ⟨(Nat.le_of_ble_eq_true rfl), (Nat.le_of_ble_eq_true rfl)⟩ hP hS (rfl : kM 0 = 6) (by decide) rfl rfl rfl (Nat.le_of_ble_eq_true rfl) dX6_sleep_20 ?_
    refine lv_istore_n (lv' := [(2, .int q_2), (0, .ref (a 0)), (1, .int x1)]) hx hb dX6_sleep_23 rfl hl (by decide) rfl (fun ls hl => ?_)
    refine lv_aload_n hx hb dX6_sleep_24 rfl (lv_at hl 1 rfl) ?_
    obtain ⟨q_4, hq_5, h⟩ := bd_s h
    refine m_cVv (As := []) (rest := []) (o := 0) (ci := 6) C0 hb hml hl.1 wm_X6_156 md_X6_laysAside (k_X6_laysAside l G a σ hj q_4 hq_5) rfl rfl ⟨(Nat.le_of_ble_eq_true rfl), (Nat.le_of_ble_eq_true rfl)⟩ hP hS (rfl : kM 0 = 6) (by decide) rfl rfl rfl (Nat.le_of_ble_eq_true rfl) dX6_sleep_25 (fun H locs hP hS => ?_)
    refine lv_iconst (v := (-1)) hx hb dX6_sleep_28 (by decide) ?_
    refine lv_istore_n (lv' := [(3, .int (-1)), (2, .int q_2), (0, .ref (a 0)), (1, .int x1)]) hx hb dX6_sleep_29 rfl hl (by decide) rfl (fun ls hl => ?_)
    refine lv_iconst (v := 0) hx hb dX6_sleep_30 (by decide) ?_
    refine lv_istore (lv' := [(4, .int 0), (3, .int (-1)), (2, .int q_2), (0, .ref (a 0)), (1, .int x1)]) hx hb dX6_sleep_31 hl (by decide) rfl (fun ls hl => ?_)
    have L_24 : ∀ (fu33 : Nat) (x3_6 : Int32) (x4_7 : Int32) (σ_8 : Mem) (H : Heap) (locs : List Loc) (ls : Array Slot), it3 (f_X6_sleep_B33 x1 q_2) fu33 x3_6 x4_7 σ_8 = some q → HP G kM nM a σ_8 H → va_S (AW nM a) s.heap H locs → lv_has ls 5 [(4, .int x4_7), (3, .int x3_6), (2, .int q_2), (0, .ref (a 0)), (1, .int x1)] → W p l e ({ frames := 6, cells := 0, slots := 0, locals := 132 } : Room) s m ([.ref (a 0), .int x1] : List Value).toArray below meth c H locs 0 0 (MQ below (QI G kM nM a q) ([.ref (a 0), .int x1] : List Value).toArray s 0 0 (AW nM a)) (F0 m 33 ls []) := by
      intro fu33
      induction fu33 with
      | zero =>
        intro x3_6 x4_7 σ_8 H locs ls h
        cases h
      | succ fu33 ih33 =>
        intro x3_6 x4_7 σ_8 H locs ls h hP hS hl
        replace h : (f_X6_sleep_B33 x1 q_2) (it3 (f_X6_sleep_B33 x1 q_2) fu33) x3_6 x4_7 σ_8 = some q := h
        generalize it3 (f_X6_sleep_B33 x1 q_2) fu33 = rec33 at h ih33
        unfold f_X6_sleep_B33 at h
        refine lv_iload hx hb dX6_sleep_33 (lv_at hl 0 rfl) ?_
        refine lv_bipush (v := 60) hx hb dX6_sleep_35 (by decide) ?_
        refine lv_icmp_gt (tgt := 86) hx hb dX6_sleep_37 (by decide) (fun (c_9 : 60 < x4_7) => ?_) (fun (c_9 : ¬ 60 < x4_7) => ?_)
        · rw [if_pos c_9] at h
          refine lv_iload_n hx hb dX6_sleep_86 rfl (lv_at hl 1 rfl) ?_
          refine lv_if_ge (tgt := 99) hx hb dX6_sleep_87 (by decide) (fun (c_10 : 0 ≤ x3_6) => ?_) (fun (c_10 : ¬ 0 ≤ x3_6) => ?_)
          · rw [if_pos c_10] at h
            refine lv_iload_n hx hb dX6_sleep_99 rfl (lv_at hl 1 rfl) ?_
            exact m_ri hx hb hr hlk hP hS (Option.some.inj h) dX6_sleep_100
          · rw [if_neg c_10] at h
            refine lv_aload_n hx hb dX6_sleep_90 rfl (lv_at hl 3 rfl) ?_
            refine lv_ldc hx hb hown (hts _ wk_X6_169) dX6_sleep_91 ?_
            obtain ⟨q_11, hq_12, h⟩ := bd_s h
            refine m_cVi (As := [.int (-1000004)]) (rest := []) (o := 0) (ci := 6) C0 hb hml hl.1 wm_X6_75 md_X6_finds (k_X6_finds l G a σ_8 hj (-1000004) q_11 hq_12) rfl rfl ⟨(Nat.le_of_ble_eq_true rfl), (Nat.le_of_ble_eq_true rfl)⟩ hP hS (rfl : kM 0 = 6) (by decide) rfl rfl rfl (Nat.le_of_ble_eq_true rfl) dX6_sleep_93 (fun H locs hP hS => ?_)
            refine lv_goto (tgt := 100) hx hb dX6_sleep_96 (by decide) ?_
            exact m_ri hx hb hr hlk hP hS (Option.some.inj h) dX6_sleep_100
        · rw [if_neg c_9] at h
          refine lv_aload_n hx hb dX6_sleep_40 rfl (lv_at hl 3 rfl) ?_
          refine lv_iconst (v := 1) hx hb dX6_sleep_41 (by decide) ?_
          refine pf_X6_117 (o := 0) C0 hb hP hS (rfl : kM 0 = 6) (Or.inr rfl) dX6_sleep_42 (fun H locs hP hS => ?_)
          refine lv_aload_n hx hb dX6_sleep_45 rfl (lv_at hl 3 rfl) ?_
          refine lv_iload hx hb dX6_sleep_46 (lv_at hl 0 rfl) ?_
          obtain ⟨q_13, hq_14, h⟩ := bd_s h
          refine m_cVv (As := [.int x4_7]) (rest := []) (o := 0) (ci := 6) C0 hb hml hl.1 wm_X6_141 md_X6_goesOn (k_X6_goesOn l G a (mst σ_8 0 6 1) hj x4_7 q_13 hq_14) rfl rfl ⟨(Nat.le_of_ble_eq_true rfl), (Nat.le_of_ble_eq_true rfl)⟩ hP hS (rfl : kM 0 = 6) (by decide) rfl rfl rfl (Nat.le_of_ble_eq_true rfl) dX6_sleep_48 (fun H locs hP hS => ?_)
          refine lv_aload_n hx hb dX6_sleep_51 rfl (lv_at hl 3 rfl) ?_
          refine lv_iconst (v := 0) hx hb dX6_sleep_52 (by decide) ?_
          refine pf_X6_117 (o := 0) C0 hb hP hS (rfl : kM 0 = 6) (Or.inl rfl) dX6_sleep_53 (fun H locs hP hS => ?_)
          refine lv_aload_n hx hb dX6_sleep_56 rfl (lv_at hl 3 rfl) ?_
          refine lv_iload_n hx hb dX6_sleep_57 rfl (lv_at hl 4 rfl) ?_
          obtain ⟨q_15, hq_16, h⟩ := bd_s h
          refine m_cVv (As := [.int x1]) (rest := []) (o := 0) (ci := 6) C0 hb hml hl.1 wm_X6_141 md_X6_goesOn (k_X6_goesOn l G a (mst q_13 0 6 0) hj x1 q_15 hq_16) rfl rfl ⟨(Nat.le_of_ble_eq_true rfl), (Nat.le_of_ble_eq_true rfl)⟩ hP hS (rfl : kM 0 = 6) (by decide) rfl rfl rfl (Nat.le_of_ble_eq_true rfl) dX6_sleep_58 (fun H locs hP hS => ?_)
          refine lv_aload_n hx hb dX6_sleep_61 rfl (lv_at hl 3 rfl) ?_
          refine lv_aload_n hx hb dX6_sleep_62 rfl (lv_at hl 3 rfl) ?_
          obtain ⟨q_17, hq_18, h⟩ := bd_s h
          refine m_rVi (As := []) (rest := [.ref (a 0)]) (o := 0) (ci := 6) C0 hb hml hl.1 wm_X6_144 md_X6_knowing (k_X6_knowing l G a q_15 hj q_17 hq_18) rfl rfl ⟨(Nat.le_of_ble_eq_true rfl), (Nat.le_of_ble_eq_true rfl)⟩ hP hS (rfl : kM 0 = 6) (by decide) rfl rfl rfl (Nat.le_of_ble_eq_true rfl) dX6_sleep_63 ?_
          refine lv_iload_n hx hb dX6_sleep_66 rfl (lv_at hl 2 rfl) ?_
          have J_22 : ∀ (t_19 : Int32) (H : Heap) (locs : List Loc) (ls : Array Slot), f_X6_sleep_J76 x4_7 rec33 q_15 t_19 = some q → HP G kM nM a q_15 H → va_S (AW nM a) s.heap H locs → lv_has ls 5 [(4, .int x4_7), (2, .int q_2), (0, .ref (a 0)), (1, .int x1)] → W p l e ({ frames := 6, cells := 0, slots := 0, locals := 132 } : Room) s m ([.ref (a 0), .int x1] : List Value).toArray below meth c H locs 0 0 (MQ below (QI G kM nM a q) ([.ref (a 0), .int x1] : List Value).toArray s 0 0 (AW nM a)) (F0 m 76 ls [.int t_19, .ref (a 0)]) := by
            intro t_19 H locs ls h hP hS hl
            unfold f_X6_sleep_J76 at h
            obtain ⟨q_20, hq_21, h⟩ := bd_s h
            refine m_cVi (As := [.int t_19]) (rest := []) (o := 0) (ci := 6) C0 hb hml hl.1 wm_X6_159 md_X6_takesBack (k_X6_takesBack l G a q_15 hj t_19 q_20 hq_21) rfl rfl ⟨(Nat.le_of_ble_eq_true rfl), (Nat.le_of_ble_eq_true rfl)⟩ hP hS (rfl : kM 0 = 6) (by decide) rfl rfl rfl (Nat.le_of_ble_eq_true rfl) dX6_sleep_76 (fun H locs hP hS => ?_)
            refine lv_istore_n (lv' := [(3, .int q_20.1), (4, .int x4_7), (2, .int q_2), (0, .ref (a 0)), (1, .int x1)]) hx hb dX6_sleep_79 rfl hl (by decide) rfl (fun ls hl => ?_)
            refine lv_iinc (v := x4_7 + 1) (lv' := [(4, .int (x4_7 + 1)), (3, .int q_20.1), (2, .int q_2), (0, .ref (a 0)), (1, .int x1)]) hx hb dX6_sleep_80 hl (k := 1) rfl rfl (by decide) rfl (fun ls hl => ?_)
            refine lv_goto (tgt := 33) hx hb dX6_sleep_83 (by decide) ?_
            exact ih33 q_20.1 (x4_7 + 1) q_20.2 _ _ _ h hP hS (lv_sub hl [0, 1, 2, 3, 4] rfl)
          refine lv_icmp_ne (tgt := 75) hx hb dX6_sleep_67 (by decide) (fun (c_23 : ¬ q_17 = q_2) => ?_) (fun (c_23 : q_17 = q_2) => ?_)
          · rw [if_neg c_23] at h
            refine lv_iload_n hx hb dX6_sleep_75 rfl (lv_at hl 1 rfl) ?_
            exact J_22 x3_6 _ _ _ h hP hS (lv_sub hl [0, 2, 3, 4] rfl)
          · rw [if_pos c_23] at h
            refine lv_iload hx hb dX6_sleep_70 (lv_at hl 0 rfl) ?_
            refine lv_goto (tgt := 76) hx hb dX6_sleep_72 (by decide) ?_
            exact J_22 x4_7 _ _ _ h hP hS (lv_sub hl [0, 2, 3, 4] rfl)
    exact L_24 FU (-1) 0 q_4 _ _ _ h hP hS (lv_sub hl [0, 1, 2, 3, 4] rfl)
  · rw [if_pos c_1] at h
    refine lv_aload_n hx hb dX6_sleep_12 rfl (lv_at hl 0 rfl) ?_
    refine lv_ldc hx hb hown (hts _ wk_X6_46) dX6_sleep_13 ?_
    obtain ⟨q_25, hq_26, h⟩ := bd_s h
    refine m_cVi (As := [.int (-1000001)]) (rest := []) (o := 0) (ci := 6) C0 hb hml hl.1 wm_X6_75 md_X6_finds (k_X6_finds l G a σ hj (-1000001) q_25 hq_26) rfl rfl ⟨(Nat.le_of_ble_eq_true rfl), (Nat.le_of_ble_eq_true rfl)⟩ hP hS (rfl : kM 0 = 6) (by decide) rfl rfl rfl (Nat.le_of_ble_eq_true rfl) dX6_sleep_15 (fun H locs hP hS => ?_)
    exact m_ri hx hb hr hlk hP hS (Option.some.inj h) dX6_sleep_18
def f_X6_turns_J41 (x1_1 : Int32) (x2_2 : Int32) (rec4 : Int32 → Int32 → Option (Int32)) (t_6 : Int32) : Option (Int32) := (rec4 (x1_1 + t_6) (x2_2 + 1))
def f_X6_turns_B4 (σ : Mem) (rec4 : Int32 → Int32 → Option (Int32)) (x1_1 : Int32) (x2_2 : Int32) : Option (Int32) := (if 8 ≤ x2_2 then some x1_1 else (chk (4 + x2_2) 74 (chk (4 + (jrem (x2_2 + 7) 8)) 74 (f_X6_turns_J41 x1_1 x2_2 rec4 (if (σ 1 ((4 + x2_2).toNatClampNeg)) = (σ 1 ((4 + (jrem (x2_2 + 7) 8)).toNatClampNeg)) then 0 else 1)))))
def f_X6_turns (σ : Mem) : Option (Int32) := (it2 (f_X6_turns_B4 σ) FU 0 0)
set_option maxHeartbeats 4000000 in
set_option maxRecDepth 100000 in
theorem k_X6_turns (l : Launch) (G : GG) (a : Nat → Nat) (σ : Mem) (hj : INJ nM a)  (q : Int32) (h : f_X6_turns σ = some q) : Met l yX6_turns (Cond.code yX6_turns cX6_turns 3 (some .int) :: TB) ({ frames := 0, cells := 0, slots := 0, locals := 0 } : Room) (PA G kM nM a σ [.ref (a 0)]) (SI q) 0 0 NF := by
  refine M_ofW (by decide) hj kM_lt (Nat.le_of_ble_eq_true rfl) (fun p e s m below meth c ls C0 hb hml hr hlk hP hS hl => ?_)
  have C0 : CT p s _ m RX6 G kM nM a := C0
  have hx := C0.1
  have hts := C0.2.1
  have hown := C0.2.2.1
  have hl : lv_has ls 3 [(0, .ref (a 0))] := hl
  unfold f_X6_turns at h
  refine lv_iconst (v := 0) hx hb dX6_turns_0 (by decide) ?_
  refine lv_istore_n (lv' := [(1, .int 0), (0, .ref (a 0))]) hx hb dX6_turns_1 rfl hl (by decide) rfl (fun ls hl => ?_)
  refine lv_iconst (v := 0) hx hb dX6_turns_2 (by decide) ?_
  refine lv_istore_n (lv' := [(2, .int 0), (1, .int 0), (0, .ref (a 0))]) hx hb dX6_turns_3 rfl hl (by decide) rfl (fun ls hl => ?_)
  have L_9 : ∀ (fu4 : Nat) (x1_1 : Int32) (x2_2 : Int32) (ls : Array Slot), it2 (f_X6_turns_B4 σ) fu4 x1_1 x2_2 = some q → lv_has ls 3 [(2, .int x2_2), (1, .int x1_1), (0, .ref (a 0))] → W p l e ({ frames := 0, cells := 0, slots := 0, locals := 0 } : Room) s m ([.ref (a 0)] : List Value).toArray below meth c s.heap [] 0 0 (MQ below (SI q) ([.ref (a 0)] : List Value).toArray s 0 0 NF) (F0 m 4 ls []) := by
    intro fu4
    induction fu4 with
    | zero =>
      intro x1_1 x2_2 ls h
      cases h
    | succ fu4 ih4 =>
      intro x1_1 x2_2 ls h hl
      replace h : (f_X6_turns_B4 σ) (it2 (f_X6_turns_B4 σ) fu4) x1_1 x2_2 = some q := h
      generalize it2 (f_X6_turns_B4 σ) fu4 = rec4 at h ih4
      unfold f_X6_turns_B4 at h
      refine lv_iload_n hx hb dX6_turns_4 rfl (lv_at hl 0 rfl) ?_
      refine lv_bipush (v := 8) hx hb dX6_turns_5 (by decide) ?_
      refine lv_icmp_ge (tgt := 49) hx hb dX6_turns_7 (by decide) (fun (c_3 : 8 ≤ x2_2) => ?_) (fun (c_3 : ¬ 8 ≤ x2_2) => ?_)
      · rw [if_pos c_3] at h
        refine lv_iload_n hx hb dX6_turns_49 rfl (lv_at hl 1 rfl) ?_
        exact m_si hx hb hr hlk (Option.some.inj h) dX6_turns_50
      · rw [if_neg c_3] at h
        refine lv_iload_n hx hb dX6_turns_10 rfl (lv_at hl 1 rfl) ?_
        refine lv_aload_n hx hb dX6_turns_11 rfl (lv_at hl 2 rfl) ?_
        refine gf_X6_7 (o := 0) (o2 := 1) C0 hb hP (rfl : kM 0 = 6) rfl dX6_turns_12 ?_
        refine lv_iconst (v := 4) hx hb dX6_turns_15 (by decide) ?_
        refine lv_iload_n hx hb dX6_turns_16 rfl (lv_at hl 0 rfl) ?_
        refine lv_iadd hx hb dX6_turns_17 ?_
        obtain ⟨hi_4, h⟩ := chk_s h
        refine m_iald (o := 1) (N := 74) (i := 4 + x2_2) (j := (4 + x2_2).toNatClampNeg) C0 hb hP (rfl : kM 1 = 100 + 74) (by decide) hi_4 rfl dX6_turns_18 ?_
        refine lv_aload_n hx hb dX6_turns_19 rfl (lv_at hl 2 rfl) ?_
        refine gf_X6_7 (o := 0) (o2 := 1) C0 hb hP (rfl : kM 0 = 6) rfl dX6_turns_20 ?_
        refine lv_iconst (v := 4) hx hb dX6_turns_23 (by decide) ?_
        refine lv_iload_n hx hb dX6_turns_24 rfl (lv_at hl 0 rfl) ?_
        refine lv_bipush (v := 7) hx hb dX6_turns_25 (by decide) ?_
        refine lv_iadd hx hb dX6_turns_27 ?_
        refine lv_bipush (v := 8) hx hb dX6_turns_28 (by decide) ?_
        refine lv_irem hx hb dX6_turns_30 (by decide) ?_
        refine lv_iadd hx hb dX6_turns_31 ?_
        obtain ⟨hi_5, h⟩ := chk_s h
        refine m_iald (o := 1) (N := 74) (i := 4 + (jrem (x2_2 + 7) 8)) (j := (4 + (jrem (x2_2 + 7) 8)).toNatClampNeg) C0 hb hP (rfl : kM 1 = 100 + 74) (by decide) hi_5 rfl dX6_turns_32 ?_
        have J_7 : ∀ (t_6 : Int32) (ls : Array Slot), f_X6_turns_J41 x1_1 x2_2 rec4 t_6 = some q → lv_has ls 3 [(2, .int x2_2), (0, .ref (a 0))] → W p l e ({ frames := 0, cells := 0, slots := 0, locals := 0 } : Room) s m ([.ref (a 0)] : List Value).toArray below meth c s.heap [] 0 0 (MQ below (SI q) ([.ref (a 0)] : List Value).toArray s 0 0 NF) (F0 m 41 ls [.int t_6, .int x1_1]) := by
          intro t_6 ls h hl
          unfold f_X6_turns_J41 at h
          refine lv_iadd hx hb dX6_turns_41 ?_
          refine lv_istore_n (lv' := [(1, .int (x1_1 + t_6)), (2, .int x2_2), (0, .ref (a 0))]) hx hb dX6_turns_42 rfl hl (by decide) rfl (fun ls hl => ?_)
          refine lv_iinc (v := x2_2 + 1) (lv' := [(2, .int (x2_2 + 1)), (1, .int (x1_1 + t_6)), (0, .ref (a 0))]) hx hb dX6_turns_43 hl (k := 1) rfl rfl (by decide) rfl (fun ls hl => ?_)
          refine lv_goto (tgt := 4) hx hb dX6_turns_46 (by decide) ?_
          exact ih4 (x1_1 + t_6) (x2_2 + 1) _ h (lv_sub hl [0, 1, 2] rfl)
        refine lv_icmp_eq (tgt := 40) hx hb dX6_turns_33 (by decide) (fun (c_8 : (σ 1 ((4 + x2_2).toNatClampNeg)) = (σ 1 ((4 + (jrem (x2_2 + 7) 8)).toNatClampNeg))) => ?_) (fun (c_8 : ¬ (σ 1 ((4 + x2_2).toNatClampNeg)) = (σ 1 ((4 + (jrem (x2_2 + 7) 8)).toNatClampNeg))) => ?_)
        · rw [if_pos c_8] at h
          refine lv_iconst (v := 0) hx hb dX6_turns_40 (by decide) ?_
          exact J_7 0 _ h (lv_sub hl [0, 2] rfl)
        · rw [if_neg c_8] at h
          refine lv_iconst (v := 1) hx hb dX6_turns_36 (by decide) ?_
          refine lv_goto (tgt := 41) hx hb dX6_turns_37 (by decide) ?_
          exact J_7 1 _ h (lv_sub hl [0, 2] rfl)
  exact L_9 FU 0 0 _ h (lv_sub hl [0, 1, 2] rfl)
def f_X6_mostBelief_J81 (x6_5 : Int32) (rec13 : Int32 → Int32 → Int32 → Mem → Option (Int32 × Mem)) (q_13 : Int32 × Mem) (t_15 : Int32) (t_16 : Int32) : Option (Int32 × Mem) := (rec13 t_15 t_16 (x6_5 + 1) q_13.2)
def f_X6_mostBelief_J65 (x5_4 : Int32) (x6_5 : Int32) (rec13 : Int32 → Int32 → Int32 → Mem → Option (Int32 × Mem)) (q_13 : Int32 × Mem) (t_15 : Int32) : Option (Int32 × Mem) := (f_X6_mostBelief_J81 x6_5 rec13 q_13 t_15 (if q_13.1 ≤ x5_4 then x5_4 else q_13.1))
def f_X6_mostBelief_B13 (x1 : Int32) (x2 : Int32) (x3 : Int32) (rec13 : Int32 → Int32 → Int32 → Mem → Option (Int32 × Mem)) (x4_3 : Int32) (x5_4 : Int32) (x6_5 : Int32) (σ_6 : Mem) : Option (Int32 × Mem) := (if (f_X6_most x2) < x6_5 then some (x4_3, σ_6) else (chk (f_X6_place x1 x2) 74 ((f_X6_goesOn x3 (mst σ_6 1 ((f_X6_place x1 x2).toNatClampNeg) x6_5)).bind fun q_9 => ((f_X6_its x1 3 q_9).bind fun q_11 => ((f_X6_takesBack q_11 q_9).bind fun q_13 => (f_X6_mostBelief_J65 x5_4 x6_5 rec13 q_13 (if q_13.1 ≤ x5_4 then x4_3 else x6_5)))))))
def f_X6_mostBelief (x1 : Int32) (x2 : Int32) (x3 : Int32) (σ : Mem) : Option (Int32 × Mem) := ((f_X6_laysAside σ).bind fun q_1 => (it4 (f_X6_mostBelief_B13 x1 x2 x3) FU 0 (-1) 0 q_1))
set_option maxHeartbeats 4000000 in
set_option maxRecDepth 100000 in
theorem k_X6_mostBelief (l : Launch) (G : GG) (a : Nat → Nat) (σ : Mem) (hj : INJ nM a) (x1 : Int32) (x2 : Int32) (x3 : Int32) (q : Int32 × Mem) (h : f_X6_mostBelief x1 x2 x3 σ = some q) : Met l yX6_mostBelief (Cond.code yX6_mostBelief cX6_mostBelief 8 (some .int) :: TB) ({ frames := 6, cells := 0, slots := 0, locals := 132 } : Room) (PA G kM nM a σ [.ref (a 0), .int x1, .int x2, .int x3]) (QI G kM nM a q) 0 0 (AW nM a) := by
  refine M_ofW (by decide) hj kM_lt (Nat.le_of_ble_eq_true rfl) (fun p e s m below meth c ls C0 hb hml hr hlk hP hS hl => ?_)
  have C0 : CT p s _ m RX6 G kM nM a := C0
  have hx := C0.1
  have hts := C0.2.1
  have hown := C0.2.2.1
  have hl : lv_has ls 8 [(0, .ref (a 0)), (1, .int x1), (2, .int x2), (3, .int x3)] := hl
  unfold f_X6_mostBelief at h
  refine lv_aload_n hx hb dX6_mostBelief_0 rfl (lv_at hl 0 rfl) ?_
  obtain ⟨q_1, hq_2, h⟩ := bd_s h
  refine m_cVv (As := []) (rest := []) (o := 0) (ci := 6) C0 hb hml hl.1 wm_X6_156 md_X6_laysAside (k_X6_laysAside l G a σ hj q_1 hq_2) rfl rfl ⟨(Nat.le_of_ble_eq_true rfl), (Nat.le_of_ble_eq_true rfl)⟩ hP hS (rfl : kM 0 = 6) (by decide) rfl rfl rfl (Nat.le_of_ble_eq_true rfl) dX6_mostBelief_1 (fun H locs hP hS => ?_)
  refine lv_iconst (v := 0) hx hb dX6_mostBelief_4 (by decide) ?_
  refine lv_istore (lv' := [(4, .int 0), (0, .ref (a 0)), (1, .int x1), (2, .int x2), (3, .int x3)]) hx hb dX6_mostBelief_5 hl (by decide) rfl (fun ls hl => ?_)
  refine lv_iconst (v := (-1)) hx hb dX6_mostBelief_7 (by decide) ?_
  refine lv_istore (lv' := [(5, .int (-1)), (4, .int 0), (0, .ref (a 0)), (1, .int x1), (2, .int x2), (3, .int x3)]) hx hb dX6_mostBelief_8 hl (by decide) rfl (fun ls hl => ?_)
  refine lv_iconst (v := 0) hx hb dX6_mostBelief_10 (by decide) ?_
  refine lv_istore (lv' := [(6, .int 0), (5, .int (-1)), (4, .int 0), (0, .ref (a 0)), (1, .int x1), (2, .int x2), (3, .int x3)]) hx hb dX6_mostBelief_11 hl (by decide) rfl (fun ls hl => ?_)
  have L_21 : ∀ (fu13 : Nat) (x4_3 : Int32) (x5_4 : Int32) (x6_5 : Int32) (σ_6 : Mem) (H : Heap) (locs : List Loc) (ls : Array Slot), it4 (f_X6_mostBelief_B13 x1 x2 x3) fu13 x4_3 x5_4 x6_5 σ_6 = some q → HP G kM nM a σ_6 H → va_S (AW nM a) s.heap H locs → lv_has ls 8 [(6, .int x6_5), (5, .int x5_4), (4, .int x4_3), (0, .ref (a 0)), (1, .int x1), (2, .int x2), (3, .int x3)] → W p l e ({ frames := 6, cells := 0, slots := 0, locals := 132 } : Room) s m ([.ref (a 0), .int x1, .int x2, .int x3] : List Value).toArray below meth c H locs 0 0 (MQ below (QI G kM nM a q) ([.ref (a 0), .int x1, .int x2, .int x3] : List Value).toArray s 0 0 (AW nM a)) (F0 m 13 ls []) := by
    intro fu13
    induction fu13 with
    | zero =>
      intro x4_3 x5_4 x6_5 σ_6 H locs ls h
      cases h
    | succ fu13 ih13 =>
      intro x4_3 x5_4 x6_5 σ_6 H locs ls h hP hS hl
      replace h : (f_X6_mostBelief_B13 x1 x2 x3) (it4 (f_X6_mostBelief_B13 x1 x2 x3) fu13) x4_3 x5_4 x6_5 σ_6 = some q := h
      generalize it4 (f_X6_mostBelief_B13 x1 x2 x3) fu13 = rec13 at h ih13
      unfold f_X6_mostBelief_B13 at h
      refine lv_iload hx hb dX6_mostBelief_13 (lv_at hl 0 rfl) ?_
      refine lv_iload_n hx hb dX6_mostBelief_15 rfl (lv_at hl 5 rfl) ?_
      refine m_pSi (As := [.int x2]) (rest := [.int x6_5]) C0.z hb hml hl.1 wm_X6_114 md_X6_most (k_X6_most l x2) rfl rfl ⟨(Nat.le_of_ble_eq_true rfl), (Nat.le_of_ble_eq_true rfl)⟩ rfl rfl (Nat.le_of_ble_eq_true rfl) dX6_mostBelief_16 ?_
      refine lv_icmp_gt (tgt := 89) hx hb dX6_mostBelief_19 (by decide) (fun (c_7 : (f_X6_most x2) < x6_5) => ?_) (fun (c_7 : ¬ (f_X6_most x2) < x6_5) => ?_)
      · rw [if_pos c_7] at h
        refine lv_iload hx hb dX6_mostBelief_89 (lv_at hl 2 rfl) ?_
        exact m_ri hx hb hr hlk hP hS (Option.some.inj h) dX6_mostBelief_91
      · rw [if_neg c_7] at h
        refine lv_aload_n hx hb dX6_mostBelief_22 rfl (lv_at hl 3 rfl) ?_
        refine gf_X6_7 (o := 0) (o2 := 1) C0 hb hP (rfl : kM 0 = 6) rfl dX6_mostBelief_23 ?_
        refine lv_iload_n hx hb dX6_mostBelief_26 rfl (lv_at hl 4 rfl) ?_
        refine lv_iload_n hx hb dX6_mostBelief_27 rfl (lv_at hl 5 rfl) ?_
        refine m_pSi (As := [.int x1, .int x2]) (rest := [.ref (a 1)]) C0.z hb hml hl.1 wm_X6_59 md_X6_place (k_X6_place l x1 x2) rfl rfl ⟨(Nat.le_of_ble_eq_true rfl), (Nat.le_of_ble_eq_true rfl)⟩ rfl rfl (Nat.le_of_ble_eq_true rfl) dX6_mostBelief_28 ?_
        refine lv_iload hx hb dX6_mostBelief_31 (lv_at hl 0 rfl) ?_
        obtain ⟨hi_8, h⟩ := chk_s h
        refine m_iast (o := 1) (N := 74) (i := f_X6_place x1 x2) (j := (f_X6_place x1 x2).toNatClampNeg) C0 hb hP hS (rfl : kM 1 = 100 + 74) (by decide) hi_8 rfl dX6_mostBelief_33 (fun H locs hP hS => ?_)
        refine lv_aload_n hx hb dX6_mostBelief_34 rfl (lv_at hl 3 rfl) ?_
        refine lv_iload_n hx hb dX6_mostBelief_35 rfl (lv_at hl 6 rfl) ?_
        obtain ⟨q_9, hq_10, h⟩ := bd_s h
        refine m_cVv (As := [.int x3]) (rest := []) (o := 0) (ci := 6) C0 hb hml hl.1 wm_X6_141 md_X6_goesOn (k_X6_goesOn l G a (mst σ_6 1 ((f_X6_place x1 x2).toNatClampNeg) x6_5) hj x3 q_9 hq_10) rfl rfl ⟨(Nat.le_of_ble_eq_true rfl), (Nat.le_of_ble_eq_true rfl)⟩ hP hS (rfl : kM 0 = 6) (by decide) rfl rfl rfl (Nat.le_of_ble_eq_true rfl) dX6_mostBelief_36 (fun H locs hP hS => ?_)
        refine lv_aload_n hx hb dX6_mostBelief_39 rfl (lv_at hl 3 rfl) ?_
        refine lv_aload_n hx hb dX6_mostBelief_40 rfl (lv_at hl 3 rfl) ?_
        refine lv_iload_n hx hb dX6_mostBelief_41 rfl (lv_at hl 4 rfl) ?_
        refine lv_iconst (v := 3) hx hb dX6_mostBelief_42 (by decide) ?_
        obtain ⟨q_11, hq_12, h⟩ := bd_s h
        refine m_rVi (As := [.int x1, .int 3]) (rest := [.ref (a 0)]) (o := 0) (ci := 6) C0 hb hml hl.1 wm_X6_63 md_X6_its (k_X6_its l G a q_9 hj x1 3 q_11 hq_12) rfl rfl ⟨(Nat.le_of_ble_eq_true rfl), (Nat.le_of_ble_eq_true rfl)⟩ hP hS (rfl : kM 0 = 6) (by decide) rfl rfl rfl (Nat.le_of_ble_eq_true rfl) dX6_mostBelief_43 ?_
        obtain ⟨q_13, hq_14, h⟩ := bd_s h
        refine m_cVi (As := [.int q_11]) (rest := []) (o := 0) (ci := 6) C0 hb hml hl.1 wm_X6_159 md_X6_takesBack (k_X6_takesBack l G a q_9 hj q_11 q_13 hq_14) rfl rfl ⟨(Nat.le_of_ble_eq_true rfl), (Nat.le_of_ble_eq_true rfl)⟩ hP hS (rfl : kM 0 = 6) (by decide) rfl rfl rfl (Nat.le_of_ble_eq_true rfl) dX6_mostBelief_46 (fun H locs hP hS => ?_)
        refine lv_istore (lv' := [(7, .int q_13.1), (6, .int x6_5), (5, .int x5_4), (4, .int x4_3), (0, .ref (a 0)), (1, .int x1), (2, .int x2), (3, .int x3)]) hx hb dX6_mostBelief_49 hl (by decide) rfl (fun ls hl => ?_)
        refine lv_iload hx hb dX6_mostBelief_51 (lv_at hl 0 rfl) ?_
        refine lv_iload hx hb dX6_mostBelief_53 (lv_at hl 2 rfl) ?_
        have J_19 : ∀ (t_15 : Int32) (H : Heap) (locs : List Loc) (ls : Array Slot), f_X6_mostBelief_J65 x5_4 x6_5 rec13 q_13 t_15 = some q → HP G kM nM a q_13.2 H → va_S (AW nM a) s.heap H locs → lv_has ls 8 [(7, .int q_13.1), (6, .int x6_5), (5, .int x5_4), (0, .ref (a 0)), (1, .int x1), (2, .int x2), (3, .int x3)] → W p l e ({ frames := 6, cells := 0, slots := 0, locals := 132 } : Room) s m ([.ref (a 0), .int x1, .int x2, .int x3] : List Value).toArray below meth c H locs 0 0 (MQ below (QI G kM nM a q) ([.ref (a 0), .int x1, .int x2, .int x3] : List Value).toArray s 0 0 (AW nM a)) (F0 m 65 ls [.int t_15]) := by
          intro t_15 H locs ls h hP hS hl
          unfold f_X6_mostBelief_J65 at h
          refine lv_istore (lv' := [(4, .int t_15), (7, .int q_13.1), (6, .int x6_5), (5, .int x5_4), (0, .ref (a 0)), (1, .int x1), (2, .int x2), (3, .int x3)]) hx hb dX6_mostBelief_65 hl (by decide) rfl (fun ls hl => ?_)
          refine lv_iload hx hb dX6_mostBelief_67 (lv_at hl 1 rfl) ?_
          refine lv_iload hx hb dX6_mostBelief_69 (lv_at hl 3 rfl) ?_
          have J_17 : ∀ (t_16 : Int32) (H : Heap) (locs : List Loc) (ls : Array Slot), f_X6_mostBelief_J81 x6_5 rec13 q_13 t_15 t_16 = some q → HP G kM nM a q_13.2 H → va_S (AW nM a) s.heap H locs → lv_has ls 8 [(4, .int t_15), (6, .int x6_5), (0, .ref (a 0)), (1, .int x1), (2, .int x2), (3, .int x3)] → W p l e ({ frames := 6, cells := 0, slots := 0, locals := 132 } : Room) s m ([.ref (a 0), .int x1, .int x2, .int x3] : List Value).toArray below meth c H locs 0 0 (MQ below (QI G kM nM a q) ([.ref (a 0), .int x1, .int x2, .int x3] : List Value).toArray s 0 0 (AW nM a)) (F0 m 81 ls [.int t_16]) := by
            intro t_16 H locs ls h hP hS hl
            unfold f_X6_mostBelief_J81 at h
            refine lv_istore (lv' := [(5, .int t_16), (4, .int t_15), (6, .int x6_5), (0, .ref (a 0)), (1, .int x1), (2, .int x2), (3, .int x3)]) hx hb dX6_mostBelief_81 hl (by decide) rfl (fun ls hl => ?_)
            refine lv_iinc (v := x6_5 + 1) (lv' := [(6, .int (x6_5 + 1)), (5, .int t_16), (4, .int t_15), (0, .ref (a 0)), (1, .int x1), (2, .int x2), (3, .int x3)]) hx hb dX6_mostBelief_83 hl (k := 2) rfl rfl (by decide) rfl (fun ls hl => ?_)
            refine lv_goto (tgt := 13) hx hb dX6_mostBelief_86 (by decide) ?_
            exact ih13 t_15 t_16 (x6_5 + 1) q_13.2 _ _ _ h hP hS (lv_sub hl [0, 1, 2, 3, 4, 5, 6] rfl)
          refine lv_icmp_le (tgt := 79) hx hb dX6_mostBelief_71 (by decide) (fun (c_18 : q_13.1 ≤ x5_4) => ?_) (fun (c_18 : ¬ q_13.1 ≤ x5_4) => ?_)
          · rw [if_pos c_18] at h
            refine lv_iload hx hb dX6_mostBelief_79 (lv_at hl 3 rfl) ?_
            exact J_17 x5_4 _ _ _ h hP hS (lv_sub hl [0, 2, 4, 5, 6, 7] rfl)
          · rw [if_neg c_18] at h
            refine lv_iload hx hb dX6_mostBelief_74 (lv_at hl 1 rfl) ?_
            refine lv_goto (tgt := 81) hx hb dX6_mostBelief_76 (by decide) ?_
            exact J_17 q_13.1 _ _ _ h hP hS (lv_sub hl [0, 2, 4, 5, 6, 7] rfl)
        refine lv_icmp_le (tgt := 63) hx hb dX6_mostBelief_55 (by decide) (fun (c_20 : q_13.1 ≤ x5_4) => ?_) (fun (c_20 : ¬ q_13.1 ≤ x5_4) => ?_)
        · rw [if_pos c_20] at h
          refine lv_iload hx hb dX6_mostBelief_63 (lv_at hl 3 rfl) ?_
          exact J_19 x4_3 _ _ _ h hP hS (lv_sub hl [0, 1, 2, 4, 5, 6, 7] rfl)
        · rw [if_neg c_20] at h
          refine lv_iload hx hb dX6_mostBelief_58 (lv_at hl 1 rfl) ?_
          refine lv_goto (tgt := 65) hx hb dX6_mostBelief_60 (by decide) ?_
          exact J_19 x6_5 _ _ _ h hP hS (lv_sub hl [0, 1, 2, 4, 5, 6, 7] rfl)
  exact L_21 FU 0 (-1) 0 q_1 _ _ _ h hP hS (lv_sub hl [0, 1, 2, 3, 4, 5, 6] rfl)
def f_X6_seat (x1 : Int32) (x2 : Int32) (σ : Mem) : Option (Int32 × Mem) := (if (f_X6_isWatcher x1 σ) = 0 then ((f_X6_finds (-1000001) σ).bind fun q_2 => some (q_2.1, q_2.2)) else (if (f_X6_isSoon x2) = 0 then ((f_X6_finds (-1000001) σ).bind fun q_5 => some (q_5.1, q_5.2)) else ((f_X6_mostBelief x1 1 x2 σ).bind fun q_7 => some (q_7.1, q_7.2))))
set_option maxHeartbeats 4000000 in
set_option maxRecDepth 100000 in
theorem k_X6_seat (l : Launch) (G : GG) (a : Nat → Nat) (σ : Mem) (hj : INJ nM a) (x1 : Int32) (x2 : Int32) (q : Int32 × Mem) (h : f_X6_seat x1 x2 σ = some q) : Met l yX6_seat (Cond.code yX6_seat cX6_seat 3 (some .int) :: TB) ({ frames := 7, cells := 0, slots := 0, locals := 159 } : Room) (PA G kM nM a σ [.ref (a 0), .int x1, .int x2]) (QI G kM nM a q) 0 0 (AW nM a) := by
  refine M_ofW (by decide) hj kM_lt (Nat.le_of_ble_eq_true rfl) (fun p e s m below meth c ls C0 hb hml hr hlk hP hS hl => ?_)
  have C0 : CT p s _ m RX6 G kM nM a := C0
  have hx := C0.1
  have hts := C0.2.1
  have hown := C0.2.2.1
  have hl : lv_has ls 3 [(0, .ref (a 0)), (1, .int x1), (2, .int x2)] := hl
  unfold f_X6_seat at h
  refine lv_aload_n hx hb dX6_seat_0 rfl (lv_at hl 0 rfl) ?_
  refine lv_iload_n hx hb dX6_seat_1 rfl (lv_at hl 1 rfl) ?_
  refine m_rVi (As := [.int x1]) (rest := []) (o := 0) (ci := 6) C0 hb hml hl.1 wm_X6_100 md_X6_isWatcher (k_X6_isWatcher l G a σ hj x1) rfl rfl ⟨(Nat.le_of_ble_eq_true rfl), (Nat.le_of_ble_eq_true rfl)⟩ hP hS (rfl : kM 0 = 6) (by decide) rfl rfl rfl (Nat.le_of_ble_eq_true rfl) dX6_seat_2 ?_
  refine lv_if_eq (tgt := 25) hx hb dX6_seat_5 (by decide) (fun (c_1 : (f_X6_isWatcher x1 σ) = 0) => ?_) (fun (c_1 : ¬ (f_X6_isWatcher x1 σ) = 0) => ?_)
  · rw [if_pos c_1] at h
    refine lv_aload_n hx hb dX6_seat_25 rfl (lv_at hl 0 rfl) ?_
    refine lv_ldc hx hb hown (hts _ wk_X6_46) dX6_seat_26 ?_
    obtain ⟨q_2, hq_3, h⟩ := bd_s h
    refine m_cVi (As := [.int (-1000001)]) (rest := []) (o := 0) (ci := 6) C0 hb hml hl.1 wm_X6_75 md_X6_finds (k_X6_finds l G a σ hj (-1000001) q_2 hq_3) rfl rfl ⟨(Nat.le_of_ble_eq_true rfl), (Nat.le_of_ble_eq_true rfl)⟩ hP hS (rfl : kM 0 = 6) (by decide) rfl rfl rfl (Nat.le_of_ble_eq_true rfl) dX6_seat_28 (fun H locs hP hS => ?_)
    exact m_ri hx hb hr hlk hP hS (Option.some.inj h) dX6_seat_31
  · rw [if_neg c_1] at h
    refine lv_iload_n hx hb dX6_seat_8 rfl (lv_at hl 2 rfl) ?_
    refine m_pSi (As := [.int x2]) (rest := []) C0.z hb hml hl.1 wm_X6_187 md_X6_isSoon (k_X6_isSoon l x2) rfl rfl ⟨(Nat.le_of_ble_eq_true rfl), (Nat.le_of_ble_eq_true rfl)⟩ rfl rfl (Nat.le_of_ble_eq_true rfl) dX6_seat_9 ?_
    refine lv_if_eq (tgt := 25) hx hb dX6_seat_12 (by decide) (fun (c_4 : (f_X6_isSoon x2) = 0) => ?_) (fun (c_4 : ¬ (f_X6_isSoon x2) = 0) => ?_)
    · rw [if_pos c_4] at h
      refine lv_aload_n hx hb dX6_seat_25 rfl (lv_at hl 0 rfl) ?_
      refine lv_ldc hx hb hown (hts _ wk_X6_46) dX6_seat_26 ?_
      obtain ⟨q_5, hq_6, h⟩ := bd_s h
      refine m_cVi (As := [.int (-1000001)]) (rest := []) (o := 0) (ci := 6) C0 hb hml hl.1 wm_X6_75 md_X6_finds (k_X6_finds l G a σ hj (-1000001) q_5 hq_6) rfl rfl ⟨(Nat.le_of_ble_eq_true rfl), (Nat.le_of_ble_eq_true rfl)⟩ hP hS (rfl : kM 0 = 6) (by decide) rfl rfl rfl (Nat.le_of_ble_eq_true rfl) dX6_seat_28 (fun H locs hP hS => ?_)
      exact m_ri hx hb hr hlk hP hS (Option.some.inj h) dX6_seat_31
    · rw [if_neg c_4] at h
      refine lv_aload_n hx hb dX6_seat_15 rfl (lv_at hl 0 rfl) ?_
      refine lv_iload_n hx hb dX6_seat_16 rfl (lv_at hl 1 rfl) ?_
      refine lv_iconst (v := 1) hx hb dX6_seat_17 (by decide) ?_
      refine lv_iload_n hx hb dX6_seat_18 rfl (lv_at hl 2 rfl) ?_
      obtain ⟨q_7, hq_8, h⟩ := bd_s h
      refine m_cVi (As := [.int x1, .int 1, .int x2]) (rest := []) (o := 0) (ci := 6) C0 hb hml hl.1 wm_X6_195 md_X6_mostBelief (k_X6_mostBelief l G a σ hj x1 1 x2 q_7 hq_8) rfl rfl ⟨(Nat.le_of_ble_eq_true rfl), (Nat.le_of_ble_eq_true rfl)⟩ hP hS (rfl : kM 0 = 6) (by decide) rfl rfl rfl (Nat.le_of_ble_eq_true rfl) dX6_seat_19 (fun H locs hP hS => ?_)
      refine lv_goto (tgt := 31) hx hb dX6_seat_22 (by decide) ?_
      exact m_ri hx hb hr hlk hP hS (Option.some.inj h) dX6_seat_31
def f_X6_kindFor (x1 : Int32) (x2 : Int32) (σ : Mem) : Option (Int32 × Mem) := (if (f_X6_isWatcher x1 σ) = 0 then ((f_X6_finds (-1000001) σ).bind fun q_2 => some (q_2.1, q_2.2)) else (if (f_X6_isSoon x2) = 0 then ((f_X6_finds (-1000001) σ).bind fun q_5 => some (q_5.1, q_5.2)) else ((f_X6_mostBelief x1 0 x2 σ).bind fun q_7 => some (q_7.1, q_7.2))))
set_option maxHeartbeats 4000000 in
set_option maxRecDepth 100000 in
theorem k_X6_kindFor (l : Launch) (G : GG) (a : Nat → Nat) (σ : Mem) (hj : INJ nM a) (x1 : Int32) (x2 : Int32) (q : Int32 × Mem) (h : f_X6_kindFor x1 x2 σ = some q) : Met l yX6_kindFor (Cond.code yX6_kindFor cX6_kindFor 3 (some .int) :: TB) ({ frames := 7, cells := 0, slots := 0, locals := 159 } : Room) (PA G kM nM a σ [.ref (a 0), .int x1, .int x2]) (QI G kM nM a q) 0 0 (AW nM a) := by
  refine M_ofW (by decide) hj kM_lt (Nat.le_of_ble_eq_true rfl) (fun p e s m below meth c ls C0 hb hml hr hlk hP hS hl => ?_)
  have C0 : CT p s _ m RX6 G kM nM a := C0
  have hx := C0.1
  have hts := C0.2.1
  have hown := C0.2.2.1
  have hl : lv_has ls 3 [(0, .ref (a 0)), (1, .int x1), (2, .int x2)] := hl
  unfold f_X6_kindFor at h
  refine lv_aload_n hx hb dX6_kindFor_0 rfl (lv_at hl 0 rfl) ?_
  refine lv_iload_n hx hb dX6_kindFor_1 rfl (lv_at hl 1 rfl) ?_
  refine m_rVi (As := [.int x1]) (rest := []) (o := 0) (ci := 6) C0 hb hml hl.1 wm_X6_100 md_X6_isWatcher (k_X6_isWatcher l G a σ hj x1) rfl rfl ⟨(Nat.le_of_ble_eq_true rfl), (Nat.le_of_ble_eq_true rfl)⟩ hP hS (rfl : kM 0 = 6) (by decide) rfl rfl rfl (Nat.le_of_ble_eq_true rfl) dX6_kindFor_2 ?_
  refine lv_if_eq (tgt := 25) hx hb dX6_kindFor_5 (by decide) (fun (c_1 : (f_X6_isWatcher x1 σ) = 0) => ?_) (fun (c_1 : ¬ (f_X6_isWatcher x1 σ) = 0) => ?_)
  · rw [if_pos c_1] at h
    refine lv_aload_n hx hb dX6_kindFor_25 rfl (lv_at hl 0 rfl) ?_
    refine lv_ldc hx hb hown (hts _ wk_X6_46) dX6_kindFor_26 ?_
    obtain ⟨q_2, hq_3, h⟩ := bd_s h
    refine m_cVi (As := [.int (-1000001)]) (rest := []) (o := 0) (ci := 6) C0 hb hml hl.1 wm_X6_75 md_X6_finds (k_X6_finds l G a σ hj (-1000001) q_2 hq_3) rfl rfl ⟨(Nat.le_of_ble_eq_true rfl), (Nat.le_of_ble_eq_true rfl)⟩ hP hS (rfl : kM 0 = 6) (by decide) rfl rfl rfl (Nat.le_of_ble_eq_true rfl) dX6_kindFor_28 (fun H locs hP hS => ?_)
    exact m_ri hx hb hr hlk hP hS (Option.some.inj h) dX6_kindFor_31
  · rw [if_neg c_1] at h
    refine lv_iload_n hx hb dX6_kindFor_8 rfl (lv_at hl 2 rfl) ?_
    refine m_pSi (As := [.int x2]) (rest := []) C0.z hb hml hl.1 wm_X6_187 md_X6_isSoon (k_X6_isSoon l x2) rfl rfl ⟨(Nat.le_of_ble_eq_true rfl), (Nat.le_of_ble_eq_true rfl)⟩ rfl rfl (Nat.le_of_ble_eq_true rfl) dX6_kindFor_9 ?_
    refine lv_if_eq (tgt := 25) hx hb dX6_kindFor_12 (by decide) (fun (c_4 : (f_X6_isSoon x2) = 0) => ?_) (fun (c_4 : ¬ (f_X6_isSoon x2) = 0) => ?_)
    · rw [if_pos c_4] at h
      refine lv_aload_n hx hb dX6_kindFor_25 rfl (lv_at hl 0 rfl) ?_
      refine lv_ldc hx hb hown (hts _ wk_X6_46) dX6_kindFor_26 ?_
      obtain ⟨q_5, hq_6, h⟩ := bd_s h
      refine m_cVi (As := [.int (-1000001)]) (rest := []) (o := 0) (ci := 6) C0 hb hml hl.1 wm_X6_75 md_X6_finds (k_X6_finds l G a σ hj (-1000001) q_5 hq_6) rfl rfl ⟨(Nat.le_of_ble_eq_true rfl), (Nat.le_of_ble_eq_true rfl)⟩ hP hS (rfl : kM 0 = 6) (by decide) rfl rfl rfl (Nat.le_of_ble_eq_true rfl) dX6_kindFor_28 (fun H locs hP hS => ?_)
      exact m_ri hx hb hr hlk hP hS (Option.some.inj h) dX6_kindFor_31
    · rw [if_neg c_4] at h
      refine lv_aload_n hx hb dX6_kindFor_15 rfl (lv_at hl 0 rfl) ?_
      refine lv_iload_n hx hb dX6_kindFor_16 rfl (lv_at hl 1 rfl) ?_
      refine lv_iconst (v := 0) hx hb dX6_kindFor_17 (by decide) ?_
      refine lv_iload_n hx hb dX6_kindFor_18 rfl (lv_at hl 2 rfl) ?_
      obtain ⟨q_7, hq_8, h⟩ := bd_s h
      refine m_cVi (As := [.int x1, .int 0, .int x2]) (rest := []) (o := 0) (ci := 6) C0 hb hml hl.1 wm_X6_195 md_X6_mostBelief (k_X6_mostBelief l G a σ hj x1 0 x2 q_7 hq_8) rfl rfl ⟨(Nat.le_of_ble_eq_true rfl), (Nat.le_of_ble_eq_true rfl)⟩ hP hS (rfl : kM 0 = 6) (by decide) rfl rfl rfl (Nat.le_of_ble_eq_true rfl) dX6_kindFor_19 (fun H locs hP hS => ?_)
      refine lv_goto (tgt := 31) hx hb dX6_kindFor_22 (by decide) ?_
      exact m_ri hx hb hr hlk hP hS (Option.some.inj h) dX6_kindFor_31
def f_X6_wantFor_J56 (t_5 : Int32) (σ_6 : Mem) : Option (Int32 × Mem) := (if t_5 ≤ 999 then some (t_5, σ_6) else some (999, σ_6))
def f_X6_wantFor_J38 (σ : Mem) : Option (Int32 × Mem) := (f_X6_wantFor_J56 999 σ)
def f_X6_wantFor (x1 : Int32) (x2 : Int32) (σ : Mem) : Option (Int32 × Mem) := (if (f_X6_isWatcher x1 σ) = 0 then ((f_X6_finds (-1000001) σ).bind fun q_2 => some (q_2.1, q_2.2)) else (if (f_X6_isSoon x2) = 0 then ((f_X6_finds (-1000001) σ).bind fun q_18 => some (q_18.1, q_18.2)) else (if x2 = 0 then (f_X6_wantFor_J38 σ) else ((f_X6_its x1 4 σ).bind fun q_11 => (if q_11 = 9999 then (f_X6_wantFor_J38 σ) else ((f_X6_its x1 1 σ).bind fun q_14 => ((f_X6_leastOf q_14 1 x2 σ).bind fun q_16 => (f_X6_wantFor_J56 q_16.1 q_16.2))))))))
set_option maxHeartbeats 4000000 in
set_option maxRecDepth 100000 in
theorem k_X6_wantFor (l : Launch) (G : GG) (a : Nat → Nat) (σ : Mem) (hj : INJ nM a) (x1 : Int32) (x2 : Int32) (q : Int32 × Mem) (h : f_X6_wantFor x1 x2 σ = some q) : Met l yX6_wantFor (Cond.code yX6_wantFor cX6_wantFor 4 (some .int) :: TB) ({ frames := 7, cells := 0, slots := 0, locals := 158 } : Room) (PA G kM nM a σ [.ref (a 0), .int x1, .int x2]) (QI G kM nM a q) 0 0 (AW nM a) := by
  refine M_ofW (by decide) hj kM_lt (Nat.le_of_ble_eq_true rfl) (fun p e s m below meth c ls C0 hb hml hr hlk hP hS hl => ?_)
  have C0 : CT p s _ m RX6 G kM nM a := C0
  have hx := C0.1
  have hts := C0.2.1
  have hown := C0.2.2.1
  have hl : lv_has ls 4 [(0, .ref (a 0)), (1, .int x1), (2, .int x2)] := hl
  unfold f_X6_wantFor at h
  refine lv_aload_n hx hb dX6_wantFor_0 rfl (lv_at hl 0 rfl) ?_
  refine lv_iload_n hx hb dX6_wantFor_1 rfl (lv_at hl 1 rfl) ?_
  refine m_rVi (As := [.int x1]) (rest := []) (o := 0) (ci := 6) C0 hb hml hl.1 wm_X6_100 md_X6_isWatcher (k_X6_isWatcher l G a σ hj x1) rfl rfl ⟨(Nat.le_of_ble_eq_true rfl), (Nat.le_of_ble_eq_true rfl)⟩ hP hS (rfl : kM 0 = 6) (by decide) rfl rfl rfl (Nat.le_of_ble_eq_true rfl) dX6_wantFor_2 ?_
  refine lv_if_eq (tgt := 15) hx hb dX6_wantFor_5 (by decide) (fun (c_1 : (f_X6_isWatcher x1 σ) = 0) => ?_) (fun (c_1 : ¬ (f_X6_isWatcher x1 σ) = 0) => ?_)
  · rw [if_pos c_1] at h
    refine lv_aload_n hx hb dX6_wantFor_15 rfl (lv_at hl 0 rfl) ?_
    refine lv_ldc hx hb hown (hts _ wk_X6_46) dX6_wantFor_16 ?_
    obtain ⟨q_2, hq_3, h⟩ := bd_s h
    refine m_cVi (As := [.int (-1000001)]) (rest := []) (o := 0) (ci := 6) C0 hb hml hl.1 wm_X6_75 md_X6_finds (k_X6_finds l G a σ hj (-1000001) q_2 hq_3) rfl rfl ⟨(Nat.le_of_ble_eq_true rfl), (Nat.le_of_ble_eq_true rfl)⟩ hP hS (rfl : kM 0 = 6) (by decide) rfl rfl rfl (Nat.le_of_ble_eq_true rfl) dX6_wantFor_18 (fun H locs hP hS => ?_)
    exact m_ri hx hb hr hlk hP hS (Option.some.inj h) dX6_wantFor_21
  · rw [if_neg c_1] at h
    refine lv_iload_n hx hb dX6_wantFor_8 rfl (lv_at hl 2 rfl) ?_
    refine m_pSi (As := [.int x2]) (rest := []) C0.z hb hml hl.1 wm_X6_187 md_X6_isSoon (k_X6_isSoon l x2) rfl rfl ⟨(Nat.le_of_ble_eq_true rfl), (Nat.le_of_ble_eq_true rfl)⟩ rfl rfl (Nat.le_of_ble_eq_true rfl) dX6_wantFor_9 ?_
    refine lv_if_ne (tgt := 22) hx hb dX6_wantFor_12 (by decide) (fun (c_4 : ¬ (f_X6_isSoon x2) = 0) => ?_) (fun (c_4 : (f_X6_isSoon x2) = 0) => ?_)
    · rw [if_neg c_4] at h
      refine lv_iload_n hx hb dX6_wantFor_22 rfl (lv_at hl 2 rfl) ?_
      have J_8 : ∀ (t_5 : Int32) (σ_6 : Mem) (H : Heap) (locs : List Loc) (ls : Array Slot), f_X6_wantFor_J56 t_5 σ_6 = some q → HP G kM nM a σ_6 H → va_S (AW nM a) s.heap H locs → lv_has ls 4 [] → W p l e ({ frames := 7, cells := 0, slots := 0, locals := 158 } : Room) s m ([.ref (a 0), .int x1, .int x2] : List Value).toArray below meth c H locs 0 0 (MQ below (QI G kM nM a q) ([.ref (a 0), .int x1, .int x2] : List Value).toArray s 0 0 (AW nM a)) (F0 m 56 ls [.int t_5]) := by
        intro t_5 σ_6 H locs ls h hP hS hl
        unfold f_X6_wantFor_J56 at h
        refine lv_istore_n (lv' := [(3, .int t_5)]) hx hb dX6_wantFor_56 rfl hl (by decide) rfl (fun ls hl => ?_)
        refine lv_iload_n hx hb dX6_wantFor_57 rfl (lv_at hl 0 rfl) ?_
        refine lv_sipush (v := 999) hx hb dX6_wantFor_58 (by decide) ?_
        refine lv_icmp_le (tgt := 70) hx hb dX6_wantFor_61 (by decide) (fun (c_7 : t_5 ≤ 999) => ?_) (fun (c_7 : ¬ t_5 ≤ 999) => ?_)
        · rw [if_pos c_7] at h
          refine lv_iload_n hx hb dX6_wantFor_70 rfl (lv_at hl 0 rfl) ?_
          exact m_ri hx hb hr hlk hP hS (Option.some.inj h) dX6_wantFor_71
        · rw [if_neg c_7] at h
          refine lv_sipush (v := 999) hx hb dX6_wantFor_64 (by decide) ?_
          refine lv_goto (tgt := 71) hx hb dX6_wantFor_67 (by decide) ?_
          exact m_ri hx hb hr hlk hP hS (Option.some.inj h) dX6_wantFor_71
      have J_9 : ∀  (H : Heap) (locs : List Loc) (ls : Array Slot), f_X6_wantFor_J38 σ = some q → HP G kM nM a σ H → va_S (AW nM a) s.heap H locs → lv_has ls 4 [] → W p l e ({ frames := 7, cells := 0, slots := 0, locals := 158 } : Room) s m ([.ref (a 0), .int x1, .int x2] : List Value).toArray below meth c H locs 0 0 (MQ below (QI G kM nM a q) ([.ref (a 0), .int x1, .int x2] : List Value).toArray s 0 0 (AW nM a)) (F0 m 38 ls []) := by
        intro  H locs ls h hP hS hl
        unfold f_X6_wantFor_J38 at h
        refine lv_sipush (v := 999) hx hb dX6_wantFor_38 (by decide) ?_
        refine lv_goto (tgt := 56) hx hb dX6_wantFor_41 (by decide) ?_
        exact J_8 999 σ _ _ _ h hP hS (lv_sub hl [] rfl)
      refine lv_if_eq (tgt := 38) hx hb dX6_wantFor_23 (by decide) (fun (c_10 : x2 = 0) => ?_) (fun (c_10 : ¬ x2 = 0) => ?_)
      · rw [if_pos c_10] at h
        exact J_9  _ _ _ h hP hS (lv_sub hl [] rfl)
      · rw [if_neg c_10] at h
        refine lv_aload_n hx hb dX6_wantFor_26 rfl (lv_at hl 0 rfl) ?_
        refine lv_iload_n hx hb dX6_wantFor_27 rfl (lv_at hl 1 rfl) ?_
        refine lv_iconst (v := 4) hx hb dX6_wantFor_28 (by decide) ?_
        obtain ⟨q_11, hq_12, h⟩ := bd_s h
        refine m_rVi (As := [.int x1, .int 4]) (rest := []) (o := 0) (ci := 6) C0 hb hml hl.1 wm_X6_63 md_X6_its (k_X6_its l G a σ hj x1 4 q_11 hq_12) rfl rfl ⟨(Nat.le_of_ble_eq_true rfl), (Nat.le_of_ble_eq_true rfl)⟩ hP hS (rfl : kM 0 = 6) (by decide) rfl rfl rfl (Nat.le_of_ble_eq_true rfl) dX6_wantFor_29 ?_
        refine lv_sipush (v := 9999) hx hb dX6_wantFor_32 (by decide) ?_
        refine lv_icmp_ne (tgt := 44) hx hb dX6_wantFor_35 (by decide) (fun (c_13 : ¬ q_11 = 9999) => ?_) (fun (c_13 : q_11 = 9999) => ?_)
        · rw [if_neg c_13] at h
          refine lv_aload_n hx hb dX6_wantFor_44 rfl (lv_at hl 0 rfl) ?_
          refine lv_aload_n hx hb dX6_wantFor_45 rfl (lv_at hl 0 rfl) ?_
          refine lv_iload_n hx hb dX6_wantFor_46 rfl (lv_at hl 1 rfl) ?_
          refine lv_iconst (v := 1) hx hb dX6_wantFor_47 (by decide) ?_
          obtain ⟨q_14, hq_15, h⟩ := bd_s h
          refine m_rVi (As := [.int x1, .int 1]) (rest := [.ref (a 0)]) (o := 0) (ci := 6) C0 hb hml hl.1 wm_X6_63 md_X6_its (k_X6_its l G a σ hj x1 1 q_14 hq_15) rfl rfl ⟨(Nat.le_of_ble_eq_true rfl), (Nat.le_of_ble_eq_true rfl)⟩ hP hS (rfl : kM 0 = 6) (by decide) rfl rfl rfl (Nat.le_of_ble_eq_true rfl) dX6_wantFor_48 ?_
          refine lv_iconst (v := 1) hx hb dX6_wantFor_51 (by decide) ?_
          refine lv_iload_n hx hb dX6_wantFor_52 rfl (lv_at hl 2 rfl) ?_
          obtain ⟨q_16, hq_17, h⟩ := bd_s h
          refine m_cVi (As := [.int q_14, .int 1, .int x2]) (rest := []) (o := 0) (ci := 6) C0 hb hml hl.1 wm_X6_181 md_X6_leastOf (k_X6_leastOf l G a σ hj q_14 1 x2 q_16 hq_17) rfl rfl ⟨(Nat.le_of_ble_eq_true rfl), (Nat.le_of_ble_eq_true rfl)⟩ hP hS (rfl : kM 0 = 6) (by decide) rfl rfl rfl (Nat.le_of_ble_eq_true rfl) dX6_wantFor_53 (fun H locs hP hS => ?_)
          exact J_8 q_16.1 q_16.2 _ _ _ h hP hS (lv_sub hl [] rfl)
        · rw [if_pos c_13] at h
          exact J_9  _ _ _ h hP hS (lv_sub hl [] rfl)
    · rw [if_pos c_4] at h
      refine lv_aload_n hx hb dX6_wantFor_15 rfl (lv_at hl 0 rfl) ?_
      refine lv_ldc hx hb hown (hts _ wk_X6_46) dX6_wantFor_16 ?_
      obtain ⟨q_18, hq_19, h⟩ := bd_s h
      refine m_cVi (As := [.int (-1000001)]) (rest := []) (o := 0) (ci := 6) C0 hb hml hl.1 wm_X6_75 md_X6_finds (k_X6_finds l G a σ hj (-1000001) q_18 hq_19) rfl rfl ⟨(Nat.le_of_ble_eq_true rfl), (Nat.le_of_ble_eq_true rfl)⟩ hP hS (rfl : kM 0 = 6) (by decide) rfl rfl rfl (Nat.le_of_ble_eq_true rfl) dX6_wantFor_18 (fun H locs hP hS => ?_)
      exact m_ri hx hb hr hlk hP hS (Option.some.inj h) dX6_wantFor_21

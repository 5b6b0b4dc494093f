def f_X0_isWord_B28 (z1 : Nat) (σ : Mem) (rec28 : Int32 → Option (Int32)) (x2_3 : Int32) : Option (Int32) := (if (sLen z1) ≤ x2_3 then some 1 else (chk ((σ 71 4) + x2_3) 120 (chk x2_3 (lenStr.getD z1 0) (if (σ 72 (((σ 71 4) + x2_3).toNatClampNeg)) = (sCh z1 x2_3) then (rec28 (x2_3 + 1)) else some 0))))
def f_X0_isWord (z1 : Nat) (σ : Mem) : Option (Int32) := (if (σ 71 3) = 1 then (if ((σ 71 5) - (σ 71 4)) = (sLen z1) then (it1 (f_X0_isWord_B28 z1 σ) FU 0) else some 0) else some 0)
set_option maxHeartbeats 4000000 in
set_option maxRecDepth 100000 in
theorem k_X0_isWord (l : Launch) (G : GG) (a : Nat → Nat) (σ : Mem) (hj : INJ nR a) (z1 : Nat) (hz1 : z1 < nStr) (q : Int32) (h : f_X0_isWord z1 σ = some q) : Met l yX0_isWord (Cond.code yX0_isWord cX0_isWord 3 (some .boolean) :: TB) ({ frames := 5, cells := 0, slots := 0, locals := 140 } : Room) (PA G kR nR a σ [.ref (a 71), .ref (G.2.2.1 z1)]) (SI q) 0 0 NF := by
  refine M_ofW (by decide) hj kR_lt (Nat.le_of_ble_eq_true rfl) (fun p e s m below meth c ls C0 hb hml hr hlk hP hS hl => ?_)
  have C0 : CT p s _ m RX0 G kR nR a := C0
  have hx := C0.1
  have hts := C0.2.1
  have hown := C0.2.2.1
  have hstr := C0.2.2.2.1.2.2.2.1
  have hl : lv_has ls 3 [(0, .ref (a 71)), (1, .ref (G.2.2.1 z1))] := hl
  unfold f_X0_isWord at h
  refine lv_aload_n hx hb dX0_isWord_0 rfl (lv_at hl 0 rfl) ?_
  refine gf_X0_22 (o := 71) C0 hb hP (rfl : kR 71 = 0) dX0_isWord_1 ?_
  refine lv_iconst (v := 1) hx hb dX0_isWord_4 (by decide) ?_
  refine lv_icmp_ne (tgt := 24) hx hb dX0_isWord_5 (by decide) (fun (c_1 : ¬ (σ 71 3) = 1) => ?_) (fun (c_1 : (σ 71 3) = 1) => ?_)
  · rw [if_neg c_1] at h
    refine lv_iconst (v := 0) hx hb dX0_isWord_24 (by decide) ?_
    exact m_sz hx hb hr hlk (Or.inl rfl) (Option.some.inj h) dX0_isWord_25
  · rw [if_pos c_1] at h
    refine lv_aload_n hx hb dX0_isWord_8 rfl (lv_at hl 0 rfl) ?_
    refine gf_X0_28 (o := 71) C0 hb hP (rfl : kR 71 = 0) dX0_isWord_9 ?_
    refine lv_aload_n hx hb dX0_isWord_12 rfl (lv_at hl 0 rfl) ?_
    refine gf_X0_25 (o := 71) C0 hb hP (rfl : kR 71 = 0) dX0_isWord_13 ?_
    refine lv_isub hx hb dX0_isWord_16 ?_
    refine lv_aload_n hx hb dX0_isWord_17 rfl (lv_at hl 1 rfl) ?_
    refine m_slen (rest := [.int ((σ 71 5) - (σ 71 4))]) C0 hb hml hl.1 wm_X0_142 hz1 hS ⟨(Nat.le_of_ble_eq_true rfl), (Nat.le_of_ble_eq_true rfl)⟩ rfl (Nat.le_of_ble_eq_true rfl) dX0_isWord_18 ?_
    refine lv_icmp_eq (tgt := 26) hx hb dX0_isWord_21 (by decide) (fun (c_2 : ((σ 71 5) - (σ 71 4)) = (sLen z1)) => ?_) (fun (c_2 : ¬ ((σ 71 5) - (σ 71 4)) = (sLen z1)) => ?_)
    · rw [if_pos c_2] at h
      refine lv_iconst (v := 0) hx hb dX0_isWord_26 (by decide) ?_
      refine lv_istore_n (lv' := [(2, .int 0), (0, .ref (a 71)), (1, .ref (G.2.2.1 z1))]) hx hb dX0_isWord_27 rfl hl (by decide) rfl (fun ls hl => ?_)
      have L_8 : ∀ (fu28 : Nat) (x2_3 : Int32) (ls : Array Slot), it1 (f_X0_isWord_B28 z1 σ) fu28 x2_3 = some q → lv_has ls 3 [(2, .int x2_3), (0, .ref (a 71)), (1, .ref (G.2.2.1 z1))] → W p l e ({ frames := 5, cells := 0, slots := 0, locals := 140 } : Room) s m ([.ref (a 71), .ref (G.2.2.1 z1)] : List Value).toArray below meth c s.heap [] 0 0 (MQ below (SI q) ([.ref (a 71), .ref (G.2.2.1 z1)] : List Value).toArray s 0 0 NF) (F0 m 28 ls []) := by
        intro fu28
        induction fu28 with
        | zero =>
          intro x2_3 ls h
          cases h
        | succ fu28 ih28 =>
          intro x2_3 ls h hl
          replace h : (f_X0_isWord_B28 z1 σ) (it1 (f_X0_isWord_B28 z1 σ) fu28) x2_3 = some q := h
          generalize it1 (f_X0_isWord_B28 z1 σ) fu28 = rec28 at h ih28
          unfold f_X0_isWord_B28 at h
          refine lv_iload_n hx hb dX0_isWord_28 rfl (lv_at hl 0 rfl) ?_
          refine lv_aload_n hx hb dX0_isWord_29 rfl (lv_at hl 2 rfl) ?_
          refine m_slen (rest := [.int x2_3]) C0 hb hml hl.1 wm_X0_142 hz1 hS ⟨(Nat.le_of_ble_eq_true rfl), (Nat.le_of_ble_eq_true rfl)⟩ rfl (Nat.le_of_ble_eq_true rfl) dX0_isWord_30 ?_
          refine lv_icmp_ge (tgt := 63) hx hb dX0_isWord_33 (by decide) (fun (c_4 : (sLen z1) ≤ x2_3) => ?_) (fun (c_4 : ¬ (sLen z1) ≤ x2_3) => ?_)
          · rw [if_pos c_4] at h
            refine lv_iconst (v := 1) hx hb dX0_isWord_63 (by decide) ?_
            exact m_sz hx hb hr hlk (Or.inr rfl) (Option.some.inj h) dX0_isWord_64
          · rw [if_neg c_4] at h
            refine lv_aload_n hx hb dX0_isWord_36 rfl (lv_at hl 1 rfl) ?_
            refine gf_X0_9 (o := 71) (o2 := 72) C0 hb hP (rfl : kR 71 = 0) rfl dX0_isWord_37 ?_
            refine lv_aload_n hx hb dX0_isWord_40 rfl (lv_at hl 1 rfl) ?_
            refine gf_X0_25 (o := 71) C0 hb hP (rfl : kR 71 = 0) dX0_isWord_41 ?_
            refine lv_iload_n hx hb dX0_isWord_44 rfl (lv_at hl 0 rfl) ?_
            refine lv_iadd hx hb dX0_isWord_45 ?_
            obtain ⟨hi_5, h⟩ := chk_s h
            refine m_iald (o := 72) (N := 120) (i := (σ 71 4) + x2_3) (j := ((σ 71 4) + x2_3).toNatClampNeg) C0 hb hP (rfl : kR 72 = 100 + 120) (by decide) hi_5 rfl dX0_isWord_46 ?_
            refine lv_aload_n hx hb dX0_isWord_47 rfl (lv_at hl 2 rfl) ?_
            refine lv_iload_n hx hb dX0_isWord_48 rfl (lv_at hl 0 rfl) ?_
            obtain ⟨hi_6, h⟩ := chk_s h
            refine m_sch (rest := [.int (σ 72 (((σ 71 4) + x2_3).toNatClampNeg))]) C0 hb hml hl.1 wm_X0_146 hz1 hi_6 hS ⟨(Nat.le_of_ble_eq_true rfl), (Nat.le_of_ble_eq_true rfl)⟩ rfl (Nat.le_of_ble_eq_true rfl) dX0_isWord_49 ?_
            refine lv_icmp_eq (tgt := 57) hx hb dX0_isWord_52 (by decide) (fun (c_7 : (σ 72 (((σ 71 4) + x2_3).toNatClampNeg)) = (sCh z1 x2_3)) => ?_) (fun (c_7 : ¬ (σ 72 (((σ 71 4) + x2_3).toNatClampNeg)) = (sCh z1 x2_3)) => ?_)
            · rw [if_pos c_7] at h
              refine lv_iinc (v := x2_3 + 1) (lv' := [(2, .int (x2_3 + 1)), (0, .ref (a 71)), (1, .ref (G.2.2.1 z1))]) hx hb dX0_isWord_57 hl (k := 0) rfl rfl (by decide) rfl (fun ls hl => ?_)
              refine lv_goto (tgt := 28) hx hb dX0_isWord_60 (by decide) ?_
              exact ih28 (x2_3 + 1) _ h (lv_sub hl [0, 1, 2] rfl)
            · rw [if_neg c_7] at h
              refine lv_iconst (v := 0) hx hb dX0_isWord_55 (by decide) ?_
              exact m_sz hx hb hr hlk (Or.inl rfl) (Option.some.inj h) dX0_isWord_56
      exact L_8 FU 0 _ h (lv_sub hl [0, 1, 2] rfl)
    · rw [if_neg c_2] at h
      refine lv_iconst (v := 0) hx hb dX0_isWord_24 (by decide) ?_
      exact m_sz hx hb hr hlk (Or.inl rfl) (Option.some.inj h) dX0_isWord_25
def f_X0_nameOf (x0 : Int32) (σ : Mem) : Nat := (if x0 = 1 then 0 else (if x0 = 2 then 1 else (if x0 = 3 then 2 else (if x0 = 4 then 3 else (if x0 = 5 then 4 else (if x0 = 6 then 5 else 6))))))
theorem slt_X0_nameOf (x0 : Int32) (σ : Mem) : f_X0_nameOf x0 σ < nStr := by
  unfold f_X0_nameOf
  repeat' split
  all_goals decide
set_option maxHeartbeats 4000000 in
set_option maxRecDepth 100000 in
theorem k_X0_nameOf (l : Launch) (G : GG) (a : Nat → Nat) (σ : Mem) (hj : INJ nR a) (x0 : Int32) : Met l yX0_nameOf (Cond.code yX0_nameOf cX0_nameOf 1 (some (.object "java/lang/String")) :: TB) ({ frames := 0, cells := 0, slots := 0, locals := 0 } : Room) (PA G kR nR a σ [.int x0]) (SS G (f_X0_nameOf x0 σ)) 0 0 NF := by
  generalize h : f_X0_nameOf x0 σ = q
  refine M_ofW (by decide) hj kR_lt (Nat.le_of_ble_eq_true rfl) (fun p e s m below meth c ls C0 hb hml hr hlk hP hS hl => ?_)
  have C0 : CT p s _ m RX0 G kR nR a := C0
  have hx := C0.1
  have hts := C0.2.1
  have hown := C0.2.2.1
  have hstr := C0.2.2.2.1.2.2.2.1
  have hl : lv_has ls 1 [(0, .int x0)] := hl
  unfold f_X0_nameOf at h
  refine lv_iload_n hx hb dX0_nameOf_0 rfl (lv_at hl 0 rfl) ?_
  by_cases c_1 : x0 = 1
  · rw [if_pos c_1] at h
    refine lv_tableIn (off := 39) (tgt := 40) hx hb dX0_nameOf_1 (by rw [c_1]; decide) (by rw [c_1]; decide) (by rw [c_1]; rfl) (by decide) ?_
    refine va_ldcS hx hb hown (hstr 0 _ rfl) dX0_nameOf_40 ?_
    exact m_ss hx hb hr hlk h dX0_nameOf_42
  · rw [if_neg c_1] at h
    by_cases c_2 : x0 = 2
    · rw [if_pos c_2] at h
      refine lv_tableIn (off := 42) (tgt := 43) hx hb dX0_nameOf_1 (by rw [c_2]; decide) (by rw [c_2]; decide) (by rw [c_2]; rfl) (by decide) ?_
      refine va_ldcS hx hb hown (hstr 1 _ rfl) dX0_nameOf_43 ?_
      exact m_ss hx hb hr hlk h dX0_nameOf_45
    · rw [if_neg c_2] at h
      by_cases c_3 : x0 = 3
      · rw [if_pos c_3] at h
        refine lv_tableIn (off := 45) (tgt := 46) hx hb dX0_nameOf_1 (by rw [c_3]; decide) (by rw [c_3]; decide) (by rw [c_3]; rfl) (by decide) ?_
        refine va_ldcS hx hb hown (hstr 2 _ rfl) dX0_nameOf_46 ?_
        exact m_ss hx hb hr hlk h dX0_nameOf_48
      · rw [if_neg c_3] at h
        by_cases c_4 : x0 = 4
        · rw [if_pos c_4] at h
          refine lv_tableIn (off := 48) (tgt := 49) hx hb dX0_nameOf_1 (by rw [c_4]; decide) (by rw [c_4]; decide) (by rw [c_4]; rfl) (by decide) ?_
          refine va_ldcS hx hb hown (hstr 3 _ rfl) dX0_nameOf_49 ?_
          exact m_ss hx hb hr hlk h dX0_nameOf_51
        · rw [if_neg c_4] at h
          by_cases c_5 : x0 = 5
          · rw [if_pos c_5] at h
            refine lv_tableIn (off := 51) (tgt := 52) hx hb dX0_nameOf_1 (by rw [c_5]; decide) (by rw [c_5]; decide) (by rw [c_5]; rfl) (by decide) ?_
            refine va_ldcS hx hb hown (hstr 4 _ rfl) dX0_nameOf_52 ?_
            exact m_ss hx hb hr hlk h dX0_nameOf_54
          · rw [if_neg c_5] at h
            by_cases c_6 : x0 = 6
            · rw [if_pos c_6] at h
              refine lv_tableIn (off := 54) (tgt := 55) hx hb dX0_nameOf_1 (by rw [c_6]; decide) (by rw [c_6]; decide) (by rw [c_6]; rfl) (by decide) ?_
              refine va_ldcS hx hb hown (hstr 5 _ rfl) dX0_nameOf_55 ?_
              exact m_ss hx hb hr hlk h dX0_nameOf_57
            · rw [if_neg c_6] at h
              refine lv_tableOut (tgt := 58) hx hb dX0_nameOf_1 (by have t0 := lv_neT c_1 (a := 1) rfl; have t1 := lv_neT c_2 (a := 2) rfl; have t2 := lv_neT c_3 (a := 3) rfl; have t3 := lv_neT c_4 (a := 4) rfl; have t4 := lv_neT c_5 (a := 5) rfl; have t5 := lv_neT c_6 (a := 6) rfl; omega) (by decide) ?_
              refine va_ldcS hx hb hown (hstr 6 _ rfl) dX0_nameOf_58 ?_
              exact m_ss hx hb hr hlk h dX0_nameOf_60
def f_X0_kindNamed_B2 (σ : Mem) (rec2 : Int32 → Option (Int32)) (x1_1 : Int32) : Option (Int32) := (if 7 ≤ x1_1 then some (-1) else ((f_X0_isWord (f_X0_nameOf x1_1 σ) σ).bind fun q_3 => (if q_3 = 0 then (rec2 (x1_1 + 1)) else some x1_1)))
def f_X0_kindNamed (σ : Mem) : Option (Int32) := (it1 (f_X0_kindNamed_B2 σ) FU 0)
set_option maxHeartbeats 4000000 in
set_option maxRecDepth 100000 in
theorem k_X0_kindNamed (l : Launch) (G : GG) (a : Nat → Nat) (σ : Mem) (hj : INJ nR a)  (q : Int32) (h : f_X0_kindNamed σ = some q) : Met l yX0_kindNamed (Cond.code yX0_kindNamed cX0_kindNamed 2 (some .int) :: TB) ({ frames := 6, cells := 0, slots := 0, locals := 162 } : Room) (PA G kR nR a σ [.ref (a 71)]) (SI q) 0 0 NF := by
  refine M_ofW (by decide) hj kR_lt (Nat.le_of_ble_eq_true rfl) (fun p e s m below meth c ls C0 hb hml hr hlk hP hS hl => ?_)
  have C0 : CT p s _ m RX0 G kR nR a := C0
  have hx := C0.1
  have hts := C0.2.1
  have hown := C0.2.2.1
  have hstr := C0.2.2.2.1.2.2.2.1
  have hl : lv_has ls 2 [(0, .ref (a 71))] := hl
  unfold f_X0_kindNamed at h
  refine lv_iconst (v := 0) hx hb dX0_kindNamed_0 (by decide) ?_
  refine lv_istore_n (lv' := [(1, .int 0), (0, .ref (a 71))]) hx hb dX0_kindNamed_1 rfl hl (by decide) rfl (fun ls hl => ?_)
  have L_6 : ∀ (fu2 : Nat) (x1_1 : Int32) (ls : Array Slot), it1 (f_X0_kindNamed_B2 σ) fu2 x1_1 = some q → lv_has ls 2 [(1, .int x1_1), (0, .ref (a 71))] → W p l e ({ frames := 6, cells := 0, slots := 0, locals := 162 } : Room) s m ([.ref (a 71)] : List Value).toArray below meth c s.heap [] 0 0 (MQ below (SI q) ([.ref (a 71)] : List Value).toArray s 0 0 NF) (F0 m 2 ls []) := by
    intro fu2
    induction fu2 with
    | zero =>
      intro x1_1 ls h
      cases h
    | succ fu2 ih2 =>
      intro x1_1 ls h hl
      replace h : (f_X0_kindNamed_B2 σ) (it1 (f_X0_kindNamed_B2 σ) fu2) x1_1 = some q := h
      generalize it1 (f_X0_kindNamed_B2 σ) fu2 = rec2 at h ih2
      unfold f_X0_kindNamed_B2 at h
      refine lv_iload_n hx hb dX0_kindNamed_2 rfl (lv_at hl 0 rfl) ?_
      refine lv_bipush (v := 7) hx hb dX0_kindNamed_3 (by decide) ?_
      refine lv_icmp_ge (tgt := 27) hx hb dX0_kindNamed_5 (by decide) (fun (c_2 : 7 ≤ x1_1) => ?_) (fun (c_2 : ¬ 7 ≤ x1_1) => ?_)
      · rw [if_pos c_2] at h
        refine lv_iconst (v := (-1)) hx hb dX0_kindNamed_27 (by decide) ?_
        exact m_si hx hb hr hlk (Option.some.inj h) dX0_kindNamed_28
      · rw [if_neg c_2] at h
        refine lv_aload_n hx hb dX0_kindNamed_8 rfl (lv_at hl 1 rfl) ?_
        refine lv_iload_n hx hb dX0_kindNamed_9 rfl (lv_at hl 0 rfl) ?_
        refine m_rSs (As := [.int x1_1]) (rest := [.ref (a 71)]) C0 hb hml hl.1 wm_X0_121 md_X0_nameOf (k_X0_nameOf l G a σ hj x1_1) rfl rfl ⟨(Nat.le_of_ble_eq_true rfl), (Nat.le_of_ble_eq_true rfl)⟩ hP hS rfl rfl (Nat.le_of_ble_eq_true rfl) dX0_kindNamed_10 ?_
        obtain ⟨q_3, hq_4, h⟩ := bd_s h
        refine m_rVi (As := [.ref (G.2.2.1 (f_X0_nameOf x1_1 σ))]) (rest := []) (o := 71) (ci := 0) C0 hb hml hl.1 wm_X0_125 md_X0_isWord (k_X0_isWord l G a σ hj (f_X0_nameOf x1_1 σ) (slt_X0_nameOf x1_1 σ) q_3 hq_4) rfl rfl ⟨(Nat.le_of_ble_eq_true rfl), (Nat.le_of_ble_eq_true rfl)⟩ hP hS (rfl : kR 71 = 0) (by decide) rfl rfl rfl (Nat.le_of_ble_eq_true rfl) dX0_kindNamed_13 ?_
        refine lv_if_eq (tgt := 21) hx hb dX0_kindNamed_16 (by decide) (fun (c_5 : q_3 = 0) => ?_) (fun (c_5 : ¬ q_3 = 0) => ?_)
        · rw [if_pos c_5] at h
          refine lv_iinc (v := x1_1 + 1) (lv' := [(1, .int (x1_1 + 1)), (0, .ref (a 71))]) hx hb dX0_kindNamed_21 hl (k := 0) rfl rfl (by decide) rfl (fun ls hl => ?_)
          refine lv_goto (tgt := 2) hx hb dX0_kindNamed_24 (by decide) ?_
          exact ih2 (x1_1 + 1) _ h (lv_sub hl [0, 1] rfl)
        · rw [if_neg c_5] at h
          refine lv_iload_n hx hb dX0_kindNamed_19 rfl (lv_at hl 0 rfl) ?_
          exact m_si hx hb hr hlk (Option.some.inj h) dX0_kindNamed_20
  exact L_6 FU 0 _ h (lv_sub hl [0, 1] rfl)
def f_X0_takes (z1 : Nat) (σ : Mem) : Option (Int32 × Mem) := ((f_X0_isWord z1 σ).bind fun q_1 => (if q_1 = 0 then (cbz q_1 (some (q_1, σ))) else ((f_X0_advance σ).bind fun q_5 => (cbz q_1 (some (q_1, q_5))))))
set_option maxHeartbeats 4000000 in
set_option maxRecDepth 100000 in
theorem k_X0_takes (l : Launch) (G : GG) (a : Nat → Nat) (σ : Mem) (hj : INJ nR a) (z1 : Nat) (hz1 : z1 < nStr) (q : Int32 × Mem) (h : f_X0_takes z1 σ = some q) : Met l yX0_takes (Cond.code yX0_takes cX0_takes 3 (some .boolean) :: TB) ({ frames := 6, cells := 0, slots := 0, locals := 162 } : Room) (PA G kR nR a σ [.ref (a 71), .ref (G.2.2.1 z1)]) (QI G kR nR a q) 0 0 (AW nR a) := by
  refine M_ofW (by decide) hj kR_lt (Nat.le_of_ble_eq_true rfl) (fun p e s m below meth c ls C0 hb hml hr hlk hP hS hl => ?_)
  have C0 : CT p s _ m RX0 G kR nR a := C0
  have hx := C0.1
  have hts := C0.2.1
  have hown := C0.2.2.1
  have hstr := C0.2.2.2.1.2.2.2.1
  have hl : lv_has ls 3 [(0, .ref (a 71)), (1, .ref (G.2.2.1 z1))] := hl
  unfold f_X0_takes at h
  refine lv_aload_n hx hb dX0_takes_0 rfl (lv_at hl 0 rfl) ?_
  refine lv_aload_n hx hb dX0_takes_1 rfl (lv_at hl 1 rfl) ?_
  obtain ⟨q_1, hq_2, h⟩ := bd_s h
  refine m_rVi (As := [.ref (G.2.2.1 z1)]) (rest := []) (o := 71) (ci := 0) C0 hb hml hl.1 wm_X0_125 md_X0_isWord (k_X0_isWord l G a σ hj z1 hz1 q_1 hq_2) rfl rfl ⟨(Nat.le_of_ble_eq_true rfl), (Nat.le_of_ble_eq_true rfl)⟩ hP hS (rfl : kR 71 = 0) (by decide) rfl rfl rfl (Nat.le_of_ble_eq_true rfl) dX0_takes_2 ?_
  refine lv_istore_n (lv' := [(2, .int q_1), (0, .ref (a 71)), (1, .ref (G.2.2.1 z1))]) hx hb dX0_takes_5 rfl hl (by decide) rfl (fun ls hl => ?_)
  refine lv_iload_n hx hb dX0_takes_6 rfl (lv_at hl 0 rfl) ?_
  refine lv_if_eq (tgt := 14) hx hb dX0_takes_7 (by decide) (fun (c_3 : q_1 = 0) => ?_) (fun (c_3 : ¬ q_1 = 0) => ?_)
  · rw [if_pos c_3] at h
    refine lv_iload_n hx hb dX0_takes_14 rfl (lv_at hl 0 rfl) ?_
    obtain ⟨hz_4, h⟩ := cbz_s h
    exact m_rz hx hb hr hlk hP hS hz_4 (Option.some.inj h) dX0_takes_15
  · rw [if_neg c_3] at h
    refine lv_aload_n hx hb dX0_takes_10 rfl (lv_at hl 1 rfl) ?_
    obtain ⟨q_5, hq_6, h⟩ := bd_s h
    refine m_cVv (As := []) (rest := []) (o := 71) (ci := 0) C0 hb hml hl.1 wm_X0_31 md_X0_advance (k_X0_advance l G a σ hj q_5 hq_6) rfl rfl ⟨(Nat.le_of_ble_eq_true rfl), (Nat.le_of_ble_eq_true rfl)⟩ hP hS (rfl : kR 71 = 0) (by decide) rfl rfl rfl (Nat.le_of_ble_eq_true rfl) dX0_takes_11 (fun H locs hP hS => ?_)
    refine lv_iload_n hx hb dX0_takes_14 rfl (lv_at hl 0 rfl) ?_
    obtain ⟨hz_7, h⟩ := cbz_s h
    exact m_rz hx hb hr hlk hP hS hz_7 (Option.some.inj h) dX0_takes_15
def f_X0_readWatcher_J74 (c2 : Nat) (q_4 : Int32 × Mem) (σ_10 : Mem) : Option (Mem) := (if (f_X0_hasFault σ_10) = 0 then ((f_X0_takes 9 σ_10).bind fun q_12 => (if q_12.1 = 0 then some q_12.2 else ((f_X0_takeNumber 99 q_12.2).bind fun q_15 => some (mst q_15.2 (c2 + 7 + q_4.1.toNatClampNeg) 3 q_15.1)))) else some σ_10)
def f_X0_readWatcher_J47 (c2 : Nat) (q_4 : Int32 × Mem) (σ_9 : Mem) : Option (Mem) := (if (f_X0_hasFault σ_9) = 0 then ((f_X0_takes 8 σ_9).bind fun q_19 => (if q_19.1 = 0 then (f_X0_readWatcher_J74 c2 q_4 q_19.2) else ((f_X0_takeNumber 999 q_19.2).bind fun q_22 => (f_X0_readWatcher_J74 c2 q_4 (mst q_22.2 (c2 + 7 + q_4.1.toNatClampNeg) 2 q_22.1))))) else (f_X0_readWatcher_J74 c2 q_4 σ_9))
def f_X0_readWatcher (x1 : Int32) (c2 : Nat) (σ : Mem) : Option (Mem) := (if (f_X2_isFull c2 σ) = 0 then ((f_X0_advance σ).bind fun q_2 => ((f_X2_settle c2 x1 0 q_2).bind fun q_4 => (chk q_4.1 8 ((f_X0_takes 7 q_4.2).bind fun q_7 => (if q_7.1 = 0 then (f_X0_readWatcher_J47 c2 q_4 q_7.2) else ((f_X0_takeNumber 11 q_7.2).bind fun q_26 => (f_X0_readWatcher_J47 c2 q_4 (mst q_26.2 (c2 + 7 + q_4.1.toNatClampNeg) 1 q_26.1)))))))) else some (f_X0_faultHere σ))
set_option maxHeartbeats 4000000 in
set_option maxRecDepth 100000 in
theorem k_X0_readWatcher (l : Launch) (G : GG) (a : Nat → Nat) (σ : Mem) (hj : INJ nR a) (x1 : Int32) (c2 : Nat) (hk2 : isV c2) (q : Mem) (h : f_X0_readWatcher x1 c2 σ = some q) : Met l yX0_readWatcher (Cond.code yX0_readWatcher cX0_readWatcher 4 none :: TB) ({ frames := 7, cells := 0, slots := 0, locals := 184 } : Room) (PA G kR nR a σ [.ref (a 71), .int x1, .ref (a c2)]) (QV G kR nR a q) 0 0 (AW nR a) := by
  refine M_ofW (by decide) hj kR_lt (Nat.le_of_ble_eq_true rfl) (fun p e s m below meth c ls C0 hb hml hr hlk hP hS hl => ?_)
  have C0 : CT p s _ m RX0 G kR nR a := C0
  have hx := C0.1
  have hts := C0.2.1
  have hown := C0.2.2.1
  have hstr := C0.2.2.2.1.2.2.2.1
  have hl : lv_has ls 4 [(0, .ref (a 71)), (1, .int x1), (2, .ref (a c2))] := hl
  unfold f_X0_readWatcher at h
  refine lv_aload_n hx hb dX0_readWatcher_0 rfl (lv_at hl 2 rfl) ?_
  refine m_rVi (As := []) (rest := []) (o := c2) (ci := 2) C0 hb hml hl.1 wm_X0_85 md_X2_isFull (k_X2_isFull l G a σ hj c2 hk2) rfl rfl ⟨(Nat.le_of_ble_eq_true rfl), (Nat.le_of_ble_eq_true rfl)⟩ hP hS (isV_k hk2) (by decide) rfl rfl rfl (Nat.le_of_ble_eq_true rfl) dX0_readWatcher_1 ?_
  refine lv_if_eq (tgt := 12) hx hb dX0_readWatcher_4 (by decide) (fun (c_1 : (f_X2_isFull c2 σ) = 0) => ?_) (fun (c_1 : ¬ (f_X2_isFull c2 σ) = 0) => ?_)
  · rw [if_pos c_1] at h
    refine lv_aload_n hx hb dX0_readWatcher_12 rfl (lv_at hl 0 rfl) ?_
    obtain ⟨q_2, hq_3, h⟩ := bd_s h
    refine m_cVv (As := []) (rest := []) (o := 71) (ci := 0) C0 hb hml hl.1 wm_X0_31 md_X0_advance (k_X0_advance l G a σ hj q_2 hq_3) rfl rfl ⟨(Nat.le_of_ble_eq_true rfl), (Nat.le_of_ble_eq_true rfl)⟩ hP hS (rfl : kR 71 = 0) (by decide) rfl rfl rfl (Nat.le_of_ble_eq_true rfl) dX0_readWatcher_13 (fun H locs hP hS => ?_)
    refine lv_aload_n hx hb dX0_readWatcher_16 rfl (lv_at hl 2 rfl) ?_
    refine gf_X0_88 (o := c2) (o2 := (c2 + 5)) C0 hb hP (isV_k hk2) rfl dX0_readWatcher_17 ?_
    refine lv_aload_n hx hb dX0_readWatcher_20 rfl (lv_at hl 2 rfl) ?_
    refine lv_iload_n hx hb dX0_readWatcher_21 rfl (lv_at hl 1 rfl) ?_
    refine lv_iconst (v := 0) hx hb dX0_readWatcher_22 (by decide) ?_
    obtain ⟨q_4, hq_5, h⟩ := bd_s h
    refine m_cVi (As := [.int x1, .int 0]) (rest := [.ref (a (c2 + 5))]) (o := c2) (ci := 2) C0 hb hml hl.1 wm_X0_92 md_X2_settle (k_X2_settle l G a q_2 hj c2 hk2 x1 0 q_4 hq_5) rfl rfl ⟨(Nat.le_of_ble_eq_true rfl), (Nat.le_of_ble_eq_true rfl)⟩ hP hS (isV_k hk2) (by decide) rfl rfl rfl (Nat.le_of_ble_eq_true rfl) dX0_readWatcher_23 (fun H locs hP hS => ?_)
    obtain ⟨hi_6, h⟩ := chk_s h
    refine m_aldW (o := (c2 + 5)) (i := q_4.1) (o2 := (c2 + 7 + q_4.1.toNatClampNeg)) C0 hb hP (isV_a hk2) hi_6 rfl dX0_readWatcher_26 ?_
    refine lv_astore_n (lv' := [(3, .ref (a (c2 + 7 + q_4.1.toNatClampNeg))), (0, .ref (a 71)), (1, .int x1), (2, .ref (a c2))]) hx hb dX0_readWatcher_27 rfl hl (by decide) rfl (fun ls hl => ?_)
    refine lv_aload_n hx hb dX0_readWatcher_28 rfl (lv_at hl 1 rfl) ?_
    refine va_ldcS hx hb hown (hstr 7 _ rfl) dX0_readWatcher_29 ?_
    obtain ⟨q_7, hq_8, h⟩ := bd_s h
    refine m_cVi (As := [.ref (G.2.2.1 7)]) (rest := []) (o := 71) (ci := 0) C0 hb hml hl.1 wm_X0_55 md_X0_takes (k_X0_takes l G a q_4.2 hj 7 (by decide) q_7 hq_8) rfl rfl ⟨(Nat.le_of_ble_eq_true rfl), (Nat.le_of_ble_eq_true rfl)⟩ hP hS (rfl : kR 71 = 0) (by decide) rfl rfl rfl (Nat.le_of_ble_eq_true rfl) dX0_readWatcher_31 (fun H locs hP hS => ?_)
    have J_24 : ∀ (σ_9 : Mem) (H : Heap) (locs : List Loc) (ls : Array Slot), f_X0_readWatcher_J47 c2 q_4 σ_9 = some q → HP G kR nR a σ_9 H → va_S (AW nR a) s.heap H locs → lv_has ls 4 [(3, .ref (a (c2 + 7 + q_4.1.toNatClampNeg))), (0, .ref (a 71))] → W p l e ({ frames := 7, cells := 0, slots := 0, locals := 184 } : Room) s m ([.ref (a 71), .int x1, .ref (a c2)] : List Value).toArray below meth c H locs 0 0 (MQ below (QV G kR nR a q) ([.ref (a 71), .int x1, .ref (a c2)] : List Value).toArray s 0 0 (AW nR a)) (F0 m 47 ls []) := by
      intro σ_9 H locs ls h hP hS hl
      unfold f_X0_readWatcher_J47 at h
      refine lv_aload_n hx hb dX0_readWatcher_47 rfl (lv_at hl 1 rfl) ?_
      refine m_rVi (As := []) (rest := []) (o := 71) (ci := 0) C0 hb hml hl.1 wm_X0_38 md_X0_hasFault (k_X0_hasFault l G a σ_9 hj) rfl rfl ⟨(Nat.le_of_ble_eq_true rfl), (Nat.le_of_ble_eq_true rfl)⟩ hP hS (rfl : kR 71 = 0) (by decide) rfl rfl rfl (Nat.le_of_ble_eq_true rfl) dX0_readWatcher_48 ?_
      have J_17 : ∀ (σ_10 : Mem) (H : Heap) (locs : List Loc) (ls : Array Slot), f_X0_readWatcher_J74 c2 q_4 σ_10 = some q → HP G kR nR a σ_10 H → va_S (AW nR a) s.heap H locs → lv_has ls 4 [(3, .ref (a (c2 + 7 + q_4.1.toNatClampNeg))), (0, .ref (a 71))] → W p l e ({ frames := 7, cells := 0, slots := 0, locals := 184 } : Room) s m ([.ref (a 71), .int x1, .ref (a c2)] : List Value).toArray below meth c H locs 0 0 (MQ below (QV G kR nR a q) ([.ref (a 71), .int x1, .ref (a c2)] : List Value).toArray s 0 0 (AW nR a)) (F0 m 74 ls []) := by
        intro σ_10 H locs ls h hP hS hl
        unfold f_X0_readWatcher_J74 at h
        refine lv_aload_n hx hb dX0_readWatcher_74 rfl (lv_at hl 1 rfl) ?_
        refine m_rVi (As := []) (rest := []) (o := 71) (ci := 0) C0 hb hml hl.1 wm_X0_38 md_X0_hasFault (k_X0_hasFault l G a σ_10 hj) rfl rfl ⟨(Nat.le_of_ble_eq_true rfl), (Nat.le_of_ble_eq_true rfl)⟩ hP hS (rfl : kR 71 = 0) (by decide) rfl rfl rfl (Nat.le_of_ble_eq_true rfl) dX0_readWatcher_75 ?_
        refine lv_if_ne (tgt := 100) hx hb dX0_readWatcher_78 (by decide) (fun (c_11 : ¬ (f_X0_hasFault σ_10) = 0) => ?_) (fun (c_11 : (f_X0_hasFault σ_10) = 0) => ?_)
        · rw [if_neg c_11] at h
          exact m_rv hx hb hr hlk hP hS (Option.some.inj h) dX0_readWatcher_100
        · rw [if_pos c_11] at h
          refine lv_aload_n hx hb dX0_readWatcher_81 rfl (lv_at hl 1 rfl) ?_
          refine va_ldcS hx hb hown (hstr 9 _ rfl) dX0_readWatcher_82 ?_
          obtain ⟨q_12, hq_13, h⟩ := bd_s h
          refine m_cVi (As := [.ref (G.2.2.1 9)]) (rest := []) (o := 71) (ci := 0) C0 hb hml hl.1 wm_X0_55 md_X0_takes (k_X0_takes l G a σ_10 hj 9 (by decide) q_12 hq_13) rfl rfl ⟨(Nat.le_of_ble_eq_true rfl), (Nat.le_of_ble_eq_true rfl)⟩ hP hS (rfl : kR 71 = 0) (by decide) rfl rfl rfl (Nat.le_of_ble_eq_true rfl) dX0_readWatcher_84 (fun H locs hP hS => ?_)
          refine lv_if_eq (tgt := 100) hx hb dX0_readWatcher_87 (by decide) (fun (c_14 : q_12.1 = 0) => ?_) (fun (c_14 : ¬ q_12.1 = 0) => ?_)
          · rw [if_pos c_14] at h
            exact m_rv hx hb hr hlk hP hS (Option.some.inj h) dX0_readWatcher_100
          · rw [if_neg c_14] at h
            refine lv_aload_n hx hb dX0_readWatcher_90 rfl (lv_at hl 0 rfl) ?_
            refine lv_aload_n hx hb dX0_readWatcher_91 rfl (lv_at hl 1 rfl) ?_
            refine lv_bipush (v := 99) hx hb dX0_readWatcher_92 (by decide) ?_
            obtain ⟨q_15, hq_16, h⟩ := bd_s h
            refine m_cVi (As := [.int 99]) (rest := [.ref (a (c2 + 7 + q_4.1.toNatClampNeg))]) (o := 71) (ci := 0) C0 hb hml hl.1 wm_X0_98 md_X0_takeNumber (k_X0_takeNumber l G a q_12.2 hj 99 q_15 hq_16) rfl rfl ⟨(Nat.le_of_ble_eq_true rfl), (Nat.le_of_ble_eq_true rfl)⟩ hP hS (rfl : kR 71 = 0) (by decide) rfl rfl rfl (Nat.le_of_ble_eq_true rfl) dX0_readWatcher_94 (fun H locs hP hS => ?_)
            refine pf_X0_114 (o := (c2 + 7 + q_4.1.toNatClampNeg)) C0 hb hP hS (isV_t hk2 (vp_lt hi_6)) dX0_readWatcher_97 (fun H locs hP hS => ?_)
            exact m_rv hx hb hr hlk hP hS (Option.some.inj h) dX0_readWatcher_100
      refine lv_if_ne (tgt := 74) hx hb dX0_readWatcher_51 (by decide) (fun (c_18 : ¬ (f_X0_hasFault σ_9) = 0) => ?_) (fun (c_18 : (f_X0_hasFault σ_9) = 0) => ?_)
      · rw [if_neg c_18] at h
        exact J_17 σ_9 _ _ _ h hP hS (lv_sub hl [0, 1] rfl)
      · rw [if_pos c_18] at h
        refine lv_aload_n hx hb dX0_readWatcher_54 rfl (lv_at hl 1 rfl) ?_
        refine va_ldcS hx hb hown (hstr 8 _ rfl) dX0_readWatcher_55 ?_
        obtain ⟨q_19, hq_20, h⟩ := bd_s h
        refine m_cVi (As := [.ref (G.2.2.1 8)]) (rest := []) (o := 71) (ci := 0) C0 hb hml hl.1 wm_X0_55 md_X0_takes (k_X0_takes l G a σ_9 hj 8 (by decide) q_19 hq_20) rfl rfl ⟨(Nat.le_of_ble_eq_true rfl), (Nat.le_of_ble_eq_true rfl)⟩ hP hS (rfl : kR 71 = 0) (by decide) rfl rfl rfl (Nat.le_of_ble_eq_true rfl) dX0_readWatcher_57 (fun H locs hP hS => ?_)
        refine lv_if_eq (tgt := 74) hx hb dX0_readWatcher_60 (by decide) (fun (c_21 : q_19.1 = 0) => ?_) (fun (c_21 : ¬ q_19.1 = 0) => ?_)
        · rw [if_pos c_21] at h
          exact J_17 q_19.2 _ _ _ h hP hS (lv_sub hl [0, 1] rfl)
        · rw [if_neg c_21] at h
          refine lv_aload_n hx hb dX0_readWatcher_63 rfl (lv_at hl 0 rfl) ?_
          refine lv_aload_n hx hb dX0_readWatcher_64 rfl (lv_at hl 1 rfl) ?_
          refine lv_sipush (v := 999) hx hb dX0_readWatcher_65 (by decide) ?_
          obtain ⟨q_22, hq_23, h⟩ := bd_s h
          refine m_cVi (As := [.int 999]) (rest := [.ref (a (c2 + 7 + q_4.1.toNatClampNeg))]) (o := 71) (ci := 0) C0 hb hml hl.1 wm_X0_98 md_X0_takeNumber (k_X0_takeNumber l G a q_19.2 hj 999 q_22 hq_23) rfl rfl ⟨(Nat.le_of_ble_eq_true rfl), (Nat.le_of_ble_eq_true rfl)⟩ hP hS (rfl : kR 71 = 0) (by decide) rfl rfl rfl (Nat.le_of_ble_eq_true rfl) dX0_readWatcher_68 (fun H locs hP hS => ?_)
          refine pf_X0_109 (o := (c2 + 7 + q_4.1.toNatClampNeg)) C0 hb hP hS (isV_t hk2 (vp_lt hi_6)) dX0_readWatcher_71 (fun H locs hP hS => ?_)
          exact J_17 (mst q_22.2 (c2 + 7 + q_4.1.toNatClampNeg) 2 q_22.1) _ _ _ h hP hS (lv_sub hl [0, 1] rfl)
    refine lv_if_eq (tgt := 47) hx hb dX0_readWatcher_34 (by decide) (fun (c_25 : q_7.1 = 0) => ?_) (fun (c_25 : ¬ q_7.1 = 0) => ?_)
    · rw [if_pos c_25] at h
      exact J_24 q_7.2 _ _ _ h hP hS (lv_sub hl [0, 1] rfl)
    · rw [if_neg c_25] at h
      refine lv_aload_n hx hb dX0_readWatcher_37 rfl (lv_at hl 0 rfl) ?_
      refine lv_aload_n hx hb dX0_readWatcher_38 rfl (lv_at hl 1 rfl) ?_
      refine lv_bipush (v := 11) hx hb dX0_readWatcher_39 (by decide) ?_
      obtain ⟨q_26, hq_27, h⟩ := bd_s h
      refine m_cVi (As := [.int 11]) (rest := [.ref (a (c2 + 7 + q_4.1.toNatClampNeg))]) (o := 71) (ci := 0) C0 hb hml hl.1 wm_X0_98 md_X0_takeNumber (k_X0_takeNumber l G a q_7.2 hj 11 q_26 hq_27) rfl rfl ⟨(Nat.le_of_ble_eq_true rfl), (Nat.le_of_ble_eq_true rfl)⟩ hP hS (rfl : kR 71 = 0) (by decide) rfl rfl rfl (Nat.le_of_ble_eq_true rfl) dX0_readWatcher_41 (fun H locs hP hS => ?_)
      refine pf_X0_102 (o := (c2 + 7 + q_4.1.toNatClampNeg)) C0 hb hP hS (isV_t hk2 (vp_lt hi_6)) dX0_readWatcher_44 (fun H locs hP hS => ?_)
      exact J_24 (mst q_26.2 (c2 + 7 + q_4.1.toNatClampNeg) 1 q_26.1) _ _ _ h hP hS (lv_sub hl [0, 1] rfl)
  · rw [if_neg c_1] at h
    refine lv_aload_n hx hb dX0_readWatcher_7 rfl (lv_at hl 0 rfl) ?_
    refine m_cVv (As := []) (rest := []) (o := 71) (ci := 0) C0 hb hml hl.1 wm_X0_42 md_X0_faultHere (k_X0_faultHere l G a σ hj) rfl rfl ⟨(Nat.le_of_ble_eq_true rfl), (Nat.le_of_ble_eq_true rfl)⟩ hP hS (rfl : kR 71 = 0) (by decide) rfl rfl rfl (Nat.le_of_ble_eq_true rfl) dX0_readWatcher_8 (fun H locs hP hS => ?_)
    exact m_rv hx hb hr hlk hP hS (Option.some.inj h) dX0_readWatcher_11
def f_X0_readItem (c1 : Nat) (σ : Mem) : Option (Mem) := ((f_X0_kindNamed σ).bind fun q_1 => (if q_1 = (-1) then ((f_X0_takes 10 σ).bind fun q_4 => (if q_4.1 = 0 then ((f_X0_takes 11 q_4.2).bind fun q_7 => (if q_7.1 = 0 then ((f_X0_takes 12 q_7.2).bind fun q_10 => (if q_10.1 = 0 then some (f_X0_faultHere q_10.2) else ((f_X0_readSteady (c1 + 1) q_10.2).bind fun q_13 => some q_13))) else ((f_X0_readInto (c1 + 4) 8 99 q_7.2).bind fun q_15 => some q_15))) else ((f_X0_readInto (c1 + 2) 12 9999 q_4.2).bind fun q_17 => some q_17))) else ((f_X0_readWatcher q_1 c1 σ).bind fun q_19 => some q_19)))
set_option maxHeartbeats 4000000 in
set_option maxRecDepth 100000 in
theorem k_X0_readItem (l : Launch) (G : GG) (a : Nat → Nat) (σ : Mem) (hj : INJ nR a) (c1 : Nat) (hk1 : isV c1) (q : Mem) (h : f_X0_readItem c1 σ = some q) : Met l yX0_readItem (Cond.code yX0_readItem cX0_readItem 3 none :: TB) ({ frames := 8, cells := 0, slots := 0, locals := 207 } : Room) (PA G kR nR a σ [.ref (a 71), .ref (a c1)]) (QV G kR nR a q) 0 0 (AW nR a) := by
  refine M_ofW (by decide) hj kR_lt (Nat.le_of_ble_eq_true rfl) (fun p e s m below meth c ls C0 hb hml hr hlk hP hS hl => ?_)
  have C0 : CT p s _ m RX0 G kR nR a := C0
  have hx := C0.1
  have hts := C0.2.1
  have hown := C0.2.2.1
  have hstr := C0.2.2.2.1.2.2.2.1
  have hl : lv_has ls 3 [(0, .ref (a 71)), (1, .ref (a c1))] := hl
  unfold f_X0_readItem at h
  refine lv_aload_n hx hb dX0_readItem_0 rfl (lv_at hl 0 rfl) ?_
  obtain ⟨q_1, hq_2, h⟩ := bd_s h
  refine m_rVi (As := []) (rest := []) (o := 71) (ci := 0) C0 hb hml hl.1 wm_X0_45 md_X0_kindNamed (k_X0_kindNamed l G a σ hj q_1 hq_2) rfl rfl ⟨(Nat.le_of_ble_eq_true rfl), (Nat.le_of_ble_eq_true rfl)⟩ hP hS (rfl : kR 71 = 0) (by decide) rfl rfl rfl (Nat.le_of_ble_eq_true rfl) dX0_readItem_1 ?_
  refine lv_istore_n (lv' := [(2, .int q_1), (0, .ref (a 71)), (1, .ref (a c1))]) hx hb dX0_readItem_4 rfl hl (by decide) rfl (fun ls hl => ?_)
  refine lv_iload_n hx hb dX0_readItem_5 rfl (lv_at hl 0 rfl) ?_
  refine lv_iconst (v := (-1)) hx hb dX0_readItem_6 (by decide) ?_
  refine lv_icmp_eq (tgt := 19) hx hb dX0_readItem_7 (by decide) (fun (c_3 : q_1 = (-1)) => ?_) (fun (c_3 : ¬ q_1 = (-1)) => ?_)
  · rw [if_pos c_3] at h
    refine lv_aload_n hx hb dX0_readItem_19 rfl (lv_at hl 1 rfl) ?_
    refine va_ldcS hx hb hown (hstr 10 _ rfl) dX0_readItem_20 ?_
    obtain ⟨q_4, hq_5, h⟩ := bd_s h
    refine m_cVi (As := [.ref (G.2.2.1 10)]) (rest := []) (o := 71) (ci := 0) C0 hb hml hl.1 wm_X0_55 md_X0_takes (k_X0_takes l G a σ hj 10 (by decide) q_4 hq_5) rfl rfl ⟨(Nat.le_of_ble_eq_true rfl), (Nat.le_of_ble_eq_true rfl)⟩ hP hS (rfl : kR 71 = 0) (by decide) rfl rfl rfl (Nat.le_of_ble_eq_true rfl) dX0_readItem_22 (fun H locs hP hS => ?_)
    refine lv_if_eq (tgt := 45) hx hb dX0_readItem_25 (by decide) (fun (c_6 : q_4.1 = 0) => ?_) (fun (c_6 : ¬ q_4.1 = 0) => ?_)
    · rw [if_pos c_6] at h
      refine lv_aload_n hx hb dX0_readItem_45 rfl (lv_at hl 1 rfl) ?_
      refine va_ldcS hx hb hown (hstr 11 _ rfl) dX0_readItem_46 ?_
      obtain ⟨q_7, hq_8, h⟩ := bd_s h
      refine m_cVi (As := [.ref (G.2.2.1 11)]) (rest := []) (o := 71) (ci := 0) C0 hb hml hl.1 wm_X0_55 md_X0_takes (k_X0_takes l G a q_4.2 hj 11 (by decide) q_7 hq_8) rfl rfl ⟨(Nat.le_of_ble_eq_true rfl), (Nat.le_of_ble_eq_true rfl)⟩ hP hS (rfl : kR 71 = 0) (by decide) rfl rfl rfl (Nat.le_of_ble_eq_true rfl) dX0_readItem_48 (fun H locs hP hS => ?_)
      refine lv_if_eq (tgt := 70) hx hb dX0_readItem_51 (by decide) (fun (c_9 : q_7.1 = 0) => ?_) (fun (c_9 : ¬ q_7.1 = 0) => ?_)
      · rw [if_pos c_9] at h
        refine lv_aload_n hx hb dX0_readItem_70 rfl (lv_at hl 1 rfl) ?_
        refine va_ldcS hx hb hown (hstr 12 _ rfl) dX0_readItem_71 ?_
        obtain ⟨q_10, hq_11, h⟩ := bd_s h
        refine m_cVi (As := [.ref (G.2.2.1 12)]) (rest := []) (o := 71) (ci := 0) C0 hb hml hl.1 wm_X0_55 md_X0_takes (k_X0_takes l G a q_7.2 hj 12 (by decide) q_10 hq_11) rfl rfl ⟨(Nat.le_of_ble_eq_true rfl), (Nat.le_of_ble_eq_true rfl)⟩ hP hS (rfl : kR 71 = 0) (by decide) rfl rfl rfl (Nat.le_of_ble_eq_true rfl) dX0_readItem_73 (fun H locs hP hS => ?_)
        refine lv_if_eq (tgt := 90) hx hb dX0_readItem_76 (by decide) (fun (c_12 : q_10.1 = 0) => ?_) (fun (c_12 : ¬ q_10.1 = 0) => ?_)
        · rw [if_pos c_12] at h
          refine lv_aload_n hx hb dX0_readItem_90 rfl (lv_at hl 1 rfl) ?_
          refine m_cVv (As := []) (rest := []) (o := 71) (ci := 0) C0 hb hml hl.1 wm_X0_42 md_X0_faultHere (k_X0_faultHere l G a q_10.2 hj) rfl rfl ⟨(Nat.le_of_ble_eq_true rfl), (Nat.le_of_ble_eq_true rfl)⟩ hP hS (rfl : kR 71 = 0) (by decide) rfl rfl rfl (Nat.le_of_ble_eq_true rfl) dX0_readItem_91 (fun H locs hP hS => ?_)
          exact m_rv hx hb hr hlk hP hS (Option.some.inj h) dX0_readItem_94
        · rw [if_neg c_12] at h
          refine lv_aload_n hx hb dX0_readItem_79 rfl (lv_at hl 1 rfl) ?_
          refine lv_aload_n hx hb dX0_readItem_80 rfl (lv_at hl 2 rfl) ?_
          refine gf_X0_59 (o := c1) (o2 := (c1 + 1)) C0 hb hP (isV_k hk1) rfl dX0_readItem_81 ?_
          obtain ⟨q_13, hq_14, h⟩ := bd_s h
          refine m_cVv (As := [.ref (a (c1 + 1))]) (rest := []) (o := 71) (ci := 0) C0 hb hml hl.1 wm_X0_81 md_X0_readSteady (k_X0_readSteady l G a q_10.2 hj (c1 + 1) (isV_w hk1) q_13 hq_14) rfl rfl ⟨(Nat.le_of_ble_eq_true rfl), (Nat.le_of_ble_eq_true rfl)⟩ hP hS (rfl : kR 71 = 0) (by decide) rfl rfl rfl (Nat.le_of_ble_eq_true rfl) dX0_readItem_84 (fun H locs hP hS => ?_)
          refine lv_goto (tgt := 94) hx hb dX0_readItem_87 (by decide) ?_
          exact m_rv hx hb hr hlk hP hS (Option.some.inj h) dX0_readItem_94
      · rw [if_neg c_9] at h
        refine lv_aload_n hx hb dX0_readItem_54 rfl (lv_at hl 1 rfl) ?_
        refine lv_aload_n hx hb dX0_readItem_55 rfl (lv_at hl 2 rfl) ?_
        refine gf_X0_59 (o := c1) (o2 := (c1 + 1)) C0 hb hP (isV_k hk1) rfl dX0_readItem_56 ?_
        refine gf_X0_76 (o := (c1 + 1)) (o2 := (c1 + 4)) C0 hb hP (isW_k (isV_w hk1)) rfl dX0_readItem_59 ?_
        refine lv_bipush (v := 99) hx hb dX0_readItem_62 (by decide) ?_
        obtain ⟨q_15, hq_16, h⟩ := bd_s h
        refine m_cVv (As := [.ref (a (c1 + 4)), .int 99]) (rest := []) (o := 71) (ci := 0) C0 hb hml hl.1 wm_X0_70 md_X0_readInto (k_X0_readInto l G a q_7.2 hj (c1 + 4) 8 (isW_3 (isV_w hk1)) (by decide) 99 q_15 hq_16) rfl rfl ⟨(Nat.le_of_ble_eq_true rfl), (Nat.le_of_ble_eq_true rfl)⟩ hP hS (rfl : kR 71 = 0) (by decide) rfl rfl rfl (Nat.le_of_ble_eq_true rfl) dX0_readItem_64 (fun H locs hP hS => ?_)
        refine lv_goto (tgt := 94) hx hb dX0_readItem_67 (by decide) ?_
        exact m_rv hx hb hr hlk hP hS (Option.some.inj h) dX0_readItem_94
    · rw [if_neg c_6] at h
      refine lv_aload_n hx hb dX0_readItem_28 rfl (lv_at hl 1 rfl) ?_
      refine lv_aload_n hx hb dX0_readItem_29 rfl (lv_at hl 2 rfl) ?_
      refine gf_X0_59 (o := c1) (o2 := (c1 + 1)) C0 hb hP (isV_k hk1) rfl dX0_readItem_30 ?_
      refine gf_X0_65 (o := (c1 + 1)) (o2 := (c1 + 2)) C0 hb hP (isW_k (isV_w hk1)) rfl dX0_readItem_33 ?_
      refine lv_sipush (v := 9999) hx hb dX0_readItem_36 (by decide) ?_
      obtain ⟨q_17, hq_18, h⟩ := bd_s h
      refine m_cVv (As := [.ref (a (c1 + 2)), .int 9999]) (rest := []) (o := 71) (ci := 0) C0 hb hml hl.1 wm_X0_70 md_X0_readInto (k_X0_readInto l G a q_4.2 hj (c1 + 2) 12 (isW_1 (isV_w hk1)) (by decide) 9999 q_17 hq_18) rfl rfl ⟨(Nat.le_of_ble_eq_true rfl), (Nat.le_of_ble_eq_true rfl)⟩ hP hS (rfl : kR 71 = 0) (by decide) rfl rfl rfl (Nat.le_of_ble_eq_true rfl) dX0_readItem_39 (fun H locs hP hS => ?_)
      refine lv_goto (tgt := 94) hx hb dX0_readItem_42 (by decide) ?_
      exact m_rv hx hb hr hlk hP hS (Option.some.inj h) dX0_readItem_94
  · rw [if_neg c_3] at h
    refine lv_aload_n hx hb dX0_readItem_10 rfl (lv_at hl 1 rfl) ?_
    refine lv_iload_n hx hb dX0_readItem_11 rfl (lv_at hl 0 rfl) ?_
    refine lv_aload_n hx hb dX0_readItem_12 rfl (lv_at hl 2 rfl) ?_
    obtain ⟨q_19, hq_20, h⟩ := bd_s h
    refine m_cVv (As := [.int q_1, .ref (a c1)]) (rest := []) (o := 71) (ci := 0) C0 hb hml hl.1 wm_X0_49 md_X0_readWatcher (k_X0_readWatcher l G a σ hj q_1 c1 hk1 q_19 hq_20) rfl rfl ⟨(Nat.le_of_ble_eq_true rfl), (Nat.le_of_ble_eq_true rfl)⟩ hP hS (rfl : kR 71 = 0) (by decide) rfl rfl rfl (Nat.le_of_ble_eq_true rfl) dX0_readItem_13 (fun H locs hP hS => ?_)
    refine lv_goto (tgt := 94) hx hb dX0_readItem_16 (by decide) ?_
    exact m_rv hx hb hr hlk hP hS (Option.some.inj h) dX0_readItem_94
def f_X0_read_B16 (c1 : Nat) (rec16 : Int32 → Mem → Option (Int32 × Mem)) (x2_3 : Int32) (σ_4 : Mem) : Option (Int32 × Mem) := (if 120 < x2_3 then some (120, σ_4) else ((f_X0_readItem c1 σ_4).bind fun q_6 => (if (f_X0_hasFault q_6) = 0 then (if (q_6 71 3) = 0 then some (x2_3, q_6) else (if (q_6 71 3) = 3 then ((f_X0_advance q_6).bind fun q_11 => (rec16 (x2_3 + 1) q_11)) else some (x2_3, (f_X0_faultHere q_6)))) else some (x2_3, q_6))))
def f_X0_read (c1 : Nat) (σ : Mem) : Option (Int32 × Mem) := ((f_X0_advance (mst (mst σ 71 2 (-1)) 71 5 0)).bind fun q_1 => (it2 (f_X0_read_B16 c1) FU 1 q_1))
set_option maxHeartbeats 4000000 in
set_option maxRecDepth 100000 in
theorem k_X0_read (l : Launch) (G : GG) (a : Nat → Nat) (σ : Mem) (hj : INJ nR a) (c1 : Nat) (hk1 : isV c1) (q : Int32 × Mem) (h : f_X0_read c1 σ = some q) : Met l yX0_read (Cond.code yX0_read cX0_read 3 (some .int) :: TB) ({ frames := 9, cells := 0, slots := 0, locals := 229 } : Room) (PA G kR nR a σ [.ref (a 71), .ref (a c1)]) (QI G kR nR a q) 0 0 (AW nR a) := by
  refine M_ofW (by decide) hj kR_lt (Nat.le_of_ble_eq_true rfl) (fun p e s m below meth c ls C0 hb hml hr hlk hP hS hl => ?_)
  have C0 : CT p s _ m RX0 G kR nR a := C0
  have hx := C0.1
  have hts := C0.2.1
  have hown := C0.2.2.1
  have hstr := C0.2.2.2.1.2.2.2.1
  have hl : lv_has ls 3 [(0, .ref (a 71)), (1, .ref (a c1))] := hl
  unfold f_X0_read at h
  refine lv_aload_n hx hb dX0_read_0 rfl (lv_at hl 0 rfl) ?_
  refine lv_iconst (v := (-1)) hx hb dX0_read_1 (by decide) ?_
  refine pf_X0_19 (o := 71) C0 hb hP hS (rfl : kR 71 = 0) dX0_read_2 (fun H locs hP hS => ?_)
  refine lv_aload_n hx hb dX0_read_5 rfl (lv_at hl 0 rfl) ?_
  refine lv_iconst (v := 0) hx hb dX0_read_6 (by decide) ?_
  refine pf_X0_28 (o := 71) C0 hb hP hS (rfl : kR 71 = 0) dX0_read_7 (fun H locs hP hS => ?_)
  refine lv_aload_n hx hb dX0_read_10 rfl (lv_at hl 0 rfl) ?_
  obtain ⟨q_1, hq_2, h⟩ := bd_s h
  refine m_cVv (As := []) (rest := []) (o := 71) (ci := 0) C0 hb hml hl.1 wm_X0_31 md_X0_advance (k_X0_advance l G a (mst (mst σ 71 2 (-1)) 71 5 0) hj q_1 hq_2) rfl rfl ⟨(Nat.le_of_ble_eq_true rfl), (Nat.le_of_ble_eq_true rfl)⟩ hP hS (rfl : kR 71 = 0) (by decide) rfl rfl rfl (Nat.le_of_ble_eq_true rfl) dX0_read_11 (fun H locs hP hS => ?_)
  refine lv_iconst (v := 1) hx hb dX0_read_14 (by decide) ?_
  refine lv_istore_n (lv' := [(2, .int 1), (0, .ref (a 71)), (1, .ref (a c1))]) hx hb dX0_read_15 rfl hl (by decide) rfl (fun ls hl => ?_)
  have L_13 : ∀ (fu16 : Nat) (x2_3 : Int32) (σ_4 : Mem) (H : Heap) (locs : List Loc) (ls : Array Slot), it2 (f_X0_read_B16 c1) fu16 x2_3 σ_4 = some q → HP G kR nR a σ_4 H → va_S (AW nR a) s.heap H locs → lv_has ls 3 [(2, .int x2_3), (0, .ref (a 71)), (1, .ref (a c1))] → W p l e ({ frames := 9, cells := 0, slots := 0, locals := 229 } : Room) s m ([.ref (a 71), .ref (a c1)] : List Value).toArray below meth c H locs 0 0 (MQ below (QI G kR nR a q) ([.ref (a 71), .ref (a c1)] : List Value).toArray s 0 0 (AW nR a)) (F0 m 16 ls []) := by
    intro fu16
    induction fu16 with
    | zero =>
      intro x2_3 σ_4 H locs ls h
      cases h
    | succ fu16 ih16 =>
      intro x2_3 σ_4 H locs ls h hP hS hl
      replace h : (f_X0_read_B16 c1) (it2 (f_X0_read_B16 c1) fu16) x2_3 σ_4 = some q := h
      generalize it2 (f_X0_read_B16 c1) fu16 = rec16 at h ih16
      unfold f_X0_read_B16 at h
      refine lv_iload_n hx hb dX0_read_16 rfl (lv_at hl 0 rfl) ?_
      refine lv_bipush (v := 120) hx hb dX0_read_17 (by decide) ?_
      refine lv_icmp_gt (tgt := 67) hx hb dX0_read_19 (by decide) (fun (c_5 : 120 < x2_3) => ?_) (fun (c_5 : ¬ 120 < x2_3) => ?_)
      · rw [if_pos c_5] at h
        refine lv_bipush (v := 120) hx hb dX0_read_67 (by decide) ?_
        exact m_ri hx hb hr hlk hP hS (Option.some.inj h) dX0_read_69
      · rw [if_neg c_5] at h
        refine lv_aload_n hx hb dX0_read_22 rfl (lv_at hl 1 rfl) ?_
        refine lv_aload_n hx hb dX0_read_23 rfl (lv_at hl 2 rfl) ?_
        obtain ⟨q_6, hq_7, h⟩ := bd_s h
        refine m_cVv (As := [.ref (a c1)]) (rest := []) (o := 71) (ci := 0) C0 hb hml hl.1 wm_X0_34 md_X0_readItem (k_X0_readItem l G a σ_4 hj c1 hk1 q_6 hq_7) rfl rfl ⟨(Nat.le_of_ble_eq_true rfl), (Nat.le_of_ble_eq_true rfl)⟩ hP hS (rfl : kR 71 = 0) (by decide) rfl rfl rfl (Nat.le_of_ble_eq_true rfl) dX0_read_24 (fun H locs hP hS => ?_)
        refine lv_aload_n hx hb dX0_read_27 rfl (lv_at hl 1 rfl) ?_
        refine m_rVi (As := []) (rest := []) (o := 71) (ci := 0) C0 hb hml hl.1 wm_X0_38 md_X0_hasFault (k_X0_hasFault l G a q_6 hj) rfl rfl ⟨(Nat.le_of_ble_eq_true rfl), (Nat.le_of_ble_eq_true rfl)⟩ hP hS (rfl : kR 71 = 0) (by decide) rfl rfl rfl (Nat.le_of_ble_eq_true rfl) dX0_read_28 ?_
        refine lv_if_ne (tgt := 41) hx hb dX0_read_31 (by decide) (fun (c_8 : ¬ (f_X0_hasFault q_6) = 0) => ?_) (fun (c_8 : (f_X0_hasFault q_6) = 0) => ?_)
        · rw [if_neg c_8] at h
          refine lv_iload_n hx hb dX0_read_41 rfl (lv_at hl 0 rfl) ?_
          exact m_ri hx hb hr hlk hP hS (Option.some.inj h) dX0_read_42
        · rw [if_pos c_8] at h
          refine lv_aload_n hx hb dX0_read_34 rfl (lv_at hl 1 rfl) ?_
          refine gf_X0_22 (o := 71) C0 hb hP (rfl : kR 71 = 0) dX0_read_35 ?_
          refine lv_if_ne (tgt := 43) hx hb dX0_read_38 (by decide) (fun (c_9 : ¬ (q_6 71 3) = 0) => ?_) (fun (c_9 : (q_6 71 3) = 0) => ?_)
          · rw [if_neg c_9] at h
            refine lv_aload_n hx hb dX0_read_43 rfl (lv_at hl 1 rfl) ?_
            refine gf_X0_22 (o := 71) C0 hb hP (rfl : kR 71 = 0) dX0_read_44 ?_
            refine lv_iconst (v := 3) hx hb dX0_read_47 (by decide) ?_
            refine lv_icmp_eq (tgt := 57) hx hb dX0_read_48 (by decide) (fun (c_10 : (q_6 71 3) = 3) => ?_) (fun (c_10 : ¬ (q_6 71 3) = 3) => ?_)
            · rw [if_pos c_10] at h
              refine lv_aload_n hx hb dX0_read_57 rfl (lv_at hl 1 rfl) ?_
              obtain ⟨q_11, hq_12, h⟩ := bd_s h
              refine m_cVv (As := []) (rest := []) (o := 71) (ci := 0) C0 hb hml hl.1 wm_X0_31 md_X0_advance (k_X0_advance l G a q_6 hj q_11 hq_12) rfl rfl ⟨(Nat.le_of_ble_eq_true rfl), (Nat.le_of_ble_eq_true rfl)⟩ hP hS (rfl : kR 71 = 0) (by decide) rfl rfl rfl (Nat.le_of_ble_eq_true rfl) dX0_read_58 (fun H locs hP hS => ?_)
              refine lv_iinc (v := x2_3 + 1) (lv' := [(2, .int (x2_3 + 1)), (0, .ref (a 71)), (1, .ref (a c1))]) hx hb dX0_read_61 hl (k := 0) rfl rfl (by decide) rfl (fun ls hl => ?_)
              refine lv_goto (tgt := 16) hx hb dX0_read_64 (by decide) ?_
              exact ih16 (x2_3 + 1) q_11 _ _ _ h hP hS (lv_sub hl [0, 1, 2] rfl)
            · rw [if_neg c_10] at h
              refine lv_aload_n hx hb dX0_read_51 rfl (lv_at hl 1 rfl) ?_
              refine m_cVv (As := []) (rest := []) (o := 71) (ci := 0) C0 hb hml hl.1 wm_X0_42 md_X0_faultHere (k_X0_faultHere l G a q_6 hj) rfl rfl ⟨(Nat.le_of_ble_eq_true rfl), (Nat.le_of_ble_eq_true rfl)⟩ hP hS (rfl : kR 71 = 0) (by decide) rfl rfl rfl (Nat.le_of_ble_eq_true rfl) dX0_read_52 (fun H locs hP hS => ?_)
              refine lv_iload_n hx hb dX0_read_55 rfl (lv_at hl 0 rfl) ?_
              exact m_ri hx hb hr hlk hP hS (Option.some.inj h) dX0_read_56
          · rw [if_pos c_9] at h
            refine lv_iload_n hx hb dX0_read_41 rfl (lv_at hl 0 rfl) ?_
            exact m_ri hx hb hr hlk hP hS (Option.some.inj h) dX0_read_42
  exact L_13 FU 1 q_1 _ _ _ h hP hS (lv_sub hl [0, 1, 2] rfl)
def f_X5_text (σ : Mem) : Option (Int32 × Mem) := ((f_X2_become 31 1 σ).bind fun q_1 => ((f_X0_read 31 q_1).bind fun q_3 => (if (f_X0_hasFault (mst q_3.2 71 1 0)) = 0 then ((f_X2_become 1 31 (mst q_3.2 71 1 0)).bind fun q_6 => some (q_3.1, q_6)) else some ((-1) - ((mst q_3.2 71 1 0) 71 2), mst q_3.2 71 1 0))))
set_option maxHeartbeats 4000000 in
set_option maxRecDepth 100000 in
theorem k_X5_text (l : Launch) (G : GG) (a : Nat → Nat) (σ : Mem) (hj : INJ nR a)  (q : Int32 × Mem) (h : f_X5_text σ = some q) : Met l yX5_text (Cond.code yX5_text cX5_text 2 (some .int) :: TB) ({ frames := 10, cells := 0, slots := 0, locals := 251 } : Room) (PA G kR nR a σ [.ref (a 0)]) (QI G kR nR a q) 0 0 (AW nR a) := by
  refine M_ofW (by decide) hj kR_lt (Nat.le_of_ble_eq_true rfl) (fun p e s m below meth c ls C0 hb hml hr hlk hP hS hl => ?_)
  have C0 : CT p s _ m RX5 G kR nR a := C0
  have hx := C0.1
  have hts := C0.2.1
  have hown := C0.2.2.1
  have hl : lv_has ls 2 [(0, .ref (a 0))] := hl
  unfold f_X5_text at h
  refine lv_aload_n hx hb dX5_text_0 rfl (lv_at hl 0 rfl) ?_
  refine gf_X5_19 (o := 0) (o2 := 31) C0 hb hP (rfl : kR 0 = 5) rfl dX5_text_1 ?_
  refine lv_aload_n hx hb dX5_text_4 rfl (lv_at hl 0 rfl) ?_
  refine gf_X5_12 (o := 0) (o2 := 1) C0 hb hP (rfl : kR 0 = 5) rfl dX5_text_5 ?_
  obtain ⟨q_1, hq_2, h⟩ := bd_s h
  refine m_cVv (As := [.ref (a 1)]) (rest := []) (o := 31) (ci := 2) C0 hb hml hl.1 wm_X5_159 md_X2_become (k_X2_become l G a σ hj 31 v31 1 v1 q_1 hq_2) rfl rfl ⟨(Nat.le_of_ble_eq_true rfl), (Nat.le_of_ble_eq_true rfl)⟩ hP hS (isV_k v31) (by decide) rfl rfl rfl (Nat.le_of_ble_eq_true rfl) dX5_text_8 (fun H locs hP hS => ?_)
  refine lv_aload_n hx hb dX5_text_11 rfl (lv_at hl 0 rfl) ?_
  refine gf_X5_39 (o := 0) (o2 := 71) C0 hb hP (rfl : kR 0 = 5) rfl dX5_text_12 ?_
  refine lv_aload_n hx hb dX5_text_15 rfl (lv_at hl 0 rfl) ?_
  refine gf_X5_19 (o := 0) (o2 := 31) C0 hb hP (rfl : kR 0 = 5) rfl dX5_text_16 ?_
  obtain ⟨q_3, hq_4, h⟩ := bd_s h
  refine m_cVi (As := [.ref (a 31)]) (rest := []) (o := 71) (ci := 0) C0 hb hml hl.1 wm_X5_238 md_X0_read (k_X0_read l G a q_1 hj 31 v31 q_3 hq_4) rfl rfl ⟨(Nat.le_of_ble_eq_true rfl), (Nat.le_of_ble_eq_true rfl)⟩ hP hS (rfl : kR 71 = 0) (by decide) rfl rfl rfl (Nat.le_of_ble_eq_true rfl) dX5_text_19 (fun H locs hP hS => ?_)
  refine lv_istore_n (lv' := [(1, .int q_3.1), (0, .ref (a 0))]) hx hb dX5_text_22 rfl hl (by decide) rfl (fun ls hl => ?_)
  refine lv_aload_n hx hb dX5_text_23 rfl (lv_at hl 1 rfl) ?_
  refine gf_X5_39 (o := 0) (o2 := 71) C0 hb hP (rfl : kR 0 = 5) rfl dX5_text_24 ?_
  refine lv_iconst (v := 0) hx hb dX5_text_27 (by decide) ?_
  refine pf_X5_232 (o := 71) C0 hb hP hS (rfl : kR 71 = 0) dX5_text_28 (fun H locs hP hS => ?_)
  refine lv_aload_n hx hb dX5_text_31 rfl (lv_at hl 1 rfl) ?_
  refine gf_X5_39 (o := 0) (o2 := 71) C0 hb hP (rfl : kR 0 = 5) rfl dX5_text_32 ?_
  refine m_rVi (As := []) (rest := []) (o := 71) (ci := 0) C0 hb hml hl.1 wm_X5_242 md_X0_hasFault (k_X0_hasFault l G a (mst q_3.2 71 1 0) hj) rfl rfl ⟨(Nat.le_of_ble_eq_true rfl), (Nat.le_of_ble_eq_true rfl)⟩ hP hS (rfl : kR 71 = 0) (by decide) rfl rfl rfl (Nat.le_of_ble_eq_true rfl) dX5_text_35 ?_
  refine lv_if_eq (tgt := 51) hx hb dX5_text_38 (by decide) (fun (c_5 : (f_X0_hasFault (mst q_3.2 71 1 0)) = 0) => ?_) (fun (c_5 : ¬ (f_X0_hasFault (mst q_3.2 71 1 0)) = 0) => ?_)
  · rw [if_pos c_5] at h
    refine lv_aload_n hx hb dX5_text_51 rfl (lv_at hl 1 rfl) ?_
    refine gf_X5_12 (o := 0) (o2 := 1) C0 hb hP (rfl : kR 0 = 5) rfl dX5_text_52 ?_
    refine lv_aload_n hx hb dX5_text_55 rfl (lv_at hl 1 rfl) ?_
    refine gf_X5_19 (o := 0) (o2 := 31) C0 hb hP (rfl : kR 0 = 5) rfl dX5_text_56 ?_
    obtain ⟨q_6, hq_7, h⟩ := bd_s h
    refine m_cVv (As := [.ref (a 31)]) (rest := []) (o := 1) (ci := 2) C0 hb hml hl.1 wm_X5_159 md_X2_become (k_X2_become l G a (mst q_3.2 71 1 0) hj 1 v1 31 v31 q_6 hq_7) rfl rfl ⟨(Nat.le_of_ble_eq_true rfl), (Nat.le_of_ble_eq_true rfl)⟩ hP hS (isV_k v1) (by decide) rfl rfl rfl (Nat.le_of_ble_eq_true rfl) dX5_text_59 (fun H locs hP hS => ?_)
    refine lv_iload_n hx hb dX5_text_62 rfl (lv_at hl 0 rfl) ?_
    exact m_ri hx hb hr hlk hP hS (Option.some.inj h) dX5_text_63
  · rw [if_neg c_5] at h
    refine lv_iconst (v := (-1)) hx hb dX5_text_41 (by decide) ?_
    refine lv_aload_n hx hb dX5_text_42 rfl (lv_at hl 1 rfl) ?_
    refine gf_X5_39 (o := 0) (o2 := 71) C0 hb hP (rfl : kR 0 = 5) rfl dX5_text_43 ?_
    refine gf_X5_245 (o := 71) C0 hb hP (rfl : kR 71 = 0) dX5_text_46 ?_
    refine lv_isub hx hb dX5_text_49 ?_
    exact m_ri hx hb hr hlk hP hS (Option.some.inj h) dX5_text_50

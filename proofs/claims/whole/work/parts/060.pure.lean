def f_X5_outside (x0 : Int32) (x1 : Int32) : Int32 := (if x0 < 0 then 1 else (if x0 ≤ x1 then 0 else 1))
theorem bz_X5_outside (x0 : Int32) (x1 : Int32) : f_X5_outside x0 x1 = 0 ∨ f_X5_outside x0 x1 = 1 := by
  unfold f_X5_outside
  repeat' split
  all_goals first | exact Or.inl rfl | exact Or.inr rfl
set_option maxHeartbeats 4000000 in
set_option maxRecDepth 100000 in
theorem k_X5_outside (l : Launch) (x0 : Int32) (x1 : Int32) : Met l yX5_outside (Cond.code yX5_outside cX5_outside 2 (some .boolean) :: TB) ({ frames := 0, cells := 0, slots := 0, locals := 0 } : Room) (PN [.int x0, .int x1]) (SI (f_X5_outside x0 x1)) 0 0 NF := by
  generalize h : f_X5_outside x0 x1 = q
  refine M_ofZ (by decide) (Nat.le_of_ble_eq_true rfl) (fun p e s m below meth c ls C0 hb hml hr hlk hl => ?_)
  have C0 : CT0 p s _ m RX5 := C0
  have hx := C0.1
  have hts := C0.2.1
  have hown := C0.2.2
  have hl : lv_has ls 2 [(0, .int x0), (1, .int x1)] := hl
  unfold f_X5_outside at h
  refine lv_iload_n hx hb dX5_outside_0 rfl (lv_at hl 0 rfl) ?_
  refine lv_if_lt (tgt := 9) hx hb dX5_outside_1 (by decide) (fun (c_1 : x0 < 0) => ?_) (fun (c_1 : ¬ x0 < 0) => ?_)
  · rw [if_pos c_1] at h
    refine lv_iconst (v := 1) hx hb dX5_outside_9 (by decide) ?_
    refine lv_goto (tgt := 14) hx hb dX5_outside_10 (by decide) ?_
    exact m_sz hx hb hr hlk (Or.inr rfl) h dX5_outside_14
  · rw [if_neg c_1] at h
    refine lv_iload_n hx hb dX5_outside_4 rfl (lv_at hl 0 rfl) ?_
    refine lv_iload_n hx hb dX5_outside_5 rfl (lv_at hl 1 rfl) ?_
    refine lv_icmp_le (tgt := 13) hx hb dX5_outside_6 (by decide) (fun (c_2 : x0 ≤ x1) => ?_) (fun (c_2 : ¬ x0 ≤ x1) => ?_)
    · rw [if_pos c_2] at h
      refine lv_iconst (v := 0) hx hb dX5_outside_13 (by decide) ?_
      exact m_sz hx hb hr hlk (Or.inl rfl) h dX5_outside_14
    · rw [if_neg c_2] at h
      refine lv_iconst (v := 1) hx hb dX5_outside_9 (by decide) ?_
      refine lv_goto (tgt := 14) hx hb dX5_outside_10 (by decide) ?_
      exact m_sz hx hb hr hlk (Or.inr rfl) h dX5_outside_14
def f_X5_mostOf (x0 : Int32) : Int32 := (if x0 = 0 then 6 else (if x0 = 1 then 11 else (if x0 = 2 then 999 else (if x0 = 3 then 99 else (if x0 = 4 then 9999 else (-1))))))
set_option maxHeartbeats 4000000 in
set_option maxRecDepth 100000 in
theorem k_X5_mostOf (l : Launch) (x0 : Int32) : Met l yX5_mostOf (Cond.code yX5_mostOf cX5_mostOf 1 (some .int) :: TB) ({ frames := 0, cells := 0, slots := 0, locals := 0 } : Room) (PN [.int x0]) (SI (f_X5_mostOf x0)) 0 0 NF := by
  generalize h : f_X5_mostOf x0 = q
  refine M_ofZ (by decide) (Nat.le_of_ble_eq_true rfl) (fun p e s m below meth c ls C0 hb hml hr hlk hl => ?_)
  have C0 : CT0 p s _ m RX5 := C0
  have hx := C0.1
  have hts := C0.2.1
  have hown := C0.2.2
  have hl : lv_has ls 1 [(0, .int x0)] := hl
  unfold f_X5_mostOf at h
  refine lv_iload_n hx hb dX5_mostOf_0 rfl (lv_at hl 0 rfl) ?_
  by_cases c_1 : x0 = 0
  · rw [if_pos c_1] at h
    refine lv_tableIn (off := 35) (tgt := 36) hx hb dX5_mostOf_1 (by rw [c_1]; decide) (by rw [c_1]; decide) (by rw [c_1]; rfl) (by decide) ?_
    refine lv_bipush (v := 6) hx hb dX5_mostOf_36 (by decide) ?_
    exact m_si hx hb hr hlk h dX5_mostOf_38
  · rw [if_neg c_1] at h
    by_cases c_2 : x0 = 1
    · rw [if_pos c_2] at h
      refine lv_tableIn (off := 38) (tgt := 39) hx hb dX5_mostOf_1 (by rw [c_2]; decide) (by rw [c_2]; decide) (by rw [c_2]; rfl) (by decide) ?_
      refine lv_bipush (v := 11) hx hb dX5_mostOf_39 (by decide) ?_
      exact m_si hx hb hr hlk h dX5_mostOf_41
    · rw [if_neg c_2] at h
      by_cases c_3 : x0 = 2
      · rw [if_pos c_3] at h
        refine lv_tableIn (off := 41) (tgt := 42) hx hb dX5_mostOf_1 (by rw [c_3]; decide) (by rw [c_3]; decide) (by rw [c_3]; rfl) (by decide) ?_
        refine lv_sipush (v := 999) hx hb dX5_mostOf_42 (by decide) ?_
        exact m_si hx hb hr hlk h dX5_mostOf_45
      · rw [if_neg c_3] at h
        by_cases c_4 : x0 = 3
        · rw [if_pos c_4] at h
          refine lv_tableIn (off := 45) (tgt := 46) hx hb dX5_mostOf_1 (by rw [c_4]; decide) (by rw [c_4]; decide) (by rw [c_4]; rfl) (by decide) ?_
          refine lv_bipush (v := 99) hx hb dX5_mostOf_46 (by decide) ?_
          exact m_si hx hb hr hlk h dX5_mostOf_48
        · rw [if_neg c_4] at h
          by_cases c_5 : x0 = 4
          · rw [if_pos c_5] at h
            refine lv_tableIn (off := 48) (tgt := 49) hx hb dX5_mostOf_1 (by rw [c_5]; decide) (by rw [c_5]; decide) (by rw [c_5]; rfl) (by decide) ?_
            refine lv_sipush (v := 9999) hx hb dX5_mostOf_49 (by decide) ?_
            exact m_si hx hb hr hlk h dX5_mostOf_52
          · rw [if_neg c_5] at h
            refine lv_tableOut (tgt := 53) hx hb dX5_mostOf_1 (by have t0 := lv_neT c_1 (a := 0) rfl; have t1 := lv_neT c_2 (a := 1) rfl; have t2 := lv_neT c_3 (a := 2) rfl; have t3 := lv_neT c_4 (a := 3) rfl; have t4 := lv_neT c_5 (a := 4) rfl; omega) (by decide) ?_
            refine lv_iconst (v := (-1)) hx hb dX5_mostOf_53 (by decide) ?_
            exact m_si hx hb hr hlk h dX5_mostOf_54
def f_J6_numberOfTrailingZeros_0f7a4_J62 (x1_6 : Int32) (x0_7 : Int32) : Int32 := (if x0_7 ≤ 4 then x1_6 + (jus x0_7 1) else (x1_6 + 2) + (jus (jus x0_7 2) 1))
def f_J6_numberOfTrailingZeros_0f7a4_J49 (x1_4 : Int32) (x0_5 : Int32) : Int32 := (if x0_5 ≤ 16 then (f_J6_numberOfTrailingZeros_0f7a4_J62 x1_4 x0_5) else (f_J6_numberOfTrailingZeros_0f7a4_J62 (x1_4 + 4) (jus x0_5 4)))
def f_J6_numberOfTrailingZeros_0f7a4_J34 (x1_2 : Int32) (x0_3 : Int32) : Int32 := (if x0_3 ≤ 256 then (f_J6_numberOfTrailingZeros_0f7a4_J49 x1_2 x0_3) else (f_J6_numberOfTrailingZeros_0f7a4_J49 (x1_2 + 8) (jus x0_3 8)))
def f_J6_numberOfTrailingZeros_0f7a4 (x0 : Int32) : Int32 := (if 0 < ((x0 ^^^ (-1)) &&& (x0 - 1)) then (if ((x0 ^^^ (-1)) &&& (x0 - 1)) ≤ 65536 then (f_J6_numberOfTrailingZeros_0f7a4_J34 1 ((x0 ^^^ (-1)) &&& (x0 - 1))) else (f_J6_numberOfTrailingZeros_0f7a4_J34 (1 + 16) (jus ((x0 ^^^ (-1)) &&& (x0 - 1)) 16))) else ((x0 ^^^ (-1)) &&& (x0 - 1)) &&& 32)
set_option maxHeartbeats 4000000 in
set_option maxRecDepth 100000 in
theorem k_J6_numberOfTrailingZeros_0f7a4 (l : Launch) (x0 : Int32) : Met l yJ6_numberOfTrailingZeros_0f7a4 (Cond.code yJ6_numberOfTrailingZeros_0f7a4 cJ6_numberOfTrailingZeros_0f7a4 2 (some .int) :: TB) ({ frames := 0, cells := 0, slots := 0, locals := 0 } : Room) (PN [.int x0]) (SI (f_J6_numberOfTrailingZeros_0f7a4 x0)) 0 0 NF := by
  generalize h : f_J6_numberOfTrailingZeros_0f7a4 x0 = q
  refine M_ofZ (by decide) (Nat.le_of_ble_eq_true rfl) (fun p e s m below meth c ls C0 hb hml hr hlk hl => ?_)
  have C0 : CT0 p s _ m RJ6 := C0
  have hx := C0.1
  have hts := C0.2.1
  have hown := C0.2.2
  have hl : lv_has ls 2 [(0, .int x0)] := hl
  unfold f_J6_numberOfTrailingZeros_0f7a4 at h
  refine lv_iload_n hx hb dJ6_numberOfTrailingZeros_0f7a4_0 rfl (lv_at hl 0 rfl) ?_
  refine lv_iconst (v := (-1)) hx hb dJ6_numberOfTrailingZeros_0f7a4_1 (by decide) ?_
  refine lv_ixor hx hb dJ6_numberOfTrailingZeros_0f7a4_2 ?_
  refine lv_iload_n hx hb dJ6_numberOfTrailingZeros_0f7a4_3 rfl (lv_at hl 0 rfl) ?_
  refine lv_iconst (v := 1) hx hb dJ6_numberOfTrailingZeros_0f7a4_4 (by decide) ?_
  refine lv_isub hx hb dJ6_numberOfTrailingZeros_0f7a4_5 ?_
  refine lv_iand hx hb dJ6_numberOfTrailingZeros_0f7a4_6 ?_
  refine lv_istore_n (lv' := [(0, .int ((x0 ^^^ (-1)) &&& (x0 - 1)))]) hx hb dJ6_numberOfTrailingZeros_0f7a4_7 rfl hl (by decide) rfl (fun ls hl => ?_)
  refine lv_iload_n hx hb dJ6_numberOfTrailingZeros_0f7a4_8 rfl (lv_at hl 0 rfl) ?_
  refine lv_if_gt (tgt := 17) hx hb dJ6_numberOfTrailingZeros_0f7a4_9 (by decide) (fun (c_1 : 0 < ((x0 ^^^ (-1)) &&& (x0 - 1))) => ?_) (fun (c_1 : ¬ 0 < ((x0 ^^^ (-1)) &&& (x0 - 1))) => ?_)
  · rw [if_pos c_1] at h
    refine lv_iconst (v := 1) hx hb dJ6_numberOfTrailingZeros_0f7a4_17 (by decide) ?_
    refine lv_istore_n (lv' := [(1, .int 1), (0, .int ((x0 ^^^ (-1)) &&& (x0 - 1)))]) hx hb dJ6_numberOfTrailingZeros_0f7a4_18 rfl hl (by decide) rfl (fun ls hl => ?_)
    refine lv_iload_n hx hb dJ6_numberOfTrailingZeros_0f7a4_19 rfl (lv_at hl 1 rfl) ?_
    refine lv_ldcw hx hb hown (hts _ wk_J6_264) dJ6_numberOfTrailingZeros_0f7a4_20 ?_
    have J_13 : ∀ (x1_2 : Int32) (x0_3 : Int32) (ls : Array Slot), f_J6_numberOfTrailingZeros_0f7a4_J34 x1_2 x0_3 = q → lv_has ls 2 [(1, .int x1_2), (0, .int x0_3)] → W p l e ({ frames := 0, cells := 0, slots := 0, locals := 0 } : Room) s m ([.int x0] : List Value).toArray below meth c s.heap [] 0 0 (MQ below (SI q) ([.int x0] : List Value).toArray s 0 0 NF) (F0 m 34 ls []) := by
      intro x1_2 x0_3 ls h hl
      unfold f_J6_numberOfTrailingZeros_0f7a4_J34 at h
      refine lv_iload_n hx hb dJ6_numberOfTrailingZeros_0f7a4_34 rfl (lv_at hl 1 rfl) ?_
      refine lv_sipush (v := 256) hx hb dJ6_numberOfTrailingZeros_0f7a4_35 (by decide) ?_
      have J_11 : ∀ (x1_4 : Int32) (x0_5 : Int32) (ls : Array Slot), f_J6_numberOfTrailingZeros_0f7a4_J49 x1_4 x0_5 = q → lv_has ls 2 [(1, .int x1_4), (0, .int x0_5)] → W p l e ({ frames := 0, cells := 0, slots := 0, locals := 0 } : Room) s m ([.int x0] : List Value).toArray below meth c s.heap [] 0 0 (MQ below (SI q) ([.int x0] : List Value).toArray s 0 0 NF) (F0 m 49 ls []) := by
        intro x1_4 x0_5 ls h hl
        unfold f_J6_numberOfTrailingZeros_0f7a4_J49 at h
        refine lv_iload_n hx hb dJ6_numberOfTrailingZeros_0f7a4_49 rfl (lv_at hl 1 rfl) ?_
        refine lv_bipush (v := 16) hx hb dJ6_numberOfTrailingZeros_0f7a4_50 (by decide) ?_
        have J_9 : ∀ (x1_6 : Int32) (x0_7 : Int32) (ls : Array Slot), f_J6_numberOfTrailingZeros_0f7a4_J62 x1_6 x0_7 = q → lv_has ls 2 [(1, .int x1_6), (0, .int x0_7)] → W p l e ({ frames := 0, cells := 0, slots := 0, locals := 0 } : Room) s m ([.int x0] : List Value).toArray below meth c s.heap [] 0 0 (MQ below (SI q) ([.int x0] : List Value).toArray s 0 0 NF) (F0 m 62 ls []) := by
          intro x1_6 x0_7 ls h hl
          unfold f_J6_numberOfTrailingZeros_0f7a4_J62 at h
          refine lv_iload_n hx hb dJ6_numberOfTrailingZeros_0f7a4_62 rfl (lv_at hl 1 rfl) ?_
          refine lv_iconst (v := 4) hx hb dJ6_numberOfTrailingZeros_0f7a4_63 (by decide) ?_
          refine lv_icmp_le (tgt := 74) hx hb dJ6_numberOfTrailingZeros_0f7a4_64 (by decide) (fun (c_8 : x0_7 ≤ 4) => ?_) (fun (c_8 : ¬ x0_7 ≤ 4) => ?_)
          · rw [if_pos c_8] at h
            refine lv_iload_n hx hb dJ6_numberOfTrailingZeros_0f7a4_74 rfl (lv_at hl 0 rfl) ?_
            refine lv_iload_n hx hb dJ6_numberOfTrailingZeros_0f7a4_75 rfl (lv_at hl 1 rfl) ?_
            refine lv_iconst (v := 1) hx hb dJ6_numberOfTrailingZeros_0f7a4_76 (by decide) ?_
            refine lv_iushr (v := jus x0_7 1) hx hb dJ6_numberOfTrailingZeros_0f7a4_77 rfl ?_
            refine lv_iadd hx hb dJ6_numberOfTrailingZeros_0f7a4_78 ?_
            exact m_si hx hb hr hlk h dJ6_numberOfTrailingZeros_0f7a4_79
          · rw [if_neg c_8] at h
            refine lv_iinc (v := x1_6 + 2) (lv' := [(1, .int (x1_6 + 2)), (0, .int x0_7)]) hx hb dJ6_numberOfTrailingZeros_0f7a4_67 hl (k := 0) rfl rfl (by decide) rfl (fun ls hl => ?_)
            refine lv_iload_n hx hb dJ6_numberOfTrailingZeros_0f7a4_70 rfl (lv_at hl 1 rfl) ?_
            refine lv_iconst (v := 2) hx hb dJ6_numberOfTrailingZeros_0f7a4_71 (by decide) ?_
            refine lv_iushr (v := jus x0_7 2) hx hb dJ6_numberOfTrailingZeros_0f7a4_72 rfl ?_
            refine lv_istore_n (lv' := [(0, .int (jus x0_7 2)), (1, .int (x1_6 + 2))]) hx hb dJ6_numberOfTrailingZeros_0f7a4_73 rfl hl (by decide) rfl (fun ls hl => ?_)
            refine lv_iload_n hx hb dJ6_numberOfTrailingZeros_0f7a4_74 rfl (lv_at hl 1 rfl) ?_
            refine lv_iload_n hx hb dJ6_numberOfTrailingZeros_0f7a4_75 rfl (lv_at hl 0 rfl) ?_
            refine lv_iconst (v := 1) hx hb dJ6_numberOfTrailingZeros_0f7a4_76 (by decide) ?_
            refine lv_iushr (v := jus (jus x0_7 2) 1) hx hb dJ6_numberOfTrailingZeros_0f7a4_77 rfl ?_
            refine lv_iadd hx hb dJ6_numberOfTrailingZeros_0f7a4_78 ?_
            exact m_si hx hb hr hlk h dJ6_numberOfTrailingZeros_0f7a4_79
        refine lv_icmp_le (tgt := 62) hx hb dJ6_numberOfTrailingZeros_0f7a4_52 (by decide) (fun (c_10 : x0_5 ≤ 16) => ?_) (fun (c_10 : ¬ x0_5 ≤ 16) => ?_)
        · rw [if_pos c_10] at h
          exact J_9 x1_4 x0_5 _ h (lv_sub hl [0, 1] rfl)
        · rw [if_neg c_10] at h
          refine lv_iinc (v := x1_4 + 4) (lv' := [(1, .int (x1_4 + 4)), (0, .int x0_5)]) hx hb dJ6_numberOfTrailingZeros_0f7a4_55 hl (k := 0) rfl rfl (by decide) rfl (fun ls hl => ?_)
          refine lv_iload_n hx hb dJ6_numberOfTrailingZeros_0f7a4_58 rfl (lv_at hl 1 rfl) ?_
          refine lv_iconst (v := 4) hx hb dJ6_numberOfTrailingZeros_0f7a4_59 (by decide) ?_
          refine lv_iushr (v := jus x0_5 4) hx hb dJ6_numberOfTrailingZeros_0f7a4_60 rfl ?_
          refine lv_istore_n (lv' := [(0, .int (jus x0_5 4)), (1, .int (x1_4 + 4))]) hx hb dJ6_numberOfTrailingZeros_0f7a4_61 rfl hl (by decide) rfl (fun ls hl => ?_)
          exact J_9 (x1_4 + 4) (jus x0_5 4) _ h (lv_sub hl [1, 0] rfl)
      refine lv_icmp_le (tgt := 49) hx hb dJ6_numberOfTrailingZeros_0f7a4_38 (by decide) (fun (c_12 : x0_3 ≤ 256) => ?_) (fun (c_12 : ¬ x0_3 ≤ 256) => ?_)
      · rw [if_pos c_12] at h
        exact J_11 x1_2 x0_3 _ h (lv_sub hl [0, 1] rfl)
      · rw [if_neg c_12] at h
        refine lv_iinc (v := x1_2 + 8) (lv' := [(1, .int (x1_2 + 8)), (0, .int x0_3)]) hx hb dJ6_numberOfTrailingZeros_0f7a4_41 hl (k := 0) rfl rfl (by decide) rfl (fun ls hl => ?_)
        refine lv_iload_n hx hb dJ6_numberOfTrailingZeros_0f7a4_44 rfl (lv_at hl 1 rfl) ?_
        refine lv_bipush (v := 8) hx hb dJ6_numberOfTrailingZeros_0f7a4_45 (by decide) ?_
        refine lv_iushr (v := jus x0_3 8) hx hb dJ6_numberOfTrailingZeros_0f7a4_47 rfl ?_
        refine lv_istore_n (lv' := [(0, .int (jus x0_3 8)), (1, .int (x1_2 + 8))]) hx hb dJ6_numberOfTrailingZeros_0f7a4_48 rfl hl (by decide) rfl (fun ls hl => ?_)
        exact J_11 (x1_2 + 8) (jus x0_3 8) _ h (lv_sub hl [1, 0] rfl)
    refine lv_icmp_le (tgt := 34) hx hb dJ6_numberOfTrailingZeros_0f7a4_23 (by decide) (fun (c_14 : ((x0 ^^^ (-1)) &&& (x0 - 1)) ≤ 65536) => ?_) (fun (c_14 : ¬ ((x0 ^^^ (-1)) &&& (x0 - 1)) ≤ 65536) => ?_)
    · rw [if_pos c_14] at h
      exact J_13 1 ((x0 ^^^ (-1)) &&& (x0 - 1)) _ h (lv_sub hl [0, 1] rfl)
    · rw [if_neg c_14] at h
      refine lv_iinc (v := 1 + 16) (lv' := [(1, .int (1 + 16)), (0, .int ((x0 ^^^ (-1)) &&& (x0 - 1)))]) hx hb dJ6_numberOfTrailingZeros_0f7a4_26 hl (k := 0) rfl rfl (by decide) rfl (fun ls hl => ?_)
      refine lv_iload_n hx hb dJ6_numberOfTrailingZeros_0f7a4_29 rfl (lv_at hl 1 rfl) ?_
      refine lv_bipush (v := 16) hx hb dJ6_numberOfTrailingZeros_0f7a4_30 (by decide) ?_
      refine lv_iushr (v := jus ((x0 ^^^ (-1)) &&& (x0 - 1)) 16) hx hb dJ6_numberOfTrailingZeros_0f7a4_32 rfl ?_
      refine lv_istore_n (lv' := [(0, .int (jus ((x0 ^^^ (-1)) &&& (x0 - 1)) 16)), (1, .int (1 + 16))]) hx hb dJ6_numberOfTrailingZeros_0f7a4_33 rfl hl (by decide) rfl (fun ls hl => ?_)
      exact J_13 (1 + 16) (jus ((x0 ^^^ (-1)) &&& (x0 - 1)) 16) _ h (lv_sub hl [1, 0] rfl)
  · rw [if_neg c_1] at h
    refine lv_iload_n hx hb dJ6_numberOfTrailingZeros_0f7a4_12 rfl (lv_at hl 0 rfl) ?_
    refine lv_bipush (v := 32) hx hb dJ6_numberOfTrailingZeros_0f7a4_13 (by decide) ?_
    refine lv_iand hx hb dJ6_numberOfTrailingZeros_0f7a4_15 ?_
    exact m_si hx hb hr hlk h dJ6_numberOfTrailingZeros_0f7a4_16
def f_J6_bitCount_0f7a4 (x0 : Int32) : Int32 := (((((((x0 - ((jus x0 1) &&& 1431655765)) &&& 858993459) + ((jus (x0 - ((jus x0 1) &&& 1431655765)) 2) &&& 858993459)) + (jus (((x0 - ((jus x0 1) &&& 1431655765)) &&& 858993459) + ((jus (x0 - ((jus x0 1) &&& 1431655765)) 2) &&& 858993459)) 4)) &&& 252645135) + (jus (((((x0 - ((jus x0 1) &&& 1431655765)) &&& 858993459) + ((jus (x0 - ((jus x0 1) &&& 1431655765)) 2) &&& 858993459)) + (jus (((x0 - ((jus x0 1) &&& 1431655765)) &&& 858993459) + ((jus (x0 - ((jus x0 1) &&& 1431655765)) 2) &&& 858993459)) 4)) &&& 252645135) 8)) + (jus ((((((x0 - ((jus x0 1) &&& 1431655765)) &&& 858993459) + ((jus (x0 - ((jus x0 1) &&& 1431655765)) 2) &&& 858993459)) + (jus (((x0 - ((jus x0 1) &&& 1431655765)) &&& 858993459) + ((jus (x0 - ((jus x0 1) &&& 1431655765)) 2) &&& 858993459)) 4)) &&& 252645135) + (jus (((((x0 - ((jus x0 1) &&& 1431655765)) &&& 858993459) + ((jus (x0 - ((jus x0 1) &&& 1431655765)) 2) &&& 858993459)) + (jus (((x0 - ((jus x0 1) &&& 1431655765)) &&& 858993459) + ((jus (x0 - ((jus x0 1) &&& 1431655765)) 2) &&& 858993459)) 4)) &&& 252645135) 8)) 16)) &&& 63
set_option maxHeartbeats 4000000 in
set_option maxRecDepth 100000 in
theorem k_J6_bitCount_0f7a4 (l : Launch) (x0 : Int32) : Met l yJ6_bitCount_0f7a4 (Cond.code yJ6_bitCount_0f7a4 cJ6_bitCount_0f7a4 1 (some .int) :: TB) ({ frames := 0, cells := 0, slots := 0, locals := 0 } : Room) (PN [.int x0]) (SI (f_J6_bitCount_0f7a4 x0)) 0 0 NF := by
  generalize h : f_J6_bitCount_0f7a4 x0 = q
  refine M_ofZ (by decide) (Nat.le_of_ble_eq_true rfl) (fun p e s m below meth c ls C0 hb hml hr hlk hl => ?_)
  have C0 : CT0 p s _ m RJ6 := C0
  have hx := C0.1
  have hts := C0.2.1
  have hown := C0.2.2
  have hl : lv_has ls 1 [(0, .int x0)] := hl
  unfold f_J6_bitCount_0f7a4 at h
  refine lv_iload_n hx hb dJ6_bitCount_0f7a4_0 rfl (lv_at hl 0 rfl) ?_
  refine lv_iload_n hx hb dJ6_bitCount_0f7a4_1 rfl (lv_at hl 0 rfl) ?_
  refine lv_iconst (v := 1) hx hb dJ6_bitCount_0f7a4_2 (by decide) ?_
  refine lv_iushr (v := jus x0 1) hx hb dJ6_bitCount_0f7a4_3 rfl ?_
  refine lv_ldcw hx hb hown (hts _ wk_J6_265) dJ6_bitCount_0f7a4_4 ?_
  refine lv_iand hx hb dJ6_bitCount_0f7a4_7 ?_
  refine lv_isub hx hb dJ6_bitCount_0f7a4_8 ?_
  refine lv_istore_n (lv' := [(0, .int (x0 - ((jus x0 1) &&& 1431655765)))]) hx hb dJ6_bitCount_0f7a4_9 rfl hl (by decide) rfl (fun ls hl => ?_)
  refine lv_iload_n hx hb dJ6_bitCount_0f7a4_10 rfl (lv_at hl 0 rfl) ?_
  refine lv_ldcw hx hb hown (hts _ wk_J6_266) dJ6_bitCount_0f7a4_11 ?_
  refine lv_iand hx hb dJ6_bitCount_0f7a4_14 ?_
  refine lv_iload_n hx hb dJ6_bitCount_0f7a4_15 rfl (lv_at hl 0 rfl) ?_
  refine lv_iconst (v := 2) hx hb dJ6_bitCount_0f7a4_16 (by decide) ?_
  refine lv_iushr (v := jus (x0 - ((jus x0 1) &&& 1431655765)) 2) hx hb dJ6_bitCount_0f7a4_17 rfl ?_
  refine lv_ldcw hx hb hown (hts _ wk_J6_266) dJ6_bitCount_0f7a4_18 ?_
  refine lv_iand hx hb dJ6_bitCount_0f7a4_21 ?_
  refine lv_iadd hx hb dJ6_bitCount_0f7a4_22 ?_
  refine lv_istore_n (lv' := [(0, .int (((x0 - ((jus x0 1) &&& 1431655765)) &&& 858993459) + ((jus (x0 - ((jus x0 1) &&& 1431655765)) 2) &&& 858993459)))]) hx hb dJ6_bitCount_0f7a4_23 rfl hl (by decide) rfl (fun ls hl => ?_)
  refine lv_iload_n hx hb dJ6_bitCount_0f7a4_24 rfl (lv_at hl 0 rfl) ?_
  refine lv_iload_n hx hb dJ6_bitCount_0f7a4_25 rfl (lv_at hl 0 rfl) ?_
  refine lv_iconst (v := 4) hx hb dJ6_bitCount_0f7a4_26 (by decide) ?_
  refine lv_iushr (v := jus (((x0 - ((jus x0 1) &&& 1431655765)) &&& 858993459) + ((jus (x0 - ((jus x0 1) &&& 1431655765)) 2) &&& 858993459)) 4) hx hb dJ6_bitCount_0f7a4_27 rfl ?_
  refine lv_iadd hx hb dJ6_bitCount_0f7a4_28 ?_
  refine lv_ldcw hx hb hown (hts _ wk_J6_267) dJ6_bitCount_0f7a4_29 ?_
  refine lv_iand hx hb dJ6_bitCount_0f7a4_32 ?_
  refine lv_istore_n (lv' := [(0, .int (((((x0 - ((jus x0 1) &&& 1431655765)) &&& 858993459) + ((jus (x0 - ((jus x0 1) &&& 1431655765)) 2) &&& 858993459)) + (jus (((x0 - ((jus x0 1) &&& 1431655765)) &&& 858993459) + ((jus (x0 - ((jus x0 1) &&& 1431655765)) 2) &&& 858993459)) 4)) &&& 252645135))]) hx hb dJ6_bitCount_0f7a4_33 rfl hl (by decide) rfl (fun ls hl => ?_)
  refine lv_iload_n hx hb dJ6_bitCount_0f7a4_34 rfl (lv_at hl 0 rfl) ?_
  refine lv_iload_n hx hb dJ6_bitCount_0f7a4_35 rfl (lv_at hl 0 rfl) ?_
  refine lv_bipush (v := 8) hx hb dJ6_bitCount_0f7a4_36 (by decide) ?_
  refine lv_iushr (v := jus (((((x0 - ((jus x0 1) &&& 1431655765)) &&& 858993459) + ((jus (x0 - ((jus x0 1) &&& 1431655765)) 2) &&& 858993459)) + (jus (((x0 - ((jus x0 1) &&& 1431655765)) &&& 858993459) + ((jus (x0 - ((jus x0 1) &&& 1431655765)) 2) &&& 858993459)) 4)) &&& 252645135) 8) hx hb dJ6_bitCount_0f7a4_38 rfl ?_
  refine lv_iadd hx hb dJ6_bitCount_0f7a4_39 ?_
  refine lv_istore_n (lv' := [(0, .int ((((((x0 - ((jus x0 1) &&& 1431655765)) &&& 858993459) + ((jus (x0 - ((jus x0 1) &&& 1431655765)) 2) &&& 858993459)) + (jus (((x0 - ((jus x0 1) &&& 1431655765)) &&& 858993459) + ((jus (x0 - ((jus x0 1) &&& 1431655765)) 2) &&& 858993459)) 4)) &&& 252645135) + (jus (((((x0 - ((jus x0 1) &&& 1431655765)) &&& 858993459) + ((jus (x0 - ((jus x0 1) &&& 1431655765)) 2) &&& 858993459)) + (jus (((x0 - ((jus x0 1) &&& 1431655765)) &&& 858993459) + ((jus (x0 - ((jus x0 1) &&& 1431655765)) 2) &&& 858993459)) 4)) &&& 252645135) 8)))]) hx hb dJ6_bitCount_0f7a4_40 rfl hl (by decide) rfl (fun ls hl => ?_)
  refine lv_iload_n hx hb dJ6_bitCount_0f7a4_41 rfl (lv_at hl 0 rfl) ?_
  refine lv_iload_n hx hb dJ6_bitCount_0f7a4_42 rfl (lv_at hl 0 rfl) ?_
  refine lv_bipush (v := 16) hx hb dJ6_bitCount_0f7a4_43 (by decide) ?_
  refine lv_iushr (v := jus ((((((x0 - ((jus x0 1) &&& 1431655765)) &&& 858993459) + ((jus (x0 - ((jus x0 1) &&& 1431655765)) 2) &&& 858993459)) + (jus (((x0 - ((jus x0 1) &&& 1431655765)) &&& 858993459) + ((jus (x0 - ((jus x0 1) &&& 1431655765)) 2) &&& 858993459)) 4)) &&& 252645135) + (jus (((((x0 - ((jus x0 1) &&& 1431655765)) &&& 858993459) + ((jus (x0 - ((jus x0 1) &&& 1431655765)) 2) &&& 858993459)) + (jus (((x0 - ((jus x0 1) &&& 1431655765)) &&& 858993459) + ((jus (x0 - ((jus x0 1) &&& 1431655765)) 2) &&& 858993459)) 4)) &&& 252645135) 8)) 16) hx hb dJ6_bitCount_0f7a4_45 rfl ?_
  refine lv_iadd hx hb dJ6_bitCount_0f7a4_46 ?_
  refine lv_istore_n (lv' := [(0, .int (((((((x0 - ((jus x0 1) &&& 1431655765)) &&& 858993459) + ((jus (x0 - ((jus x0 1) &&& 1431655765)) 2) &&& 858993459)) + (jus (((x0 - ((jus x0 1) &&& 1431655765)) &&& 858993459) + ((jus (x0 - ((jus x0 1) &&& 1431655765)) 2) &&& 858993459)) 4)) &&& 252645135) + (jus (((((x0 - ((jus x0 1) &&& 1431655765)) &&& 858993459) + ((jus (x0 - ((jus x0 1) &&& 1431655765)) 2) &&& 858993459)) + (jus (((x0 - ((jus x0 1) &&& 1431655765)) &&& 858993459) + ((jus (x0 - ((jus x0 1) &&& 1431655765)) 2) &&& 858993459)) 4)) &&& 252645135) 8)) + (jus ((((((x0 - ((jus x0 1) &&& 1431655765)) &&& 858993459) + ((jus (x0 - ((jus x0 1) &&& 1431655765)) 2) &&& 858993459)) + (jus (((x0 - ((jus x0 1) &&& 1431655765)) &&& 858993459) + ((jus (x0 - ((jus x0 1) &&& 1431655765)) 2) &&& 858993459)) 4)) &&& 252645135) + (jus (((((x0 - ((jus x0 1) &&& 1431655765)) &&& 858993459) + ((jus (x0 - ((jus x0 1) &&& 1431655765)) 2) &&& 858993459)) + (jus (((x0 - ((jus x0 1) &&& 1431655765)) &&& 858993459) + ((jus (x0 - ((jus x0 1) &&& 1431655765)) 2) &&& 858993459)) 4)) &&& 252645135) 8)) 16)))]) hx hb dJ6_bitCount_0f7a4_47 rfl hl (by decide) rfl (fun ls hl => ?_)
  refine lv_iload_n hx hb dJ6_bitCount_0f7a4_48 rfl (lv_at hl 0 rfl) ?_
  refine lv_bipush (v := 63) hx hb dJ6_bitCount_0f7a4_49 (by decide) ?_
  refine lv_iand hx hb dJ6_bitCount_0f7a4_51 ?_
  exact m_si hx hb hr hlk h dJ6_bitCount_0f7a4_52
def f_X5_commonDivisor_J18 (x2_2 : Int32) (rec4 : Int32 → Int32 → Option (Int32)) (x1_5 : Int32) : Option (Int32) := (rec4 x1_5 (x2_2 * 2))
def f_X5_commonDivisor_B4 (x0 : Int32) (rec4 : Int32 → Int32 → Option (Int32)) (x1_1 : Int32) (x2_2 : Int32) : Option (Int32) := (if 8 < x2_2 then some x1_1 else (cnz x2_2 (f_X5_commonDivisor_J18 x2_2 rec4 (if (jrem x0 x2_2) = 0 then x2_2 else x1_1))))
def f_X5_commonDivisor (x0 : Int32) : Option (Int32) := (it2 (f_X5_commonDivisor_B4 x0) FU 1 2)
set_option maxHeartbeats 4000000 in
set_option maxRecDepth 100000 in
theorem k_X5_commonDivisor (l : Launch) (x0 : Int32) (q : Int32) (h : f_X5_commonDivisor x0 = some q) : Met l yX5_commonDivisor (Cond.code yX5_commonDivisor cX5_commonDivisor 3 (some .int) :: TB) ({ frames := 0, cells := 0, slots := 0, locals := 0 } : Room) (PN [.int x0]) (SI q) 0 0 NF := by
  refine M_ofZ (by decide) (Nat.le_of_ble_eq_true rfl) (fun p e s m below meth c ls C0 hb hml hr hlk hl => ?_)
  have C0 : CT0 p s _ m RX5 := C0
  have hx := C0.1
  have hts := C0.2.1
  have hown := C0.2.2
  have hl : lv_has ls 3 [(0, .int x0)] := hl
  unfold f_X5_commonDivisor at h
  refine lv_iconst (v := 1) hx hb dX5_commonDivisor_0 (by decide) ?_
  refine lv_istore_n (lv' := [(1, .int 1), (0, .int x0)]) hx hb dX5_commonDivisor_1 rfl hl (by decide) rfl (fun ls hl => ?_)
  refine lv_iconst (v := 2) hx hb dX5_commonDivisor_2 (by decide) ?_
  refine lv_istore_n (lv' := [(2, .int 2), (1, .int 1), (0, .int x0)]) hx hb dX5_commonDivisor_3 rfl hl (by decide) rfl (fun ls hl => ?_)
  have L_8 : ∀ (fu4 : Nat) (x1_1 : Int32) (x2_2 : Int32) (ls : Array Slot), it2 (f_X5_commonDivisor_B4 x0) fu4 x1_1 x2_2 = some q → lv_has ls 3 [(2, .int x2_2), (1, .int x1_1), (0, .int x0)] → W p l e ({ frames := 0, cells := 0, slots := 0, locals := 0 } : Room) s m ([.int x0] : List Value).toArray below meth c s.heap [] 0 0 (MQ below (SI q) ([.int x0] : List Value).toArray s 0 0 NF) (F0 m 4 ls []) := by
    intro fu4
    induction fu4 with
    | zero =>
      intro x1_1 x2_2 ls h
      cases h
    | succ fu4 ih4 =>
      intro x1_1 x2_2 ls h hl
      replace h : (f_X5_commonDivisor_B4 x0) (it2 (f_X5_commonDivisor_B4 x0) fu4) x1_1 x2_2 = some q := h
      generalize it2 (f_X5_commonDivisor_B4 x0) fu4 = rec4 at h ih4
      unfold f_X5_commonDivisor_B4 at h
      refine lv_iload_n hx hb dX5_commonDivisor_4 rfl (lv_at hl 0 rfl) ?_
      refine lv_bipush (v := 8) hx hb dX5_commonDivisor_5 (by decide) ?_
      refine lv_icmp_gt (tgt := 25) hx hb dX5_commonDivisor_7 (by decide) (fun (c_3 : 8 < x2_2) => ?_) (fun (c_3 : ¬ 8 < x2_2) => ?_)
      · rw [if_pos c_3] at h
        refine lv_iload_n hx hb dX5_commonDivisor_25 rfl (lv_at hl 1 rfl) ?_
        exact m_si hx hb hr hlk (Option.some.inj h) dX5_commonDivisor_26
      · rw [if_neg c_3] at h
        refine lv_iload_n hx hb dX5_commonDivisor_10 rfl (lv_at hl 2 rfl) ?_
        refine lv_iload_n hx hb dX5_commonDivisor_11 rfl (lv_at hl 0 rfl) ?_
        obtain ⟨hn_4, h⟩ := cnz_s h
        refine lv_irem hx hb dX5_commonDivisor_12 hn_4 ?_
        have J_6 : ∀ (x1_5 : Int32) (ls : Array Slot), f_X5_commonDivisor_J18 x2_2 rec4 x1_5 = some q → lv_has ls 3 [(2, .int x2_2), (1, .int x1_5), (0, .int x0)] → W p l e ({ frames := 0, cells := 0, slots := 0, locals := 0 } : Room) s m ([.int x0] : List Value).toArray below meth c s.heap [] 0 0 (MQ below (SI q) ([.int x0] : List Value).toArray s 0 0 NF) (F0 m 18 ls []) := by
          intro x1_5 ls h hl
          unfold f_X5_commonDivisor_J18 at h
          refine lv_iload_n hx hb dX5_commonDivisor_18 rfl (lv_at hl 0 rfl) ?_
          refine lv_iconst (v := 2) hx hb dX5_commonDivisor_19 (by decide) ?_
          refine lv_imul hx hb dX5_commonDivisor_20 ?_
          refine lv_istore_n (lv' := [(2, .int (x2_2 * 2)), (1, .int x1_5), (0, .int x0)]) hx hb dX5_commonDivisor_21 rfl hl (by decide) rfl (fun ls hl => ?_)
          refine lv_goto (tgt := 4) hx hb dX5_commonDivisor_22 (by decide) ?_
          exact ih4 x1_5 (x2_2 * 2) _ h (lv_sub hl [0, 1, 2] rfl)
        refine lv_if_ne (tgt := 18) hx hb dX5_commonDivisor_13 (by decide) (fun (c_7 : ¬ (jrem x0 x2_2) = 0) => ?_) (fun (c_7 : (jrem x0 x2_2) = 0) => ?_)
        · rw [if_neg c_7] at h
          exact J_6 x1_1 _ h (lv_sub hl [0, 1, 2] rfl)
        · rw [if_pos c_7] at h
          refine lv_iload_n hx hb dX5_commonDivisor_16 rfl (lv_at hl 0 rfl) ?_
          refine lv_istore_n (lv' := [(1, .int x2_2), (2, .int x2_2), (0, .int x0)]) hx hb dX5_commonDivisor_17 rfl hl (by decide) rfl (fun ls hl => ?_)
          exact J_6 x2_2 _ h (lv_sub hl [1, 0, 2] rfl)
  exact L_8 FU 1 2 _ h (lv_sub hl [0, 1, 2] rfl)
def f_X5_power_B5 (x0 : Int32) (x1 : Int32) (rec5 : Int64 → Int32 → Option (Int64)) (x2_1 : Int64) (x4_2 : Int32) : Option (Int64) := (if x1 ≤ x4_2 then some x2_1 else (rec5 (x2_1 * x0.toInt64) (x4_2 + 1)))
def f_X5_power (x0 : Int32) (x1 : Int32) : Option (Int64) := (it2 (f_X5_power_B5 x0 x1) FU 1 0)
set_option maxHeartbeats 4000000 in
set_option maxRecDepth 100000 in
theorem k_X5_power (l : Launch) (x0 : Int32) (x1 : Int32) (q : Int64) (h : f_X5_power x0 x1 = some q) : Met l yX5_power (Cond.code yX5_power cX5_power 5 (some .long) :: TB) ({ frames := 0, cells := 0, slots := 0, locals := 0 } : Room) (PN [.int x0, .int x1]) (SL q) 0 0 NF := by
  refine M_ofZ (by decide) (Nat.le_of_ble_eq_true rfl) (fun p e s m below meth c ls C0 hb hml hr hlk hl => ?_)
  have C0 : CT0 p s _ m RX5 := C0
  have hx := C0.1
  have hts := C0.2.1
  have hown := C0.2.2
  have hl : lv_has ls 5 [(0, .int x0), (1, .int x1)] := hl
  unfold f_X5_power at h
  refine lv_lconst (v := 1) hx hb dX5_power_0 (by decide) ?_
  refine lv_lstore_n (lv' := [(2, .long 1), (0, .int x0), (1, .int x1)]) hx hb dX5_power_1 rfl hl (by decide) rfl (fun ls hl => ?_)
  refine lv_iconst (v := 0) hx hb dX5_power_2 (by decide) ?_
  refine lv_istore (lv' := [(4, .int 0), (2, .long 1), (0, .int x0), (1, .int x1)]) hx hb dX5_power_3 hl (by decide) rfl (fun ls hl => ?_)
  have L_4 : ∀ (fu5 : Nat) (x2_1 : Int64) (x4_2 : Int32) (ls : Array Slot), it2 (f_X5_power_B5 x0 x1) fu5 x2_1 x4_2 = some q → lv_has ls 5 [(4, .int x4_2), (2, .long x2_1), (0, .int x0), (1, .int x1)] → W p l e ({ frames := 0, cells := 0, slots := 0, locals := 0 } : Room) s m ([.int x0, .int x1] : List Value).toArray below meth c s.heap [] 0 0 (MQ below (SL q) ([.int x0, .int x1] : List Value).toArray s 0 0 NF) (F0 m 5 ls []) := by
    intro fu5
    induction fu5 with
    | zero =>
      intro x2_1 x4_2 ls h
      cases h
    | succ fu5 ih5 =>
      intro x2_1 x4_2 ls h hl
      replace h : (f_X5_power_B5 x0 x1) (it2 (f_X5_power_B5 x0 x1) fu5) x2_1 x4_2 = some q := h
      generalize it2 (f_X5_power_B5 x0 x1) fu5 = rec5 at h ih5
      unfold f_X5_power_B5 at h
      refine lv_iload hx hb dX5_power_5 (lv_at hl 0 rfl) ?_
      refine lv_iload_n hx hb dX5_power_7 rfl (lv_at hl 3 rfl) ?_
      refine lv_icmp_ge (tgt := 22) hx hb dX5_power_8 (by decide) (fun (c_3 : x1 ≤ x4_2) => ?_) (fun (c_3 : ¬ x1 ≤ x4_2) => ?_)
      · rw [if_pos c_3] at h
        refine lv_lload_n hx hb dX5_power_22 rfl (lv_at hl 1 rfl) ?_
        exact m_sl hx hb hr hlk (Option.some.inj h) dX5_power_23
      · rw [if_neg c_3] at h
        refine lv_lload_n hx hb dX5_power_11 rfl (lv_at hl 1 rfl) ?_
        refine lv_iload_n hx hb dX5_power_12 rfl (lv_at hl 2 rfl) ?_
        refine lv_i2l (v := x0.toInt64) hx hb dX5_power_13 rfl ?_
        refine lv_lmul hx hb dX5_power_14 ?_
        refine lv_lstore_n (lv' := [(2, .long (x2_1 * x0.toInt64)), (4, .int x4_2), (0, .int x0), (1, .int x1)]) hx hb dX5_power_15 rfl hl (by decide) rfl (fun ls hl => ?_)
        refine lv_iinc (v := x4_2 + 1) (lv' := [(4, .int (x4_2 + 1)), (2, .long (x2_1 * x0.toInt64)), (0, .int x0), (1, .int x1)]) hx hb dX5_power_16 hl (k := 1) rfl rfl (by decide) rfl (fun ls hl => ?_)
        refine lv_goto (tgt := 5) hx hb dX5_power_19 (by decide) ?_
        exact ih5 (x2_1 * x0.toInt64) (x4_2 + 1) _ h (lv_sub hl [0, 1, 2, 3] rfl)
  exact L_4 FU 1 0 _ h (lv_sub hl [0, 1, 2, 3] rfl)
def f_X0_tokenOf_J28 (x0 : Int32) : Int32 := (if x0 = 59 then 3 else 4)
def f_X0_tokenOf_J14 (x0 : Int32) : Int32 := (if x0 < 48 then (f_X0_tokenOf_J28 x0) else (if 57 < x0 then (f_X0_tokenOf_J28 x0) else 2))
def f_X0_tokenOf (x0 : Int32) : Int32 := (if x0 < 97 then (f_X0_tokenOf_J14 x0) else (if 122 < x0 then (f_X0_tokenOf_J14 x0) else 1))
set_option maxHeartbeats 4000000 in
set_option maxRecDepth 100000 in
theorem k_X0_tokenOf (l : Launch) (x0 : Int32) : Met l yX0_tokenOf (Cond.code yX0_tokenOf cX0_tokenOf 1 (some .int) :: TB) ({ frames := 0, cells := 0, slots := 0, locals := 0 } : Room) (PN [.int x0]) (SI (f_X0_tokenOf x0)) 0 0 NF := by
  generalize h : f_X0_tokenOf x0 = q
  refine M_ofZ (by decide) (Nat.le_of_ble_eq_true rfl) (fun p e s m below meth c ls C0 hb hml hr hlk hl => ?_)
  have C0 : CT0 p s _ m RX0 := C0
  have hx := C0.1
  have hts := C0.2.1
  have hown := C0.2.2
  have hl : lv_has ls 1 [(0, .int x0)] := hl
  unfold f_X0_tokenOf at h
  refine lv_iload_n hx hb dX0_tokenOf_0 rfl (lv_at hl 0 rfl) ?_
  refine lv_bipush (v := 97) hx hb dX0_tokenOf_1 (by decide) ?_
  have J_5 : ∀  (ls : Array Slot), f_X0_tokenOf_J14 x0 = q → lv_has ls 1 [(0, .int x0)] → W p l e ({ frames := 0, cells := 0, slots := 0, locals := 0 } : Room) s m ([.int x0] : List Value).toArray below meth c s.heap [] 0 0 (MQ below (SI q) ([.int x0] : List Value).toArray s 0 0 NF) (F0 m 14 ls []) := by
    intro  ls h hl
    unfold f_X0_tokenOf_J14 at h
    refine lv_iload_n hx hb dX0_tokenOf_14 rfl (lv_at hl 0 rfl) ?_
    refine lv_bipush (v := 48) hx hb dX0_tokenOf_15 (by decide) ?_
    have J_2 : ∀  (ls : Array Slot), f_X0_tokenOf_J28 x0 = q → lv_has ls 1 [(0, .int x0)] → W p l e ({ frames := 0, cells := 0, slots := 0, locals := 0 } : Room) s m ([.int x0] : List Value).toArray below meth c s.heap [] 0 0 (MQ below (SI q) ([.int x0] : List Value).toArray s 0 0 NF) (F0 m 28 ls []) := by
      intro  ls h hl
      unfold f_X0_tokenOf_J28 at h
      refine lv_iload_n hx hb dX0_tokenOf_28 rfl (lv_at hl 0 rfl) ?_
      refine lv_bipush (v := 59) hx hb dX0_tokenOf_29 (by decide) ?_
      refine lv_icmp_ne (tgt := 38) hx hb dX0_tokenOf_31 (by decide) (fun (c_1 : ¬ x0 = 59) => ?_) (fun (c_1 : x0 = 59) => ?_)
      · rw [if_neg c_1] at h
        refine lv_iconst (v := 4) hx hb dX0_tokenOf_38 (by decide) ?_
        exact m_si hx hb hr hlk h dX0_tokenOf_39
      · rw [if_pos c_1] at h
        refine lv_iconst (v := 3) hx hb dX0_tokenOf_34 (by decide) ?_
        refine lv_goto (tgt := 39) hx hb dX0_tokenOf_35 (by decide) ?_
        exact m_si hx hb hr hlk h dX0_tokenOf_39
    refine lv_icmp_lt (tgt := 28) hx hb dX0_tokenOf_17 (by decide) (fun (c_3 : x0 < 48) => ?_) (fun (c_3 : ¬ x0 < 48) => ?_)
    · rw [if_pos c_3] at h
      exact J_2  _ h (lv_sub hl [0] rfl)
    · rw [if_neg c_3] at h
      refine lv_iload_n hx hb dX0_tokenOf_20 rfl (lv_at hl 0 rfl) ?_
      refine lv_bipush (v := 57) hx hb dX0_tokenOf_21 (by decide) ?_
      refine lv_icmp_gt (tgt := 28) hx hb dX0_tokenOf_23 (by decide) (fun (c_4 : 57 < x0) => ?_) (fun (c_4 : ¬ 57 < x0) => ?_)
      · rw [if_pos c_4] at h
        exact J_2  _ h (lv_sub hl [0] rfl)
      · rw [if_neg c_4] at h
        refine lv_iconst (v := 2) hx hb dX0_tokenOf_26 (by decide) ?_
        exact m_si hx hb hr hlk h dX0_tokenOf_27
  refine lv_icmp_lt (tgt := 14) hx hb dX0_tokenOf_3 (by decide) (fun (c_6 : x0 < 97) => ?_) (fun (c_6 : ¬ x0 < 97) => ?_)
  · rw [if_pos c_6] at h
    exact J_5  _ h (lv_sub hl [0] rfl)
  · rw [if_neg c_6] at h
    refine lv_iload_n hx hb dX0_tokenOf_6 rfl (lv_at hl 0 rfl) ?_
    refine lv_bipush (v := 122) hx hb dX0_tokenOf_7 (by decide) ?_
    refine lv_icmp_gt (tgt := 14) hx hb dX0_tokenOf_9 (by decide) (fun (c_7 : 122 < x0) => ?_) (fun (c_7 : ¬ 122 < x0) => ?_)
    · rw [if_pos c_7] at h
      exact J_5  _ h (lv_sub hl [0] rfl)
    · rw [if_neg c_7] at h
      refine lv_iconst (v := 1) hx hb dX0_tokenOf_12 (by decide) ?_
      exact m_si hx hb hr hlk h dX0_tokenOf_13
def f_X3_kindAbove (x0 : Int32) : Int32 := (if x0 = 3 then 2 else (if x0 = 4 then 3 else (if x0 = 5 then 0 else (if x0 = 6 then 1 else 0))))
set_option maxHeartbeats 4000000 in
set_option maxRecDepth 100000 in
theorem k_X3_kindAbove (l : Launch) (x0 : Int32) : Met l yX3_kindAbove (Cond.code yX3_kindAbove cX3_kindAbove 1 (some .int) :: TB) ({ frames := 0, cells := 0, slots := 0, locals := 0 } : Room) (PN [.int x0]) (SI (f_X3_kindAbove x0)) 0 0 NF := by
  generalize h : f_X3_kindAbove x0 = q
  refine M_ofZ (by decide) (Nat.le_of_ble_eq_true rfl) (fun p e s m below meth c ls C0 hb hml hr hlk hl => ?_)
  have C0 : CT0 p s _ m RX3 := C0
  have hx := C0.1
  have hts := C0.2.1
  have hown := C0.2.2
  have hl : lv_has ls 1 [(0, .int x0)] := hl
  unfold f_X3_kindAbove at h
  refine lv_iload_n hx hb dX3_kindAbove_0 rfl (lv_at hl 0 rfl) ?_
  by_cases c_1 : x0 = 3
  · rw [if_pos c_1] at h
    refine lv_tableIn (off := 31) (tgt := 32) hx hb dX3_kindAbove_1 (by rw [c_1]; decide) (by rw [c_1]; decide) (by rw [c_1]; rfl) (by decide) ?_
    refine lv_iconst (v := 2) hx hb dX3_kindAbove_32 (by decide) ?_
    exact m_si hx hb hr hlk h dX3_kindAbove_33
  · rw [if_neg c_1] at h
    by_cases c_2 : x0 = 4
    · rw [if_pos c_2] at h
      refine lv_tableIn (off := 33) (tgt := 34) hx hb dX3_kindAbove_1 (by rw [c_2]; decide) (by rw [c_2]; decide) (by rw [c_2]; rfl) (by decide) ?_
      refine lv_iconst (v := 3) hx hb dX3_kindAbove_34 (by decide) ?_
      exact m_si hx hb hr hlk h dX3_kindAbove_35
    · rw [if_neg c_2] at h
      by_cases c_3 : x0 = 5
      · rw [if_pos c_3] at h
        refine lv_tableIn (off := 37) (tgt := 38) hx hb dX3_kindAbove_1 (by rw [c_3]; decide) (by rw [c_3]; decide) (by rw [c_3]; rfl) (by decide) ?_
        refine lv_iconst (v := 0) hx hb dX3_kindAbove_38 (by decide) ?_
        exact m_si hx hb hr hlk h dX3_kindAbove_39
      · rw [if_neg c_3] at h
        by_cases c_4 : x0 = 6
        · rw [if_pos c_4] at h
          refine lv_tableIn (off := 35) (tgt := 36) hx hb dX3_kindAbove_1 (by rw [c_4]; decide) (by rw [c_4]; decide) (by rw [c_4]; rfl) (by decide) ?_
          refine lv_iconst (v := 1) hx hb dX3_kindAbove_36 (by decide) ?_
          exact m_si hx hb hr hlk h dX3_kindAbove_37
        · rw [if_neg c_4] at h
          refine lv_tableOut (tgt := 38) hx hb dX3_kindAbove_1 (by have t0 := lv_neT c_1 (a := 3) rfl; have t1 := lv_neT c_2 (a := 4) rfl; have t2 := lv_neT c_3 (a := 5) rfl; have t3 := lv_neT c_4 (a := 6) rfl; omega) (by decide) ?_
          refine lv_iconst (v := 0) hx hb dX3_kindAbove_38 (by decide) ?_
          exact m_si hx hb hr hlk h dX3_kindAbove_39
def f_X6_in (y0 : Int64) (y2 : Int64) (y4 : Int64) : Int32 := (if (lg_cmp y0 y2) < 0 then 0 else (if 0 < (lg_cmp y0 y4) then 0 else 1))
theorem bz_X6_in (y0 : Int64) (y2 : Int64) (y4 : Int64) : f_X6_in y0 y2 y4 = 0 ∨ f_X6_in y0 y2 y4 = 1 := by
  unfold f_X6_in
  repeat' split
  all_goals first | exact Or.inl rfl | exact Or.inr rfl
set_option maxHeartbeats 4000000 in
set_option maxRecDepth 100000 in
theorem k_X6_in (l : Launch) (y0 : Int64) (y2 : Int64) (y4 : Int64) : Met l yX6_in (Cond.code yX6_in cX6_in 6 (some .boolean) :: TB) ({ frames := 0, cells := 0, slots := 0, locals := 0 } : Room) (PN [.long y0, .long y2, .long y4]) (SI (f_X6_in y0 y2 y4)) 0 0 NF := by
  generalize h : f_X6_in y0 y2 y4 = q
  refine M_ofZ (by decide) (Nat.le_of_ble_eq_true rfl) (fun p e s m below meth c ls C0 hb hml hr hlk hl => ?_)
  have C0 : CT0 p s _ m RX6 := C0
  have hx := C0.1
  have hts := C0.2.1
  have hown := C0.2.2
  have hl : lv_has ls 6 [(0, .long y0), (2, .long y2), (4, .long y4)] := hl
  unfold f_X6_in at h
  refine lv_lload_n hx hb dX6_in_0 rfl (lv_at hl 0 rfl) ?_
  refine lv_lload_n hx hb dX6_in_1 rfl (lv_at hl 1 rfl) ?_
  refine W.lcmp hx hb dX6_in_2 ?_
  refine lv_if_lt (tgt := 17) hx hb dX6_in_3 (by decide) (fun (c_1 : (lg_cmp y0 y2) < 0) => ?_) (fun (c_1 : ¬ (lg_cmp y0 y2) < 0) => ?_)
  · rw [if_pos c_1] at h
    refine lv_iconst (v := 0) hx hb dX6_in_17 (by decide) ?_
    exact m_sz hx hb hr hlk (Or.inl rfl) h dX6_in_18
  · rw [if_neg c_1] at h
    refine lv_lload_n hx hb dX6_in_6 rfl (lv_at hl 0 rfl) ?_
    refine lv_lload hx hb dX6_in_7 (lv_at hl 2 rfl) ?_
    refine W.lcmp hx hb dX6_in_9 ?_
    refine lv_if_gt (tgt := 17) hx hb dX6_in_10 (by decide) (fun (c_2 : 0 < (lg_cmp y0 y4)) => ?_) (fun (c_2 : ¬ 0 < (lg_cmp y0 y4)) => ?_)
    · rw [if_pos c_2] at h
      refine lv_iconst (v := 0) hx hb dX6_in_17 (by decide) ?_
      exact m_sz hx hb hr hlk (Or.inl rfl) h dX6_in_18
    · rw [if_neg c_2] at h
      refine lv_iconst (v := 1) hx hb dX6_in_13 (by decide) ?_
      refine lv_goto (tgt := 18) hx hb dX6_in_14 (by decide) ?_
      exact m_sz hx hb hr hlk (Or.inr rfl) h dX6_in_18
def f_X6_isCell (x0 : Int32) : Int32 := f_X6_in x0.toInt64 0 11
theorem bz_X6_isCell (x0 : Int32) : f_X6_isCell x0 = 0 ∨ f_X6_isCell x0 = 1 := by
  unfold f_X6_isCell
  repeat' split
  all_goals first | exact Or.inl rfl | exact Or.inr rfl | exact (bz_X6_in x0.toInt64 0 11)
set_option maxHeartbeats 4000000 in
set_option maxRecDepth 100000 in
theorem k_X6_isCell (l : Launch) (x0 : Int32) : Met l yX6_isCell (Cond.code yX6_isCell cX6_isCell 1 (some .boolean) :: TB) ({ frames := 1, cells := 0, slots := 0, locals := 25 } : Room) (PN [.int x0]) (SI (f_X6_isCell x0)) 0 0 NF := by
  generalize h : f_X6_isCell x0 = q
  refine M_ofZ (by decide) (Nat.le_of_ble_eq_true rfl) (fun p e s m below meth c ls C0 hb hml hr hlk hl => ?_)
  have C0 : CT0 p s _ m RX6 := C0
  have hx := C0.1
  have hts := C0.2.1
  have hown := C0.2.2
  have hl : lv_has ls 1 [(0, .int x0)] := hl
  unfold f_X6_isCell at h
  refine lv_iload_n hx hb dX6_isCell_0 rfl (lv_at hl 0 rfl) ?_
  refine lv_i2l (v := x0.toInt64) hx hb dX6_isCell_1 rfl ?_
  refine lv_lconst (v := 0) hx hb dX6_isCell_2 (by decide) ?_
  refine lv_ldc2 hx hb hown (hts _ wk_X6_47) dX6_isCell_3 ?_
  refine m_pSi (As := [.long x0.toInt64, .long 0, .long 11]) (rest := []) C0 hb hml hl.1 wm_X6_49 md_X6_in (k_X6_in l x0.toInt64 0 11) rfl rfl ⟨(Nat.le_of_ble_eq_true rfl), (Nat.le_of_ble_eq_true rfl)⟩ rfl rfl (Nat.le_of_ble_eq_true rfl) dX6_isCell_6 ?_
  exact m_sz hx hb hr hlk (bz_X6_in x0.toInt64 0 11) h dX6_isCell_9
def f_X6_isHour (x0 : Int32) : Int32 := f_X6_in x0.toInt64 0 7
theorem bz_X6_isHour (x0 : Int32) : f_X6_isHour x0 = 0 ∨ f_X6_isHour x0 = 1 := by
  unfold f_X6_isHour
  repeat' split
  all_goals first | exact Or.inl rfl | exact Or.inr rfl | exact (bz_X6_in x0.toInt64 0 7)
set_option maxHeartbeats 4000000 in
set_option maxRecDepth 100000 in
theorem k_X6_isHour (l : Launch) (x0 : Int32) : Met l yX6_isHour (Cond.code yX6_isHour cX6_isHour 1 (some .boolean) :: TB) ({ frames := 1, cells := 0, slots := 0, locals := 25 } : Room) (PN [.int x0]) (SI (f_X6_isHour x0)) 0 0 NF := by
  generalize h : f_X6_isHour x0 = q
  refine M_ofZ (by decide) (Nat.le_of_ble_eq_true rfl) (fun p e s m below meth c ls C0 hb hml hr hlk hl => ?_)
  have C0 : CT0 p s _ m RX6 := C0
  have hx := C0.1
  have hts := C0.2.1
  have hown := C0.2.2
  have hl : lv_has ls 1 [(0, .int x0)] := hl
  unfold f_X6_isHour at h
  refine lv_iload_n hx hb dX6_isHour_0 rfl (lv_at hl 0 rfl) ?_
  refine lv_i2l (v := x0.toInt64) hx hb dX6_isHour_1 rfl ?_
  refine lv_lconst (v := 0) hx hb dX6_isHour_2 (by decide) ?_
  refine lv_ldc2 hx hb hown (hts _ wk_X6_53) dX6_isHour_3 ?_
  refine m_pSi (As := [.long x0.toInt64, .long 0, .long 7]) (rest := []) C0 hb hml hl.1 wm_X6_49 md_X6_in (k_X6_in l x0.toInt64 0 7) rfl rfl ⟨(Nat.le_of_ble_eq_true rfl), (Nat.le_of_ble_eq_true rfl)⟩ rfl rfl (Nat.le_of_ble_eq_true rfl) dX6_isHour_6 ?_
  exact m_sz hx hb hr hlk (bz_X6_in x0.toInt64 0 7) h dX6_isHour_9
def f_X6_isOpening (x0 : Int32) : Int32 := f_X6_in x0.toInt64 0 99
theorem bz_X6_isOpening (x0 : Int32) : f_X6_isOpening x0 = 0 ∨ f_X6_isOpening x0 = 1 := by
  unfold f_X6_isOpening
  repeat' split
  all_goals first | exact Or.inl rfl | exact Or.inr rfl | exact (bz_X6_in x0.toInt64 0 99)
set_option maxHeartbeats 4000000 in
set_option maxRecDepth 100000 in
theorem k_X6_isOpening (l : Launch) (x0 : Int32) : Met l yX6_isOpening (Cond.code yX6_isOpening cX6_isOpening 1 (some .boolean) :: TB) ({ frames := 1, cells := 0, slots := 0, locals := 25 } : Room) (PN [.int x0]) (SI (f_X6_isOpening x0)) 0 0 NF := by
  generalize h : f_X6_isOpening x0 = q
  refine M_ofZ (by decide) (Nat.le_of_ble_eq_true rfl) (fun p e s m below meth c ls C0 hb hml hr hlk hl => ?_)
  have C0 : CT0 p s _ m RX6 := C0
  have hx := C0.1
  have hts := C0.2.1
  have hown := C0.2.2
  have hl : lv_has ls 1 [(0, .int x0)] := hl
  unfold f_X6_isOpening at h
  refine lv_iload_n hx hb dX6_isOpening_0 rfl (lv_at hl 0 rfl) ?_
  refine lv_i2l (v := x0.toInt64) hx hb dX6_isOpening_1 rfl ?_
  refine lv_lconst (v := 0) hx hb dX6_isOpening_2 (by decide) ?_
  refine lv_ldc2 hx hb hown (hts _ wk_X6_55) dX6_isOpening_3 ?_
  refine m_pSi (As := [.long x0.toInt64, .long 0, .long 99]) (rest := []) C0 hb hml hl.1 wm_X6_49 md_X6_in (k_X6_in l x0.toInt64 0 99) rfl rfl ⟨(Nat.le_of_ble_eq_true rfl), (Nat.le_of_ble_eq_true rfl)⟩ rfl rfl (Nat.le_of_ble_eq_true rfl) dX6_isOpening_6 ?_
  exact m_sz hx hb hr hlk (bz_X6_in x0.toInt64 0 99) h dX6_isOpening_9
def f_X6_place (x0 : Int32) (x1 : Int32) : Int32 := (24 + (5 * x0)) + x1
set_option maxHeartbeats 4000000 in
set_option maxRecDepth 100000 in
theorem k_X6_place (l : Launch) (x0 : Int32) (x1 : Int32) : Met l yX6_place (Cond.code yX6_place cX6_place 2 (some .int) :: TB) ({ frames := 0, cells := 0, slots := 0, locals := 0 } : Room) (PN [.int x0, .int x1]) (SI (f_X6_place x0 x1)) 0 0 NF := by
  generalize h : f_X6_place x0 x1 = q
  refine M_ofZ (by decide) (Nat.le_of_ble_eq_true rfl) (fun p e s m below meth c ls C0 hb hml hr hlk hl => ?_)
  have C0 : CT0 p s _ m RX6 := C0
  have hx := C0.1
  have hts := C0.2.1
  have hown := C0.2.2
  have hl : lv_has ls 2 [(0, .int x0), (1, .int x1)] := hl
  unfold f_X6_place at h
  refine lv_bipush (v := 24) hx hb dX6_place_0 (by decide) ?_
  refine lv_iconst (v := 5) hx hb dX6_place_2 (by decide) ?_
  refine lv_iload_n hx hb dX6_place_3 rfl (lv_at hl 0 rfl) ?_
  refine lv_imul hx hb dX6_place_4 ?_
  refine lv_iadd hx hb dX6_place_5 ?_
  refine lv_iload_n hx hb dX6_place_6 rfl (lv_at hl 1 rfl) ?_
  refine lv_iadd hx hb dX6_place_7 ?_
  exact m_si hx hb hr hlk h dX6_place_8
def f_X6_isKind (x0 : Int32) : Int32 := f_X6_in x0.toInt64 0 6
theorem bz_X6_isKind (x0 : Int32) : f_X6_isKind x0 = 0 ∨ f_X6_isKind x0 = 1 := by
  unfold f_X6_isKind
  repeat' split
  all_goals first | exact Or.inl rfl | exact Or.inr rfl | exact (bz_X6_in x0.toInt64 0 6)
set_option maxHeartbeats 4000000 in
set_option maxRecDepth 100000 in
theorem k_X6_isKind (l : Launch) (x0 : Int32) : Met l yX6_isKind (Cond.code yX6_isKind cX6_isKind 1 (some .boolean) :: TB) ({ frames := 1, cells := 0, slots := 0, locals := 25 } : Room) (PN [.int x0]) (SI (f_X6_isKind x0)) 0 0 NF := by
  generalize h : f_X6_isKind x0 = q
  refine M_ofZ (by decide) (Nat.le_of_ble_eq_true rfl) (fun p e s m below meth c ls C0 hb hml hr hlk hl => ?_)
  have C0 : CT0 p s _ m RX6 := C0
  have hx := C0.1
  have hts := C0.2.1
  have hown := C0.2.2
  have hl : lv_has ls 1 [(0, .int x0)] := hl
  unfold f_X6_isKind at h
  refine lv_iload_n hx hb dX6_isKind_0 rfl (lv_at hl 0 rfl) ?_
  refine lv_i2l (v := x0.toInt64) hx hb dX6_isKind_1 rfl ?_
  refine lv_lconst (v := 0) hx hb dX6_isKind_2 (by decide) ?_
  refine lv_ldc2 hx hb hown (hts _ wk_X6_57) dX6_isKind_3 ?_
  refine m_pSi (As := [.long x0.toInt64, .long 0, .long 6]) (rest := []) C0 hb hml hl.1 wm_X6_49 md_X6_in (k_X6_in l x0.toInt64 0 6) rfl rfl ⟨(Nat.le_of_ble_eq_true rfl), (Nat.le_of_ble_eq_true rfl)⟩ rfl rfl (Nat.le_of_ble_eq_true rfl) dX6_isKind_6 ?_
  exact m_sz hx hb hr hlk (bz_X6_in x0.toInt64 0 6) h dX6_isKind_9
def f_X6_most (x0 : Int32) : Int32 := (if x0 = 0 then 6 else (if x0 = 1 then 11 else (if x0 = 2 then 999 else (if x0 = 3 then 99 else 9999))))
set_option maxHeartbeats 4000000 in
set_option maxRecDepth 100000 in
theorem k_X6_most (l : Launch) (x0 : Int32) : Met l yX6_most (Cond.code yX6_most cX6_most 1 (some .int) :: TB) ({ frames := 0, cells := 0, slots := 0, locals := 0 } : Room) (PN [.int x0]) (SI (f_X6_most x0)) 0 0 NF := by
  generalize h : f_X6_most x0 = q
  refine M_ofZ (by decide) (Nat.le_of_ble_eq_true rfl) (fun p e s m below meth c ls C0 hb hml hr hlk hl => ?_)
  have C0 : CT0 p s _ m RX6 := C0
  have hx := C0.1
  have hts := C0.2.1
  have hown := C0.2.2
  have hl : lv_has ls 1 [(0, .int x0)] := hl
  unfold f_X6_most at h
  refine lv_iload_n hx hb dX6_most_0 rfl (lv_at hl 0 rfl) ?_
  refine lv_if_ne (tgt := 9) hx hb dX6_most_1 (by decide) (fun (c_1 : ¬ x0 = 0) => ?_) (fun (c_1 : x0 = 0) => ?_)
  · rw [if_neg c_1] at h
    refine lv_iload_n hx hb dX6_most_9 rfl (lv_at hl 0 rfl) ?_
    refine lv_iconst (v := 1) hx hb dX6_most_10 (by decide) ?_
    refine lv_icmp_ne (tgt := 19) hx hb dX6_most_11 (by decide) (fun (c_2 : ¬ x0 = 1) => ?_) (fun (c_2 : x0 = 1) => ?_)
    · rw [if_neg c_2] at h
      refine lv_iload_n hx hb dX6_most_19 rfl (lv_at hl 0 rfl) ?_
      refine lv_iconst (v := 2) hx hb dX6_most_20 (by decide) ?_
      refine lv_icmp_ne (tgt := 30) hx hb dX6_most_21 (by decide) (fun (c_3 : ¬ x0 = 2) => ?_) (fun (c_3 : x0 = 2) => ?_)
      · rw [if_neg c_3] at h
        refine lv_iload_n hx hb dX6_most_30 rfl (lv_at hl 0 rfl) ?_
        refine lv_iconst (v := 3) hx hb dX6_most_31 (by decide) ?_
        refine lv_icmp_ne (tgt := 40) hx hb dX6_most_32 (by decide) (fun (c_4 : ¬ x0 = 3) => ?_) (fun (c_4 : x0 = 3) => ?_)
        · rw [if_neg c_4] at h
          refine lv_sipush (v := 9999) hx hb dX6_most_40 (by decide) ?_
          exact m_si hx hb hr hlk h dX6_most_43
        · rw [if_pos c_4] at h
          refine lv_bipush (v := 99) hx hb dX6_most_35 (by decide) ?_
          refine lv_goto (tgt := 43) hx hb dX6_most_37 (by decide) ?_
          exact m_si hx hb hr hlk h dX6_most_43
      · rw [if_pos c_3] at h
        refine lv_sipush (v := 999) hx hb dX6_most_24 (by decide) ?_
        refine lv_goto (tgt := 43) hx hb dX6_most_27 (by decide) ?_
        exact m_si hx hb hr hlk h dX6_most_43
    · rw [if_pos c_2] at h
      refine lv_bipush (v := 11) hx hb dX6_most_14 (by decide) ?_
      refine lv_goto (tgt := 43) hx hb dX6_most_16 (by decide) ?_
      exact m_si hx hb hr hlk h dX6_most_43
  · rw [if_pos c_1] at h
    refine lv_bipush (v := 6) hx hb dX6_most_4 (by decide) ?_
    refine lv_goto (tgt := 43) hx hb dX6_most_6 (by decide) ?_
    exact m_si hx hb hr hlk h dX6_most_43
def f_X6_distance (x0 : Int32) (x1 : Int32) : Int32 := (if x1 ≤ x0 then x0 - x1 else x1 - x0)
set_option maxHeartbeats 4000000 in
set_option maxRecDepth 100000 in
theorem k_X6_distance (l : Launch) (x0 : Int32) (x1 : Int32) : Met l yX6_distance (Cond.code yX6_distance cX6_distance 2 (some .int) :: TB) ({ frames := 0, cells := 0, slots := 0, locals := 0 } : Room) (PN [.int x0, .int x1]) (SI (f_X6_distance x0 x1)) 0 0 NF := by
  generalize h : f_X6_distance x0 x1 = q
  refine M_ofZ (by decide) (Nat.le_of_ble_eq_true rfl) (fun p e s m below meth c ls C0 hb hml hr hlk hl => ?_)
  have C0 : CT0 p s _ m RX6 := C0
  have hx := C0.1
  have hts := C0.2.1
  have hown := C0.2.2
  have hl : lv_has ls 2 [(0, .int x0), (1, .int x1)] := hl
  unfold f_X6_distance at h
  refine lv_iload_n hx hb dX6_distance_0 rfl (lv_at hl 0 rfl) ?_
  refine lv_iload_n hx hb dX6_distance_1 rfl (lv_at hl 1 rfl) ?_
  refine lv_icmp_ge (tgt := 11) hx hb dX6_distance_2 (by decide) (fun (c_1 : x1 ≤ x0) => ?_) (fun (c_1 : ¬ x1 ≤ x0) => ?_)
  · rw [if_pos c_1] at h
    refine lv_iload_n hx hb dX6_distance_11 rfl (lv_at hl 0 rfl) ?_
    refine lv_iload_n hx hb dX6_distance_12 rfl (lv_at hl 1 rfl) ?_
    refine lv_isub hx hb dX6_distance_13 ?_
    exact m_si hx hb hr hlk h dX6_distance_14
  · rw [if_neg c_1] at h
    refine lv_iload_n hx hb dX6_distance_5 rfl (lv_at hl 1 rfl) ?_
    refine lv_iload_n hx hb dX6_distance_6 rfl (lv_at hl 0 rfl) ?_
    refine lv_isub hx hb dX6_distance_7 ?_
    refine lv_goto (tgt := 14) hx hb dX6_distance_8 (by decide) ?_
    exact m_si hx hb hr hlk h dX6_distance_14
def f_X6_isSoon (x0 : Int32) : Int32 := f_X6_in x0.toInt64 0 60
theorem bz_X6_isSoon (x0 : Int32) : f_X6_isSoon x0 = 0 ∨ f_X6_isSoon x0 = 1 := by
  unfold f_X6_isSoon
  repeat' split
  all_goals first | exact Or.inl rfl | exact Or.inr rfl | exact (bz_X6_in x0.toInt64 0 60)
set_option maxHeartbeats 4000000 in
set_option maxRecDepth 100000 in
theorem k_X6_isSoon (l : Launch) (x0 : Int32) : Met l yX6_isSoon (Cond.code yX6_isSoon cX6_isSoon 1 (some .boolean) :: TB) ({ frames := 1, cells := 0, slots := 0, locals := 25 } : Room) (PN [.int x0]) (SI (f_X6_isSoon x0)) 0 0 NF := by
  generalize h : f_X6_isSoon x0 = q
  refine M_ofZ (by decide) (Nat.le_of_ble_eq_true rfl) (fun p e s m below meth c ls C0 hb hml hr hlk hl => ?_)
  have C0 : CT0 p s _ m RX6 := C0
  have hx := C0.1
  have hts := C0.2.1
  have hown := C0.2.2
  have hl : lv_has ls 1 [(0, .int x0)] := hl
  unfold f_X6_isSoon at h
  refine lv_iload_n hx hb dX6_isSoon_0 rfl (lv_at hl 0 rfl) ?_
  refine lv_i2l (v := x0.toInt64) hx hb dX6_isSoon_1 rfl ?_
  refine lv_lconst (v := 0) hx hb dX6_isSoon_2 (by decide) ?_
  refine lv_ldc2 hx hb hown (hts _ wk_X6_185) dX6_isSoon_3 ?_
  refine m_pSi (As := [.long x0.toInt64, .long 0, .long 60]) (rest := []) C0 hb hml hl.1 wm_X6_49 md_X6_in (k_X6_in l x0.toInt64 0 60) rfl rfl ⟨(Nat.le_of_ble_eq_true rfl), (Nat.le_of_ble_eq_true rfl)⟩ rfl rfl (Nat.le_of_ble_eq_true rfl) dX6_isSoon_6 ?_
  exact m_sz hx hb hr hlk (bz_X6_in x0.toInt64 0 60) h dX6_isSoon_9
def f_X6_ones_B4  (rec4 : Int32 → Int32 → Option (Int32)) (x1_1 : Int32) (x2_2 : Int32) : Option (Int32) := (if x2_2 = 0 then some x1_1 else (rec4 (x1_1 + 1) (x2_2 &&& (x2_2 - 1))))
def f_X6_ones (x0 : Int32) : Option (Int32) := (it2 f_X6_ones_B4 FU 0 x0)
set_option maxHeartbeats 4000000 in
set_option maxRecDepth 100000 in
theorem k_X6_ones (l : Launch) (x0 : Int32) (q : Int32) (h : f_X6_ones x0 = some q) : Met l yX6_ones (Cond.code yX6_ones cX6_ones 3 (some .int) :: TB) ({ frames := 0, cells := 0, slots := 0, locals := 0 } : Room) (PN [.int x0]) (SI q) 0 0 NF := by
  refine M_ofZ (by decide) (Nat.le_of_ble_eq_true rfl) (fun p e s m below meth c ls C0 hb hml hr hlk hl => ?_)
  have C0 : CT0 p s _ m RX6 := C0
  have hx := C0.1
  have hts := C0.2.1
  have hown := C0.2.2
  have hl : lv_has ls 3 [(0, .int x0)] := hl
  unfold f_X6_ones at h
  refine lv_iconst (v := 0) hx hb dX6_ones_0 (by decide) ?_
  refine lv_istore_n (lv' := [(1, .int 0), (0, .int x0)]) hx hb dX6_ones_1 rfl hl (by decide) rfl (fun ls hl => ?_)
  refine lv_iload_n hx hb dX6_ones_2 rfl (lv_at hl 1 rfl) ?_
  refine lv_istore_n (lv' := [(2, .int x0), (1, .int 0), (0, .int x0)]) hx hb dX6_ones_3 rfl hl (by decide) rfl (fun ls hl => ?_)
  have L_4 : ∀ (fu4 : Nat) (x1_1 : Int32) (x2_2 : Int32) (ls : Array Slot), it2 f_X6_ones_B4 fu4 x1_1 x2_2 = some q → lv_has ls 3 [(2, .int x2_2), (1, .int x1_1)] → W p l e ({ frames := 0, cells := 0, slots := 0, locals := 0 } : Room) s m ([.int x0] : List Value).toArray below meth c s.heap [] 0 0 (MQ below (SI q) ([.int x0] : List Value).toArray s 0 0 NF) (F0 m 4 ls []) := by
    intro fu4
    induction fu4 with
    | zero =>
      intro x1_1 x2_2 ls h
      cases h
    | succ fu4 ih4 =>
      intro x1_1 x2_2 ls h hl
      replace h : f_X6_ones_B4 (it2 f_X6_ones_B4 fu4) x1_1 x2_2 = some q := h
      generalize it2 f_X6_ones_B4 fu4 = rec4 at h ih4
      unfold f_X6_ones_B4 at h
      refine lv_iload_n hx hb dX6_ones_4 rfl (lv_at hl 0 rfl) ?_
      refine lv_if_eq (tgt := 20) hx hb dX6_ones_5 (by decide) (fun (c_3 : x2_2 = 0) => ?_) (fun (c_3 : ¬ x2_2 = 0) => ?_)
      · rw [if_pos c_3] at h
        refine lv_iload_n hx hb dX6_ones_20 rfl (lv_at hl 1 rfl) ?_
        exact m_si hx hb hr hlk (Option.some.inj h) dX6_ones_21
      · rw [if_neg c_3] at h
        refine lv_iinc (v := x1_1 + 1) (lv' := [(1, .int (x1_1 + 1)), (2, .int x2_2)]) hx hb dX6_ones_8 hl (k := 1) rfl rfl (by decide) rfl (fun ls hl => ?_)
        refine lv_iload_n hx hb dX6_ones_11 rfl (lv_at hl 1 rfl) ?_
        refine lv_iload_n hx hb dX6_ones_12 rfl (lv_at hl 1 rfl) ?_
        refine lv_iconst (v := 1) hx hb dX6_ones_13 (by decide) ?_
        refine lv_isub hx hb dX6_ones_14 ?_
        refine lv_iand hx hb dX6_ones_15 ?_
        refine lv_istore_n (lv' := [(2, .int (x2_2 &&& (x2_2 - 1))), (1, .int (x1_1 + 1))]) hx hb dX6_ones_16 rfl hl (by decide) rfl (fun ls hl => ?_)
        refine lv_goto (tgt := 4) hx hb dX6_ones_17 (by decide) ?_
        exact ih4 (x1_1 + 1) (x2_2 &&& (x2_2 - 1)) _ h (lv_sub hl [0, 1] rfl)
  exact L_4 FU 0 x0 _ h (lv_sub hl [0, 1] rfl)
def f_X6_isOne (x0 : Int32) : Int32 := f_X6_in x0.toInt64 0 3
theorem bz_X6_isOne (x0 : Int32) : f_X6_isOne x0 = 0 ∨ f_X6_isOne x0 = 1 := by
  unfold f_X6_isOne
  repeat' split
  all_goals first | exact Or.inl rfl | exact Or.inr rfl | exact (bz_X6_in x0.toInt64 0 3)
set_option maxHeartbeats 4000000 in
set_option maxRecDepth 100000 in
theorem k_X6_isOne (l : Launch) (x0 : Int32) : Met l yX6_isOne (Cond.code yX6_isOne cX6_isOne 1 (some .boolean) :: TB) ({ frames := 1, cells := 0, slots := 0, locals := 25 } : Room) (PN [.int x0]) (SI (f_X6_isOne x0)) 0 0 NF := by
  generalize h : f_X6_isOne x0 = q
  refine M_ofZ (by decide) (Nat.le_of_ble_eq_true rfl) (fun p e s m below meth c ls C0 hb hml hr hlk hl => ?_)
  have C0 : CT0 p s _ m RX6 := C0
  have hx := C0.1
  have hts := C0.2.1
  have hown := C0.2.2
  have hl : lv_has ls 1 [(0, .int x0)] := hl
  unfold f_X6_isOne at h
  refine lv_iload_n hx hb dX6_isOne_0 rfl (lv_at hl 0 rfl) ?_
  refine lv_i2l (v := x0.toInt64) hx hb dX6_isOne_1 rfl ?_
  refine lv_lconst (v := 0) hx hb dX6_isOne_2 (by decide) ?_
  refine lv_ldc2 hx hb hown (hts _ wk_X6_167) dX6_isOne_3 ?_
  refine m_pSi (As := [.long x0.toInt64, .long 0, .long 3]) (rest := []) C0 hb hml hl.1 wm_X6_49 md_X6_in (k_X6_in l x0.toInt64 0 3) rfl rfl ⟨(Nat.le_of_ble_eq_true rfl), (Nat.le_of_ble_eq_true rfl)⟩ rfl rfl (Nat.le_of_ble_eq_true rfl) dX6_isOne_6 ?_
  exact m_sz hx hb hr hlk (bz_X6_in x0.toInt64 0 3) h dX6_isOne_9
def f_X6_isLetter (x0 : Int32) : Int32 := f_X6_in x0.toInt64 97 122
theorem bz_X6_isLetter (x0 : Int32) : f_X6_isLetter x0 = 0 ∨ f_X6_isLetter x0 = 1 := by
  unfold f_X6_isLetter
  repeat' split
  all_goals first | exact Or.inl rfl | exact Or.inr rfl | exact (bz_X6_in x0.toInt64 97 122)
set_option maxHeartbeats 4000000 in
set_option maxRecDepth 100000 in
theorem k_X6_isLetter (l : Launch) (x0 : Int32) : Met l yX6_isLetter (Cond.code yX6_isLetter cX6_isLetter 1 (some .boolean) :: TB) ({ frames := 1, cells := 0, slots := 0, locals := 25 } : Room) (PN [.int x0]) (SI (f_X6_isLetter x0)) 0 0 NF := by
  generalize h : f_X6_isLetter x0 = q
  refine M_ofZ (by decide) (Nat.le_of_ble_eq_true rfl) (fun p e s m below meth c ls C0 hb hml hr hlk hl => ?_)
  have C0 : CT0 p s _ m RX6 := C0
  have hx := C0.1
  have hts := C0.2.1
  have hown := C0.2.2
  have hl : lv_has ls 1 [(0, .int x0)] := hl
  unfold f_X6_isLetter at h
  refine lv_iload_n hx hb dX6_isLetter_0 rfl (lv_at hl 0 rfl) ?_
  refine lv_i2l (v := x0.toInt64) hx hb dX6_isLetter_1 rfl ?_
  refine lv_ldc2 hx hb hown (hts _ wk_X6_225) dX6_isLetter_2 ?_
  refine lv_ldc2 hx hb hown (hts _ wk_X6_227) dX6_isLetter_5 ?_
  refine m_pSi (As := [.long x0.toInt64, .long 97, .long 122]) (rest := []) C0 hb hml hl.1 wm_X6_49 md_X6_in (k_X6_in l x0.toInt64 97 122) rfl rfl ⟨(Nat.le_of_ble_eq_true rfl), (Nat.le_of_ble_eq_true rfl)⟩ rfl rfl (Nat.le_of_ble_eq_true rfl) dX6_isLetter_8 ?_
  exact m_sz hx hb hr hlk (bz_X6_in x0.toInt64 97 122) h dX6_isLetter_11
def f_X6_isDigit (x0 : Int32) : Int32 := f_X6_in x0.toInt64 48 57
theorem bz_X6_isDigit (x0 : Int32) : f_X6_isDigit x0 = 0 ∨ f_X6_isDigit x0 = 1 := by
  unfold f_X6_isDigit
  repeat' split
  all_goals first | exact Or.inl rfl | exact Or.inr rfl | exact (bz_X6_in x0.toInt64 48 57)
set_option maxHeartbeats 4000000 in
set_option maxRecDepth 100000 in
theorem k_X6_isDigit (l : Launch) (x0 : Int32) : Met l yX6_isDigit (Cond.code yX6_isDigit cX6_isDigit 1 (some .boolean) :: TB) ({ frames := 1, cells := 0, slots := 0, locals := 25 } : Room) (PN [.int x0]) (SI (f_X6_isDigit x0)) 0 0 NF := by
  generalize h : f_X6_isDigit x0 = q
  refine M_ofZ (by decide) (Nat.le_of_ble_eq_true rfl) (fun p e s m below meth c ls C0 hb hml hr hlk hl => ?_)
  have C0 : CT0 p s _ m RX6 := C0
  have hx := C0.1
  have hts := C0.2.1
  have hown := C0.2.2
  have hl : lv_has ls 1 [(0, .int x0)] := hl
  unfold f_X6_isDigit at h
  refine lv_iload_n hx hb dX6_isDigit_0 rfl (lv_at hl 0 rfl) ?_
  refine lv_i2l (v := x0.toInt64) hx hb dX6_isDigit_1 rfl ?_
  refine lv_ldc2 hx hb hown (hts _ wk_X6_229) dX6_isDigit_2 ?_
  refine lv_ldc2 hx hb hown (hts _ wk_X6_231) dX6_isDigit_5 ?_
  refine m_pSi (As := [.long x0.toInt64, .long 48, .long 57]) (rest := []) C0 hb hml hl.1 wm_X6_49 md_X6_in (k_X6_in l x0.toInt64 48 57) rfl rfl ⟨(Nat.le_of_ble_eq_true rfl), (Nat.le_of_ble_eq_true rfl)⟩ rfl rfl (Nat.le_of_ble_eq_true rfl) dX6_isDigit_8 ?_
  exact m_sz hx hb hr hlk (bz_X6_in x0.toInt64 48 57) h dX6_isDigit_11
def f_X6_isSpot (x0 : Int32) : Int32 := f_X6_in x0.toInt64 0 9
theorem bz_X6_isSpot (x0 : Int32) : f_X6_isSpot x0 = 0 ∨ f_X6_isSpot x0 = 1 := by
  unfold f_X6_isSpot
  repeat' split
  all_goals first | exact Or.inl rfl | exact Or.inr rfl | exact (bz_X6_in x0.toInt64 0 9)
set_option maxHeartbeats 4000000 in
set_option maxRecDepth 100000 in
theorem k_X6_isSpot (l : Launch) (x0 : Int32) : Met l yX6_isSpot (Cond.code yX6_isSpot cX6_isSpot 1 (some .boolean) :: TB) ({ frames := 1, cells := 0, slots := 0, locals := 25 } : Room) (PN [.int x0]) (SI (f_X6_isSpot x0)) 0 0 NF := by
  generalize h : f_X6_isSpot x0 = q
  refine M_ofZ (by decide) (Nat.le_of_ble_eq_true rfl) (fun p e s m below meth c ls C0 hb hml hr hlk hl => ?_)
  have C0 : CT0 p s _ m RX6 := C0
  have hx := C0.1
  have hts := C0.2.1
  have hown := C0.2.2
  have hl : lv_has ls 1 [(0, .int x0)] := hl
  unfold f_X6_isSpot at h
  refine lv_iload_n hx hb dX6_isSpot_0 rfl (lv_at hl 0 rfl) ?_
  refine lv_i2l (v := x0.toInt64) hx hb dX6_isSpot_1 rfl ?_
  refine lv_lconst (v := 0) hx hb dX6_isSpot_2 (by decide) ?_
  refine lv_ldc2 hx hb hown (hts _ wk_X6_321) dX6_isSpot_3 ?_
  refine m_pSi (As := [.long x0.toInt64, .long 0, .long 9]) (rest := []) C0 hb hml hl.1 wm_X6_49 md_X6_in (k_X6_in l x0.toInt64 0 9) rfl rfl ⟨(Nat.le_of_ble_eq_true rfl), (Nat.le_of_ble_eq_true rfl)⟩ rfl rfl (Nat.le_of_ble_eq_true rfl) dX6_isSpot_6 ?_
  exact m_sz hx hb hr hlk (bz_X6_in x0.toInt64 0 9) h dX6_isSpot_9
def f_X6_above (x0 : Int32) : Int32 := (if x0 = 6 then 1 else (if x0 = 3 then 2 else (if x0 = 4 then 3 else 0)))
set_option maxHeartbeats 4000000 in
set_option maxRecDepth 100000 in
theorem k_X6_above (l : Launch) (x0 : Int32) : Met l yX6_above (Cond.code yX6_above cX6_above 1 (some .int) :: TB) ({ frames := 0, cells := 0, slots := 0, locals := 0 } : Room) (PN [.int x0]) (SI (f_X6_above x0)) 0 0 NF := by
  generalize h : f_X6_above x0 = q
  refine M_ofZ (by decide) (Nat.le_of_ble_eq_true rfl) (fun p e s m below meth c ls C0 hb hml hr hlk hl => ?_)
  have C0 : CT0 p s _ m RX6 := C0
  have hx := C0.1
  have hts := C0.2.1
  have hown := C0.2.2
  have hl : lv_has ls 1 [(0, .int x0)] := hl
  unfold f_X6_above at h
  refine lv_iload_n hx hb dX6_above_0 rfl (lv_at hl 0 rfl) ?_
  refine lv_bipush (v := 6) hx hb dX6_above_1 (by decide) ?_
  refine lv_icmp_ne (tgt := 10) hx hb dX6_above_3 (by decide) (fun (c_1 : ¬ x0 = 6) => ?_) (fun (c_1 : x0 = 6) => ?_)
  · rw [if_neg c_1] at h
    refine lv_iload_n hx hb dX6_above_10 rfl (lv_at hl 0 rfl) ?_
    refine lv_iconst (v := 3) hx hb dX6_above_11 (by decide) ?_
    refine lv_icmp_ne (tgt := 19) hx hb dX6_above_12 (by decide) (fun (c_2 : ¬ x0 = 3) => ?_) (fun (c_2 : x0 = 3) => ?_)
    · rw [if_neg c_2] at h
      refine lv_iload_n hx hb dX6_above_19 rfl (lv_at hl 0 rfl) ?_
      refine lv_iconst (v := 4) hx hb dX6_above_20 (by decide) ?_
      refine lv_icmp_ne (tgt := 28) hx hb dX6_above_21 (by decide) (fun (c_3 : ¬ x0 = 4) => ?_) (fun (c_3 : x0 = 4) => ?_)
      · rw [if_neg c_3] at h
        refine lv_iconst (v := 0) hx hb dX6_above_28 (by decide) ?_
        exact m_si hx hb hr hlk h dX6_above_29
      · rw [if_pos c_3] at h
        refine lv_iconst (v := 3) hx hb dX6_above_24 (by decide) ?_
        refine lv_goto (tgt := 29) hx hb dX6_above_25 (by decide) ?_
        exact m_si hx hb hr hlk h dX6_above_29
    · rw [if_pos c_2] at h
      refine lv_iconst (v := 2) hx hb dX6_above_15 (by decide) ?_
      refine lv_goto (tgt := 29) hx hb dX6_above_16 (by decide) ?_
      exact m_si hx hb hr hlk h dX6_above_29
  · rw [if_pos c_1] at h
    refine lv_iconst (v := 1) hx hb dX6_above_6 (by decide) ?_
    refine lv_goto (tgt := 29) hx hb dX6_above_7 (by decide) ?_
    exact m_si hx hb hr hlk h dX6_above_29
def f_X6_narrowed (x0 : Int32) (x1 : Int32) : Int32 := (if x0 = 8 then x1.toInt8.toInt32 else (if x0 = 16 then x1.toInt16.toInt32 else x1))
set_option maxHeartbeats 4000000 in
set_option maxRecDepth 100000 in
theorem k_X6_narrowed (l : Launch) (x0 : Int32) (x1 : Int32) : Met l yX6_narrowed (Cond.code yX6_narrowed cX6_narrowed 2 (some .int) :: TB) ({ frames := 0, cells := 0, slots := 0, locals := 0 } : Room) (PN [.int x0, .int x1]) (SI (f_X6_narrowed x0 x1)) 0 0 NF := by
  generalize h : f_X6_narrowed x0 x1 = q
  refine M_ofZ (by decide) (Nat.le_of_ble_eq_true rfl) (fun p e s m below meth c ls C0 hb hml hr hlk hl => ?_)
  have C0 : CT0 p s _ m RX6 := C0
  have hx := C0.1
  have hts := C0.2.1
  have hown := C0.2.2
  have hl : lv_has ls 2 [(0, .int x0), (1, .int x1)] := hl
  unfold f_X6_narrowed at h
  refine lv_iload_n hx hb dX6_narrowed_0 rfl (lv_at hl 0 rfl) ?_
  refine lv_bipush (v := 8) hx hb dX6_narrowed_1 (by decide) ?_
  refine lv_icmp_ne (tgt := 11) hx hb dX6_narrowed_3 (by decide) (fun (c_1 : ¬ x0 = 8) => ?_) (fun (c_1 : x0 = 8) => ?_)
  · rw [if_neg c_1] at h
    refine lv_iload_n hx hb dX6_narrowed_11 rfl (lv_at hl 0 rfl) ?_
    refine lv_bipush (v := 16) hx hb dX6_narrowed_12 (by decide) ?_
    refine lv_icmp_ne (tgt := 22) hx hb dX6_narrowed_14 (by decide) (fun (c_2 : ¬ x0 = 16) => ?_) (fun (c_2 : x0 = 16) => ?_)
    · rw [if_neg c_2] at h
      refine lv_iload_n hx hb dX6_narrowed_22 rfl (lv_at hl 1 rfl) ?_
      exact m_si hx hb hr hlk h dX6_narrowed_23
    · rw [if_pos c_2] at h
      refine lv_iload_n hx hb dX6_narrowed_17 rfl (lv_at hl 1 rfl) ?_
      refine lv_i2s (v := x1.toInt16.toInt32) hx hb dX6_narrowed_18 rfl ?_
      refine lv_goto (tgt := 23) hx hb dX6_narrowed_19 (by decide) ?_
      exact m_si hx hb hr hlk h dX6_narrowed_23
  · rw [if_pos c_1] at h
    refine lv_iload_n hx hb dX6_narrowed_6 rfl (lv_at hl 1 rfl) ?_
    refine lv_i2b (v := x1.toInt8.toInt32) hx hb dX6_narrowed_7 rfl ?_
    refine lv_goto (tgt := 23) hx hb dX6_narrowed_8 (by decide) ?_
    exact m_si hx hb hr hlk h dX6_narrowed_23

def f_X6_watch_J132 (x3_11 : Int32) (rec106 : Int32 → Int32 → Option (Int32 × Mem)) (t_17 : Int32) : Option (Int32 × Mem) := (rec106 t_17 (x3_11 + 1))
def f_X6_watch_B106 (σ_8 : Mem) (rec106 : Int32 → Int32 → Option (Int32 × Mem)) (x2_10 : Int32) (x3_11 : Int32) : Option (Int32 × Mem) := (if 12 ≤ x3_11 then ((f_X6_takesBack x2_10 σ_8).bind fun q_13 => some (q_13.1, q_13.2)) else (chk x3_11 12 (chk x2_10 12 (f_X6_watch_J132 x3_11 rec106 (if (σ_8 7 x3_11.toNatClampNeg) ≤ (σ_8 7 x2_10.toNatClampNeg) then x2_10 else x3_11)))))
def f_X6_watch_B57 (x2_7 : Int32) (rec46 : Int32 → Mem → Option (Int32 × Mem)) (rec57 : Int32 → Mem → Option (Int32 × Mem)) (x3_23 : Int32) (σ_24 : Mem) : Option (Int32 × Mem) := (if 12 ≤ x3_23 then (rec46 (x2_7 + 1) σ_24) else (chk x3_23 12 (chk (12 + x3_23) 74 (chk x3_23 12 (chk x3_23 12 (rec57 (x3_23 + 1) (mst σ_24 7 x3_23.toNatClampNeg ((σ_24 7 x3_23.toNatClampNeg) + (f_X6_distance (σ_24 1 ((12 + x3_23).toNatClampNeg)) (σ_24 6 x3_23.toNatClampNeg))))))))))
def f_X6_watch_B46 (x1 : Int32) (rec46 : Int32 → Mem → Option (Int32 × Mem)) (x2_7 : Int32) (σ_8 : Mem) : Option (Int32 × Mem) := (if x1 ≤ x2_7 then (it2 (f_X6_watch_B106 σ_8) FU 0 1) else ((f_X6_hour σ_8).bind fun q_21 => (it2 (f_X6_watch_B57 x2_7 rec46) FU 0 q_21)))
def f_X6_watch_B21 (x1 : Int32) (rec21 : Int32 → Mem → Option (Int32 × Mem)) (x2_2 : Int32) (σ_3 : Mem) : Option (Int32 × Mem) := (if 12 ≤ x2_2 then ((f_X6_laysAside σ_3).bind fun q_5 => (it2 (f_X6_watch_B46 x1) FU 0 q_5)) else (chk x2_2 12 (rec21 (x2_2 + 1) (mst σ_3 7 x2_2.toNatClampNeg 0))))
def f_X6_watch (x1 : Int32) (σ : Mem) : Option (Int32 × Mem) := (if (f_X6_in x1.toInt64 1 60) = 0 then ((f_X6_finds (-1000001) σ).bind fun q_34 => some (q_34.1, q_34.2)) else (it2 (f_X6_watch_B21 x1) FU 0 σ))
set_option maxHeartbeats 4000000 in
set_option maxRecDepth 100000 in
theorem k_X6_watch (l : Launch) (G : GG) (a : Nat → Nat) (σ : Mem) (hj : INJ nM a) (x1 : Int32) (q : Int32 × Mem) (h : f_X6_watch x1 σ = some q) : Met l yX6_watch (Cond.code yX6_watch cX6_watch 4 (some .int) :: TB) ({ frames := 5, cells := 0, slots := 0, locals := 110 } : Room) (PA G kM nM a σ [.ref (a 0), .int x1]) (QI G kM nM a q) 0 0 (AW nM a) := by
  refine M_ofW (by decide) hj kM_lt (Nat.le_of_ble_eq_true rfl) (fun p e s m below meth c ls C0 hb hml hr hlk hP hS hl => ?_)
  have C0 : CT p s _ m RX6 G kM nM a := C0
  have hx := C0.1
  have hts := C0.2.1
  have hown := C0.2.2.1
  have hl : lv_has ls 4 [(0, .ref (a 0)), (1, .int x1)] := hl
  unfold f_X6_watch at h
  refine lv_iload_n hx hb dX6_watch_0 rfl (lv_at hl 1 rfl) ?_
  refine lv_i2l (v := x1.toInt64) hx hb dX6_watch_1 rfl ?_
  refine lv_lconst (v := 1) hx hb dX6_watch_2 (by decide) ?_
  refine lv_ldc2 hx hb hown (hts _ wk_X6_185) dX6_watch_3 ?_
  refine m_pSi (As := [.long x1.toInt64, .long 1, .long 60]) (rest := []) C0.z hb hml hl.1 wm_X6_49 md_X6_in (k_X6_in l x1.toInt64 1 60) rfl rfl ⟨(Nat.le_of_ble_eq_true rfl), (Nat.le_of_ble_eq_true rfl)⟩ rfl rfl (Nat.le_of_ble_eq_true rfl) dX6_watch_6 ?_
  refine lv_if_ne (tgt := 19) hx hb dX6_watch_9 (by decide) (fun (c_1 : ¬ (f_X6_in x1.toInt64 1 60) = 0) => ?_) (fun (c_1 : (f_X6_in x1.toInt64 1 60) = 0) => ?_)
  · rw [if_neg c_1] at h
    refine lv_iconst (v := 0) hx hb dX6_watch_19 (by decide) ?_
    refine lv_istore_n (lv' := [(2, .int 0), (0, .ref (a 0)), (1, .int x1)]) hx hb dX6_watch_20 rfl hl (by decide) rfl (fun ls hl => ?_)
    have L_33 : ∀ (fu21 : Nat) (x2_2 : Int32) (σ_3 : Mem) (H : Heap) (locs : List Loc) (ls : Array Slot), it2 (f_X6_watch_B21 x1) fu21 x2_2 σ_3 = some q → HP G kM nM a σ_3 H → va_S (AW nM a) s.heap H locs → lv_has ls 4 [(2, .int x2_2), (0, .ref (a 0)), (1, .int x1)] → W p l e ({ frames := 5, cells := 0, slots := 0, locals := 110 } : Room) s m ([.ref (a 0), .int x1] : List Value).toArray below meth c H locs 0 0 (MQ below (QI G kM nM a q) ([.ref (a 0), .int x1] : List Value).toArray s 0 0 (AW nM a)) (F0 m 21 ls []) := by
      intro fu21
      induction fu21 with
      | zero =>
        intro x2_2 σ_3 H locs ls h
        cases h
      | succ fu21 ih21 =>
        intro x2_2 σ_3 H locs ls h hP hS hl
        replace h : (f_X6_watch_B21 x1) (it2 (f_X6_watch_B21 x1) fu21) x2_2 σ_3 = some q := h
        generalize it2 (f_X6_watch_B21 x1) fu21 = rec21 at h ih21
        unfold f_X6_watch_B21 at h
        refine lv_iload_n hx hb dX6_watch_21 rfl (lv_at hl 0 rfl) ?_
        refine lv_bipush (v := 12) hx hb dX6_watch_22 (by decide) ?_
        refine lv_icmp_ge (tgt := 40) hx hb dX6_watch_24 (by decide) (fun (c_4 : 12 ≤ x2_2) => ?_) (fun (c_4 : ¬ 12 ≤ x2_2) => ?_)
        · rw [if_pos c_4] at h
          refine lv_aload_n hx hb dX6_watch_40 rfl (lv_at hl 1 rfl) ?_
          obtain ⟨q_5, hq_6, h⟩ := bd_s h
          refine m_cVv (As := []) (rest := []) (o := 0) (ci := 6) C0 hb hml hl.1 wm_X6_156 md_X6_laysAside (k_X6_laysAside l G a σ_3 hj q_5 hq_6) rfl rfl ⟨(Nat.le_of_ble_eq_true rfl), (Nat.le_of_ble_eq_true rfl)⟩ hP hS (rfl : kM 0 = 6) (by decide) rfl rfl rfl (Nat.le_of_ble_eq_true rfl) dX6_watch_41 (fun H locs hP hS => ?_)
          refine lv_iconst (v := 0) hx hb dX6_watch_44 (by decide) ?_
          refine lv_istore_n (lv' := [(2, .int 0), (0, .ref (a 0)), (1, .int x1)]) hx hb dX6_watch_45 rfl hl (by decide) rfl (fun ls hl => ?_)
          have L_31 : ∀ (fu46 : Nat) (x2_7 : Int32) (σ_8 : Mem) (H : Heap) (locs : List Loc) (ls : Array Slot), it2 (f_X6_watch_B46 x1) fu46 x2_7 σ_8 = some q → HP G kM nM a σ_8 H → va_S (AW nM a) s.heap H locs → lv_has ls 4 [(2, .int x2_7), (0, .ref (a 0)), (1, .int x1)] → W p l e ({ frames := 5, cells := 0, slots := 0, locals := 110 } : Room) s m ([.ref (a 0), .int x1] : List Value).toArray below meth c H locs 0 0 (MQ below (QI G kM nM a q) ([.ref (a 0), .int x1] : List Value).toArray s 0 0 (AW nM a)) (F0 m 46 ls []) := by
            intro fu46
            induction fu46 with
            | zero =>
              intro x2_7 σ_8 H locs ls h
              cases h
            | succ fu46 ih46 =>
              intro x2_7 σ_8 H locs ls h hP hS hl
              replace h : (f_X6_watch_B46 x1) (it2 (f_X6_watch_B46 x1) fu46) x2_7 σ_8 = some q := h
              generalize it2 (f_X6_watch_B46 x1) fu46 = rec46 at h ih46
              unfold f_X6_watch_B46 at h
              refine lv_iload_n hx hb dX6_watch_46 rfl (lv_at hl 0 rfl) ?_
              refine lv_iload_n hx hb dX6_watch_47 rfl (lv_at hl 2 rfl) ?_
              refine lv_icmp_ge (tgt := 102) hx hb dX6_watch_48 (by decide) (fun (c_9 : x1 ≤ x2_7) => ?_) (fun (c_9 : ¬ x1 ≤ x2_7) => ?_)
              · rw [if_pos c_9] at h
                refine lv_iconst (v := 0) hx hb dX6_watch_102 (by decide) ?_
                refine lv_istore_n (lv' := [(2, .int 0), (0, .ref (a 0)), (1, .int x1)]) hx hb dX6_watch_103 rfl hl (by decide) rfl (fun ls hl => ?_)
                refine lv_iconst (v := 1) hx hb dX6_watch_104 (by decide) ?_
                refine lv_istore_n (lv' := [(3, .int 1), (2, .int 0), (0, .ref (a 0)), (1, .int x1)]) hx hb dX6_watch_105 rfl hl (by decide) rfl (fun ls hl => ?_)
                have L_20 : ∀ (fu106 : Nat) (x2_10 : Int32) (x3_11 : Int32) (H : Heap) (locs : List Loc) (ls : Array Slot), it2 (f_X6_watch_B106 σ_8) fu106 x2_10 x3_11 = some q → HP G kM nM a σ_8 H → va_S (AW nM a) s.heap H locs → lv_has ls 4 [(3, .int x3_11), (2, .int x2_10), (0, .ref (a 0))] → W p l e ({ frames := 5, cells := 0, slots := 0, locals := 110 } : Room) s m ([.ref (a 0), .int x1] : List Value).toArray below meth c H locs 0 0 (MQ below (QI G kM nM a q) ([.ref (a 0), .int x1] : List Value).toArray s 0 0 (AW nM a)) (F0 m 106 ls []) := by
                  intro fu106
                  induction fu106 with
                  | zero =>
                    intro x2_10 x3_11 H locs ls h
                    cases h
                  | succ fu106 ih106 =>
                    intro x2_10 x3_11 H locs ls h hP hS hl
                    replace h : (f_X6_watch_B106 σ_8) (it2 (f_X6_watch_B106 σ_8) fu106) x2_10 x3_11 = some q := h
                    generalize it2 (f_X6_watch_B106 σ_8) fu106 = rec106 at h ih106
                    unfold f_X6_watch_B106 at h
                    refine lv_iload_n hx hb dX6_watch_106 rfl (lv_at hl 0 rfl) ?_
                    refine lv_bipush (v := 12) hx hb dX6_watch_107 (by decide) ?_
                    refine lv_icmp_ge (tgt := 139) hx hb dX6_watch_109 (by decide) (fun (c_12 : 12 ≤ x3_11) => ?_) (fun (c_12 : ¬ 12 ≤ x3_11) => ?_)
                    · rw [if_pos c_12] at h
                      refine lv_aload_n hx hb dX6_watch_139 rfl (lv_at hl 2 rfl) ?_
                      refine lv_iload_n hx hb dX6_watch_140 rfl (lv_at hl 1 rfl) ?_
                      obtain ⟨q_13, hq_14, h⟩ := bd_s h
                      refine m_cVi (As := [.int x2_10]) (rest := []) (o := 0) (ci := 6) C0 hb hml hl.1 wm_X6_159 md_X6_takesBack (k_X6_takesBack l G a σ_8 hj x2_10 q_13 hq_14) rfl rfl ⟨(Nat.le_of_ble_eq_true rfl), (Nat.le_of_ble_eq_true rfl)⟩ hP hS (rfl : kM 0 = 6) (by decide) rfl rfl rfl (Nat.le_of_ble_eq_true rfl) dX6_watch_141 (fun H locs hP hS => ?_)
                      exact m_ri hx hb hr hlk hP hS (Option.some.inj h) dX6_watch_144
                    · rw [if_neg c_12] at h
                      refine lv_aload_n hx hb dX6_watch_112 rfl (lv_at hl 2 rfl) ?_
                      refine gf_X6_28 (o := 0) (o2 := 7) C0 hb hP (rfl : kM 0 = 6) rfl dX6_watch_113 ?_
                      refine lv_iload_n hx hb dX6_watch_116 rfl (lv_at hl 0 rfl) ?_
                      obtain ⟨hi_15, h⟩ := chk_s h
                      refine m_iald (o := 7) (N := 12) (i := x3_11) (j := x3_11.toNatClampNeg) C0 hb hP (rfl : kM 7 = 100 + 12) (by decide) hi_15 rfl dX6_watch_117 ?_
                      refine lv_aload_n hx hb dX6_watch_118 rfl (lv_at hl 2 rfl) ?_
                      refine gf_X6_28 (o := 0) (o2 := 7) C0 hb hP (rfl : kM 0 = 6) rfl dX6_watch_119 ?_
                      refine lv_iload_n hx hb dX6_watch_122 rfl (lv_at hl 1 rfl) ?_
                      obtain ⟨hi_16, h⟩ := chk_s h
                      refine m_iald (o := 7) (N := 12) (i := x2_10) (j := x2_10.toNatClampNeg) C0 hb hP (rfl : kM 7 = 100 + 12) (by decide) hi_16 rfl dX6_watch_123 ?_
                      have J_18 : ∀ (t_17 : Int32) (H : Heap) (locs : List Loc) (ls : Array Slot), f_X6_watch_J132 x3_11 rec106 t_17 = some q → HP G kM nM a σ_8 H → va_S (AW nM a) s.heap H locs → lv_has ls 4 [(3, .int x3_11), (0, .ref (a 0))] → W p l e ({ frames := 5, cells := 0, slots := 0, locals := 110 } : Room) s m ([.ref (a 0), .int x1] : List Value).toArray below meth c H locs 0 0 (MQ below (QI G kM nM a q) ([.ref (a 0), .int x1] : List Value).toArray s 0 0 (AW nM a)) (F0 m 132 ls [.int t_17]) := by
                        intro t_17 H locs ls h hP hS hl
                        unfold f_X6_watch_J132 at h
                        refine lv_istore_n (lv' := [(2, .int t_17), (3, .int x3_11), (0, .ref (a 0))]) hx hb dX6_watch_132 rfl hl (by decide) rfl (fun ls hl => ?_)
                        refine lv_iinc (v := x3_11 + 1) (lv' := [(3, .int (x3_11 + 1)), (2, .int t_17), (0, .ref (a 0))]) hx hb dX6_watch_133 hl (k := 1) rfl rfl (by decide) rfl (fun ls hl => ?_)
                        refine lv_goto (tgt := 106) hx hb dX6_watch_136 (by decide) ?_
                        exact ih106 t_17 (x3_11 + 1) _ _ _ h hP hS (lv_sub hl [0, 1, 2] rfl)
                      refine lv_icmp_le (tgt := 131) hx hb dX6_watch_124 (by decide) (fun (c_19 : (σ_8 7 x3_11.toNatClampNeg) ≤ (σ_8 7 x2_10.toNatClampNeg)) => ?_) (fun (c_19 : ¬ (σ_8 7 x3_11.toNatClampNeg) ≤ (σ_8 7 x2_10.toNatClampNeg)) => ?_)
                      · rw [if_pos c_19] at h
                        refine lv_iload_n hx hb dX6_watch_131 rfl (lv_at hl 1 rfl) ?_
                        exact J_18 x2_10 _ _ _ h hP hS (lv_sub hl [0, 2] rfl)
                      · rw [if_neg c_19] at h
                        refine lv_iload_n hx hb dX6_watch_127 rfl (lv_at hl 0 rfl) ?_
                        refine lv_goto (tgt := 132) hx hb dX6_watch_128 (by decide) ?_
                        exact J_18 x3_11 _ _ _ h hP hS (lv_sub hl [0, 2] rfl)
                exact L_20 FU 0 1 _ _ _ h hP hS (lv_sub hl [0, 1, 2] rfl)
              · rw [if_neg c_9] at h
                refine lv_aload_n hx hb dX6_watch_51 rfl (lv_at hl 1 rfl) ?_
                obtain ⟨q_21, hq_22, h⟩ := bd_s h
                refine m_cVv (As := []) (rest := []) (o := 0) (ci := 6) C0 hb hml hl.1 wm_X6_134 md_X6_hour (k_X6_hour l G a σ_8 hj q_21 hq_22) rfl rfl ⟨(Nat.le_of_ble_eq_true rfl), (Nat.le_of_ble_eq_true rfl)⟩ hP hS (rfl : kM 0 = 6) (by decide) rfl rfl rfl (Nat.le_of_ble_eq_true rfl) dX6_watch_52 (fun H locs hP hS => ?_)
                refine lv_iconst (v := 0) hx hb dX6_watch_55 (by decide) ?_
                refine lv_istore_n (lv' := [(3, .int 0), (2, .int x2_7), (0, .ref (a 0)), (1, .int x1)]) hx hb dX6_watch_56 rfl hl (by decide) rfl (fun ls hl => ?_)
                have L_30 : ∀ (fu57 : Nat) (x3_23 : Int32) (σ_24 : Mem) (H : Heap) (locs : List Loc) (ls : Array Slot), it2 (f_X6_watch_B57 x2_7 rec46) fu57 x3_23 σ_24 = some q → HP G kM nM a σ_24 H → va_S (AW nM a) s.heap H locs → lv_has ls 4 [(3, .int x3_23), (2, .int x2_7), (0, .ref (a 0)), (1, .int x1)] → W p l e ({ frames := 5, cells := 0, slots := 0, locals := 110 } : Room) s m ([.ref (a 0), .int x1] : List Value).toArray below meth c H locs 0 0 (MQ below (QI G kM nM a q) ([.ref (a 0), .int x1] : List Value).toArray s 0 0 (AW nM a)) (F0 m 57 ls []) := by
                  intro fu57
                  induction fu57 with
                  | zero =>
                    intro x3_23 σ_24 H locs ls h
                    cases h
                  | succ fu57 ih57 =>
                    intro x3_23 σ_24 H locs ls h hP hS hl
                    replace h : (f_X6_watch_B57 x2_7 rec46) (it2 (f_X6_watch_B57 x2_7 rec46) fu57) x3_23 σ_24 = some q := h
                    generalize it2 (f_X6_watch_B57 x2_7 rec46) fu57 = rec57 at h ih57
                    unfold f_X6_watch_B57 at h
                    refine lv_iload_n hx hb dX6_watch_57 rfl (lv_at hl 0 rfl) ?_
                    refine lv_bipush (v := 12) hx hb dX6_watch_58 (by decide) ?_
                    refine lv_icmp_ge (tgt := 96) hx hb dX6_watch_60 (by decide) (fun (c_25 : 12 ≤ x3_23) => ?_) (fun (c_25 : ¬ 12 ≤ x3_23) => ?_)
                    · rw [if_pos c_25] at h
                      refine lv_iinc (v := x2_7 + 1) (lv' := [(2, .int (x2_7 + 1)), (3, .int x3_23), (0, .ref (a 0)), (1, .int x1)]) hx hb dX6_watch_96 hl (k := 1) rfl rfl (by decide) rfl (fun ls hl => ?_)
                      refine lv_goto (tgt := 46) hx hb dX6_watch_99 (by decide) ?_
                      exact ih46 (x2_7 + 1) σ_24 _ _ _ h hP hS (lv_sub hl [0, 2, 3] rfl)
                    · rw [if_neg c_25] at h
                      refine lv_aload_n hx hb dX6_watch_63 rfl (lv_at hl 2 rfl) ?_
                      refine gf_X6_28 (o := 0) (o2 := 7) C0 hb hP (rfl : kM 0 = 6) rfl dX6_watch_64 ?_
                      refine lv_iload_n hx hb dX6_watch_67 rfl (lv_at hl 0 rfl) ?_
                      refine lv_dup2_11 hx hb dX6_watch_68 rfl rfl ?_
                      obtain ⟨hi_26, h⟩ := chk_s h
                      refine m_iald (o := 7) (N := 12) (i := x3_23) (j := x3_23.toNatClampNeg) C0 hb hP (rfl : kM 7 = 100 + 12) (by decide) hi_26 rfl dX6_watch_69 ?_
                      refine lv_aload_n hx hb dX6_watch_70 rfl (lv_at hl 2 rfl) ?_
                      refine gf_X6_7 (o := 0) (o2 := 1) C0 hb hP (rfl : kM 0 = 6) rfl dX6_watch_71 ?_
                      refine lv_bipush (v := 12) hx hb dX6_watch_74 (by decide) ?_
                      refine lv_iload_n hx hb dX6_watch_76 rfl (lv_at hl 0 rfl) ?_
                      refine lv_iadd hx hb dX6_watch_77 ?_
                      obtain ⟨hi_27, h⟩ := chk_s h
                      refine m_iald (o := 1) (N := 74) (i := 12 + x3_23) (j := (12 + x3_23).toNatClampNeg) C0 hb hP (rfl : kM 1 = 100 + 74) (by decide) hi_27 rfl dX6_watch_78 ?_
                      refine lv_aload_n hx hb dX6_watch_79 rfl (lv_at hl 2 rfl) ?_
                      refine gf_X6_25 (o := 0) (o2 := 6) C0 hb hP (rfl : kM 0 = 6) rfl dX6_watch_80 ?_
                      refine lv_iload_n hx hb dX6_watch_83 rfl (lv_at hl 0 rfl) ?_
                      obtain ⟨hi_28, h⟩ := chk_s h
                      refine m_iald (o := 6) (N := 12) (i := x3_23) (j := x3_23.toNatClampNeg) C0 hb hP (rfl : kM 6 = 100 + 12) (by decide) hi_28 rfl dX6_watch_84 ?_
                      refine m_pSi (As := [.int (σ_24 1 ((12 + x3_23).toNatClampNeg)), .int (σ_24 6 x3_23.toNatClampNeg)]) (rest := [.int (σ_24 7 x3_23.toNatClampNeg), .int x3_23, .ref (a 7)]) C0.z hb hml hl.1 wm_X6_125 md_X6_distance (k_X6_distance l (σ_24 1 ((12 + x3_23).toNatClampNeg)) (σ_24 6 x3_23.toNatClampNeg)) rfl rfl ⟨(Nat.le_of_ble_eq_true rfl), (Nat.le_of_ble_eq_true rfl)⟩ rfl rfl (Nat.le_of_ble_eq_true rfl) dX6_watch_85 ?_
                      refine lv_iadd hx hb dX6_watch_88 ?_
                      obtain ⟨hi_29, h⟩ := chk_s h
                      refine m_iast (o := 7) (N := 12) (i := x3_23) (j := x3_23.toNatClampNeg) C0 hb hP hS (rfl : kM 7 = 100 + 12) (by decide) hi_29 rfl dX6_watch_89 (fun H locs hP hS => ?_)
                      refine lv_iinc (v := x3_23 + 1) (lv' := [(3, .int (x3_23 + 1)), (2, .int x2_7), (0, .ref (a 0)), (1, .int x1)]) hx hb dX6_watch_90 hl (k := 0) rfl rfl (by decide) rfl (fun ls hl => ?_)
                      refine lv_goto (tgt := 57) hx hb dX6_watch_93 (by decide) ?_
                      exact ih57 (x3_23 + 1) (mst σ_24 7 x3_23.toNatClampNeg ((σ_24 7 x3_23.toNatClampNeg) + (f_X6_distance (σ_24 1 ((12 + x3_23).toNatClampNeg)) (σ_24 6 x3_23.toNatClampNeg)))) _ _ _ h hP hS (lv_sub hl [0, 1, 2, 3] rfl)
                exact L_30 FU 0 q_21 _ _ _ h hP hS (lv_sub hl [0, 1, 2, 3] rfl)
          exact L_31 FU 0 q_5 _ _ _ h hP hS (lv_sub hl [0, 1, 2] rfl)
        · rw [if_neg c_4] at h
          refine lv_aload_n hx hb dX6_watch_27 rfl (lv_at hl 1 rfl) ?_
          refine gf_X6_28 (o := 0) (o2 := 7) C0 hb hP (rfl : kM 0 = 6) rfl dX6_watch_28 ?_
          refine lv_iload_n hx hb dX6_watch_31 rfl (lv_at hl 0 rfl) ?_
          refine lv_iconst (v := 0) hx hb dX6_watch_32 (by decide) ?_
          obtain ⟨hi_32, h⟩ := chk_s h
          refine m_iast (o := 7) (N := 12) (i := x2_2) (j := x2_2.toNatClampNeg) C0 hb hP hS (rfl : kM 7 = 100 + 12) (by decide) hi_32 rfl dX6_watch_33 (fun H locs hP hS => ?_)
          refine lv_iinc (v := x2_2 + 1) (lv' := [(2, .int (x2_2 + 1)), (0, .ref (a 0)), (1, .int x1)]) hx hb dX6_watch_34 hl (k := 0) rfl rfl (by decide) rfl (fun ls hl => ?_)
          refine lv_goto (tgt := 21) hx hb dX6_watch_37 (by decide) ?_
          exact ih21 (x2_2 + 1) (mst σ_3 7 x2_2.toNatClampNeg 0) _ _ _ h hP hS (lv_sub hl [0, 1, 2] rfl)
    exact L_33 FU 0 σ _ _ _ h hP hS (lv_sub hl [0, 1, 2] rfl)
  · rw [if_pos c_1] at h
    refine lv_aload_n hx hb dX6_watch_12 rfl (lv_at hl 0 rfl) ?_
    refine lv_ldc hx hb hown (hts _ wk_X6_46) dX6_watch_13 ?_
    obtain ⟨q_34, hq_35, h⟩ := bd_s h
    refine m_cVi (As := [.int (-1000001)]) (rest := []) (o := 0) (ci := 6) C0 hb hml hl.1 wm_X6_75 md_X6_finds (k_X6_finds l G a σ hj (-1000001) q_34 hq_35) rfl rfl ⟨(Nat.le_of_ble_eq_true rfl), (Nat.le_of_ble_eq_true rfl)⟩ hP hS (rfl : kM 0 = 6) (by decide) rfl rfl rfl (Nat.le_of_ble_eq_true rfl) dX6_watch_15 (fun H locs hP hS => ?_)
    exact m_ri hx hb hr hlk hP hS (Option.some.inj h) dX6_watch_18
def f_X6_isTold_J77 (σ_3 : Mem) (t_5 : Int32) : Option (Int32 × Mem) := ((f_X6_takesBack t_5 σ_3).bind fun q_6 => (if q_6.1 = 1 then some (1, q_6.2) else some (0, q_6.2)))
def f_X6_isTold_J67 (x3_1 : Int32) (σ_3 : Mem) : Option (Int32 × Mem) := (f_X6_isTold_J77 σ_3 (if x3_1 = 0 then 0 else 1))
def f_X6_isTold_J56 (x4_2 : Int32) (σ_3 : Mem) (rec5 : Int32 → Int32 → Mem → Option (Int32 × Mem)) (t_15 : Int32) : Option (Int32 × Mem) := ((f_X6_hour σ_3).bind fun q_16 => (rec5 t_15 (x4_2 + 1) q_16))
def f_X6_isTold_J51 (x4_2 : Int32) (σ_3 : Mem) (rec5 : Int32 → Int32 → Mem → Option (Int32 × Mem)) : Option (Int32 × Mem) := (f_X6_isTold_J56 x4_2 σ_3 rec5 1)
def f_X6_isTold_B5 (x1 : Int32) (x2 : Int32) (rec5 : Int32 → Int32 → Mem → Option (Int32 × Mem)) (x3_1 : Int32) (x4_2 : Int32) (σ_3 : Mem) : Option (Int32 × Mem) := (chk x1 4 (if (σ_3 10 x1.toNatClampNeg) ≤ x4_2 then (f_X6_isTold_J67 x3_1 σ_3) else (if x3_1 = 0 then (f_X6_isTold_J67 x3_1 σ_3) else (chk ((40 * x1) + x4_2) 160 (if (σ_3 11 (((40 * x1) + x4_2).toNatClampNeg)) = (-1) then (f_X6_isTold_J51 x4_2 σ_3 rec5) else (chk x2 74 (if (σ_3 11 (((40 * x1) + x4_2).toNatClampNeg)) = (σ_3 1 x2.toNatClampNeg) then (f_X6_isTold_J51 x4_2 σ_3 rec5) else (f_X6_isTold_J56 x4_2 σ_3 rec5 0))))))))
def f_X6_isTold (x1 : Int32) (x2 : Int32) (σ : Mem) : Option (Int32 × Mem) := (it3 (f_X6_isTold_B5 x1 x2) FU 1 0 σ)
set_option maxHeartbeats 4000000 in
set_option maxRecDepth 100000 in
theorem k_X6_isTold (l : Launch) (G : GG) (a : Nat → Nat) (σ : Mem) (hj : INJ nM a) (x1 : Int32) (x2 : Int32) (q : Int32 × Mem) (h : f_X6_isTold x1 x2 σ = some q) : Met l yX6_isTold (Cond.code yX6_isTold cX6_isTold 6 (some .boolean) :: TB) ({ frames := 5, cells := 0, slots := 0, locals := 110 } : Room) (PA G kM nM a σ [.ref (a 0), .int x1, .int x2]) (QI G kM nM a q) 0 0 (AW nM a) := by
  refine M_ofW (by decide) hj kM_lt (Nat.le_of_ble_eq_true rfl) (fun p e s m below meth c ls C0 hb hml hr hlk hP hS hl => ?_)
  have C0 : CT p s _ m RX6 G kM nM a := C0
  have hx := C0.1
  have hts := C0.2.1
  have hown := C0.2.2.1
  have hl : lv_has ls 6 [(0, .ref (a 0)), (1, .int x1), (2, .int x2)] := hl
  unfold f_X6_isTold at h
  refine lv_iconst (v := 1) hx hb dX6_isTold_0 (by decide) ?_
  refine lv_istore_n (lv' := [(3, .int 1), (0, .ref (a 0)), (1, .int x1), (2, .int x2)]) hx hb dX6_isTold_1 rfl hl (by decide) rfl (fun ls hl => ?_)
  refine lv_iconst (v := 0) hx hb dX6_isTold_2 (by decide) ?_
  refine lv_istore (lv' := [(4, .int 0), (3, .int 1), (0, .ref (a 0)), (1, .int x1), (2, .int x2)]) hx hb dX6_isTold_3 hl (by decide) rfl (fun ls hl => ?_)
  have L_23 : ∀ (fu5 : Nat) (x3_1 : Int32) (x4_2 : Int32) (σ_3 : Mem) (H : Heap) (locs : List Loc) (ls : Array Slot), it3 (f_X6_isTold_B5 x1 x2) fu5 x3_1 x4_2 σ_3 = some q → HP G kM nM a σ_3 H → va_S (AW nM a) s.heap H locs → lv_has ls 6 [(4, .int x4_2), (3, .int x3_1), (0, .ref (a 0)), (1, .int x1), (2, .int x2)] → W p l e ({ frames := 5, cells := 0, slots := 0, locals := 110 } : Room) s m ([.ref (a 0), .int x1, .int x2] : List Value).toArray below meth c H locs 0 0 (MQ below (QI G kM nM a q) ([.ref (a 0), .int x1, .int x2] : List Value).toArray s 0 0 (AW nM a)) (F0 m 5 ls []) := by
    intro fu5
    induction fu5 with
    | zero =>
      intro x3_1 x4_2 σ_3 H locs ls h
      cases h
    | succ fu5 ih5 =>
      intro x3_1 x4_2 σ_3 H locs ls h hP hS hl
      replace h : (f_X6_isTold_B5 x1 x2) (it3 (f_X6_isTold_B5 x1 x2) fu5) x3_1 x4_2 σ_3 = some q := h
      generalize it3 (f_X6_isTold_B5 x1 x2) fu5 = rec5 at h ih5
      unfold f_X6_isTold_B5 at h
      refine lv_iload hx hb dX6_isTold_5 (lv_at hl 0 rfl) ?_
      refine lv_aload_n hx hb dX6_isTold_7 rfl (lv_at hl 2 rfl) ?_
      refine gf_X6_37 (o := 0) (o2 := 10) C0 hb hP (rfl : kM 0 = 6) rfl dX6_isTold_8 ?_
      refine lv_iload_n hx hb dX6_isTold_11 rfl (lv_at hl 3 rfl) ?_
      obtain ⟨hi_4, h⟩ := chk_s h
      refine m_iald (o := 10) (N := 4) (i := x1) (j := x1.toNatClampNeg) C0 hb hP (rfl : kM 10 = 100 + 4) (by decide) hi_4 rfl dX6_isTold_12 ?_
      have J_11 : ∀  (H : Heap) (locs : List Loc) (ls : Array Slot), f_X6_isTold_J67 x3_1 σ_3 = some q → HP G kM nM a σ_3 H → va_S (AW nM a) s.heap H locs → lv_has ls 6 [(3, .int x3_1), (0, .ref (a 0))] → W p l e ({ frames := 5, cells := 0, slots := 0, locals := 110 } : Room) s m ([.ref (a 0), .int x1, .int x2] : List Value).toArray below meth c H locs 0 0 (MQ below (QI G kM nM a q) ([.ref (a 0), .int x1, .int x2] : List Value).toArray s 0 0 (AW nM a)) (F0 m 67 ls []) := by
        intro  H locs ls h hP hS hl
        unfold f_X6_isTold_J67 at h
        refine lv_aload_n hx hb dX6_isTold_67 rfl (lv_at hl 1 rfl) ?_
        refine lv_iload_n hx hb dX6_isTold_68 rfl (lv_at hl 0 rfl) ?_
        have J_9 : ∀ (t_5 : Int32) (H : Heap) (locs : List Loc) (ls : Array Slot), f_X6_isTold_J77 σ_3 t_5 = some q → HP G kM nM a σ_3 H → va_S (AW nM a) s.heap H locs → lv_has ls 6 [] → W p l e ({ frames := 5, cells := 0, slots := 0, locals := 110 } : Room) s m ([.ref (a 0), .int x1, .int x2] : List Value).toArray below meth c H locs 0 0 (MQ below (QI G kM nM a q) ([.ref (a 0), .int x1, .int x2] : List Value).toArray s 0 0 (AW nM a)) (F0 m 77 ls [.int t_5, .ref (a 0)]) := by
          intro t_5 H locs ls h hP hS hl
          unfold f_X6_isTold_J77 at h
          obtain ⟨q_6, hq_7, h⟩ := bd_s h
          refine m_cVi (As := [.int t_5]) (rest := []) (o := 0) (ci := 6) C0 hb hml hl.1 wm_X6_159 md_X6_takesBack (k_X6_takesBack l G a σ_3 hj t_5 q_6 hq_7) rfl rfl ⟨(Nat.le_of_ble_eq_true rfl), (Nat.le_of_ble_eq_true rfl)⟩ hP hS (rfl : kM 0 = 6) (by decide) rfl rfl rfl (Nat.le_of_ble_eq_true rfl) dX6_isTold_77 (fun H locs hP hS => ?_)
          refine lv_iconst (v := 1) hx hb dX6_isTold_80 (by decide) ?_
          refine lv_icmp_ne (tgt := 88) hx hb dX6_isTold_81 (by decide) (fun (c_8 : ¬ q_6.1 = 1) => ?_) (fun (c_8 : q_6.1 = 1) => ?_)
          · rw [if_neg c_8] at h
            refine lv_iconst (v := 0) hx hb dX6_isTold_88 (by decide) ?_
            exact m_rz hx hb hr hlk hP hS (Or.inl rfl) (Option.some.inj h) dX6_isTold_89
          · rw [if_pos c_8] at h
            refine lv_iconst (v := 1) hx hb dX6_isTold_84 (by decide) ?_
            refine lv_goto (tgt := 89) hx hb dX6_isTold_85 (by decide) ?_
            exact m_rz hx hb hr hlk hP hS (Or.inr rfl) (Option.some.inj h) dX6_isTold_89
        refine lv_if_eq (tgt := 76) hx hb dX6_isTold_69 (by decide) (fun (c_10 : x3_1 = 0) => ?_) (fun (c_10 : ¬ x3_1 = 0) => ?_)
        · rw [if_pos c_10] at h
          refine lv_iconst (v := 0) hx hb dX6_isTold_76 (by decide) ?_
          exact J_9 0 _ _ _ h hP hS (lv_sub hl [] rfl)
        · rw [if_neg c_10] at h
          refine lv_iconst (v := 1) hx hb dX6_isTold_72 (by decide) ?_
          refine lv_goto (tgt := 77) hx hb dX6_isTold_73 (by decide) ?_
          exact J_9 1 _ _ _ h hP hS (lv_sub hl [] rfl)
      refine lv_icmp_ge (tgt := 67) hx hb dX6_isTold_13 (by decide) (fun (c_12 : (σ_3 10 x1.toNatClampNeg) ≤ x4_2) => ?_) (fun (c_12 : ¬ (σ_3 10 x1.toNatClampNeg) ≤ x4_2) => ?_)
      · rw [if_pos c_12] at h
        exact J_11  _ _ _ h hP hS (lv_sub hl [1, 2] rfl)
      · rw [if_neg c_12] at h
        refine lv_iload_n hx hb dX6_isTold_16 rfl (lv_at hl 1 rfl) ?_
        refine lv_if_eq (tgt := 67) hx hb dX6_isTold_17 (by decide) (fun (c_13 : x3_1 = 0) => ?_) (fun (c_13 : ¬ x3_1 = 0) => ?_)
        · rw [if_pos c_13] at h
          exact J_11  _ _ _ h hP hS (lv_sub hl [1, 2] rfl)
        · rw [if_neg c_13] at h
          refine lv_aload_n hx hb dX6_isTold_20 rfl (lv_at hl 2 rfl) ?_
          refine gf_X6_40 (o := 0) (o2 := 11) C0 hb hP (rfl : kM 0 = 6) rfl dX6_isTold_21 ?_
          refine lv_bipush (v := 40) hx hb dX6_isTold_24 (by decide) ?_
          refine lv_iload_n hx hb dX6_isTold_26 rfl (lv_at hl 3 rfl) ?_
          refine lv_imul hx hb dX6_isTold_27 ?_
          refine lv_iload hx hb dX6_isTold_28 (lv_at hl 0 rfl) ?_
          refine lv_iadd hx hb dX6_isTold_30 ?_
          obtain ⟨hi_14, h⟩ := chk_s h
          refine m_iald (o := 11) (N := 160) (i := (40 * x1) + x4_2) (j := ((40 * x1) + x4_2).toNatClampNeg) C0 hb hP (rfl : kM 11 = 100 + 160) (by decide) hi_14 rfl dX6_isTold_31 ?_
          refine lv_istore (lv' := [(5, .int (σ_3 11 (((40 * x1) + x4_2).toNatClampNeg))), (4, .int x4_2), (3, .int x3_1), (0, .ref (a 0)), (1, .int x1), (2, .int x2)]) hx hb dX6_isTold_32 hl (by decide) rfl (fun ls hl => ?_)
          refine lv_iload hx hb dX6_isTold_34 (lv_at hl 0 rfl) ?_
          refine lv_iconst (v := (-1)) hx hb dX6_isTold_36 (by decide) ?_
          have J_18 : ∀ (t_15 : Int32) (H : Heap) (locs : List Loc) (ls : Array Slot), f_X6_isTold_J56 x4_2 σ_3 rec5 t_15 = some q → HP G kM nM a σ_3 H → va_S (AW nM a) s.heap H locs → lv_has ls 6 [(4, .int x4_2), (0, .ref (a 0)), (1, .int x1), (2, .int x2)] → W p l e ({ frames := 5, cells := 0, slots := 0, locals := 110 } : Room) s m ([.ref (a 0), .int x1, .int x2] : List Value).toArray below meth c H locs 0 0 (MQ below (QI G kM nM a q) ([.ref (a 0), .int x1, .int x2] : List Value).toArray s 0 0 (AW nM a)) (F0 m 56 ls [.int t_15]) := by
            intro t_15 H locs ls h hP hS hl
            unfold f_X6_isTold_J56 at h
            refine lv_istore_n (lv' := [(3, .int t_15), (4, .int x4_2), (0, .ref (a 0)), (1, .int x1), (2, .int x2)]) hx hb dX6_isTold_56 rfl hl (by decide) rfl (fun ls hl => ?_)
            refine lv_aload_n hx hb dX6_isTold_57 rfl (lv_at hl 2 rfl) ?_
            obtain ⟨q_16, hq_17, h⟩ := bd_s h
            refine m_cVv (As := []) (rest := []) (o := 0) (ci := 6) C0 hb hml hl.1 wm_X6_134 md_X6_hour (k_X6_hour l G a σ_3 hj q_16 hq_17) rfl rfl ⟨(Nat.le_of_ble_eq_true rfl), (Nat.le_of_ble_eq_true rfl)⟩ hP hS (rfl : kM 0 = 6) (by decide) rfl rfl rfl (Nat.le_of_ble_eq_true rfl) dX6_isTold_58 (fun H locs hP hS => ?_)
            refine lv_iinc (v := x4_2 + 1) (lv' := [(4, .int (x4_2 + 1)), (3, .int t_15), (0, .ref (a 0)), (1, .int x1), (2, .int x2)]) hx hb dX6_isTold_61 hl (k := 1) rfl rfl (by decide) rfl (fun ls hl => ?_)
            refine lv_goto (tgt := 5) hx hb dX6_isTold_64 (by decide) ?_
            exact ih5 t_15 (x4_2 + 1) q_16 _ _ _ h hP hS (lv_sub hl [0, 1, 2, 3, 4] rfl)
          have J_19 : ∀  (H : Heap) (locs : List Loc) (ls : Array Slot), f_X6_isTold_J51 x4_2 σ_3 rec5 = some q → HP G kM nM a σ_3 H → va_S (AW nM a) s.heap H locs → lv_has ls 6 [(4, .int x4_2), (0, .ref (a 0)), (1, .int x1), (2, .int x2)] → W p l e ({ frames := 5, cells := 0, slots := 0, locals := 110 } : Room) s m ([.ref (a 0), .int x1, .int x2] : List Value).toArray below meth c H locs 0 0 (MQ below (QI G kM nM a q) ([.ref (a 0), .int x1, .int x2] : List Value).toArray s 0 0 (AW nM a)) (F0 m 51 ls []) := by
            intro  H locs ls h hP hS hl
            unfold f_X6_isTold_J51 at h
            refine lv_iconst (v := 1) hx hb dX6_isTold_51 (by decide) ?_
            refine lv_goto (tgt := 56) hx hb dX6_isTold_52 (by decide) ?_
            exact J_18 1 _ _ _ h hP hS (lv_sub hl [0, 1, 2, 3] rfl)
          refine lv_icmp_eq (tgt := 51) hx hb dX6_isTold_37 (by decide) (fun (c_20 : (σ_3 11 (((40 * x1) + x4_2).toNatClampNeg)) = (-1)) => ?_) (fun (c_20 : ¬ (σ_3 11 (((40 * x1) + x4_2).toNatClampNeg)) = (-1)) => ?_)
          · rw [if_pos c_20] at h
            exact J_19  _ _ _ h hP hS (lv_sub hl [1, 3, 4, 5] rfl)
          · rw [if_neg c_20] at h
            refine lv_iload hx hb dX6_isTold_40 (lv_at hl 0 rfl) ?_
            refine lv_aload_n hx hb dX6_isTold_42 rfl (lv_at hl 3 rfl) ?_
            refine gf_X6_7 (o := 0) (o2 := 1) C0 hb hP (rfl : kM 0 = 6) rfl dX6_isTold_43 ?_
            refine lv_iload_n hx hb dX6_isTold_46 rfl (lv_at hl 5 rfl) ?_
            obtain ⟨hi_21, h⟩ := chk_s h
            refine m_iald (o := 1) (N := 74) (i := x2) (j := x2.toNatClampNeg) C0 hb hP (rfl : kM 1 = 100 + 74) (by decide) hi_21 rfl dX6_isTold_47 ?_
            refine lv_icmp_ne (tgt := 55) hx hb dX6_isTold_48 (by decide) (fun (c_22 : ¬ (σ_3 11 (((40 * x1) + x4_2).toNatClampNeg)) = (σ_3 1 x2.toNatClampNeg)) => ?_) (fun (c_22 : (σ_3 11 (((40 * x1) + x4_2).toNatClampNeg)) = (σ_3 1 x2.toNatClampNeg)) => ?_)
            · rw [if_neg c_22] at h
              refine lv_iconst (v := 0) hx hb dX6_isTold_55 (by decide) ?_
              exact J_18 0 _ _ _ h hP hS (lv_sub hl [1, 3, 4, 5] rfl)
            · rw [if_pos c_22] at h
              exact J_19  _ _ _ h hP hS (lv_sub hl [1, 3, 4, 5] rfl)
  exact L_23 FU 1 0 σ _ _ _ h hP hS (lv_sub hl [0, 1, 2, 3, 4] rfl)
def f_X6_findOpened_J76 (x4_3 : Int32) (rec17 : Int32 → Mem → Option (Mem)) (σ_9 : Mem) : Option (Mem) := (rec17 (x4_3 + 1) σ_9)
def f_X6_findOpened_J63 (x4_3 : Int32) (rec17 : Int32 → Mem → Option (Mem)) (q_7 : Int32 × Mem) (t_12 : Int32) : Option (Mem) := (f_X6_findOpened_J76 x4_3 rec17 (mst (mst q_7.2 0 10 t_12) 0 11 (((mst q_7.2 0 10 t_12) 0 11) + 1)))
def f_X6_findOpened_B17 (x1 : Int32) (x2 : Int32) (x3 : Int32) (rec17 : Int32 → Mem → Option (Mem)) (x4_3 : Int32) (σ_4 : Mem) : Option (Mem) := (if 99 < x4_3 then some σ_4 else (chk (4 + x2) 74 ((f_X6_isTold x1 (12 + x3) (mst σ_4 1 ((4 + x2).toNatClampNeg) x4_3)).bind fun q_7 => (if q_7.1 = 0 then (f_X6_findOpened_J76 x4_3 rec17 q_7.2) else (f_X6_findOpened_J63 x4_3 rec17 q_7 (if (q_7.2 0 11) = 0 then x4_3 else q_7.2 0 10))))))
def f_X6_findOpened (x1 : Int32) (x2 : Int32) (x3 : Int32) (σ : Mem) : Option (Mem) := ((f_X6_laysAside (mst (mst σ 0 10 (-1)) 0 11 0)).bind fun q_1 => (it2 (f_X6_findOpened_B17 x1 x2 x3) FU 0 q_1))
set_option maxHeartbeats 4000000 in
set_option maxRecDepth 100000 in
theorem k_X6_findOpened (l : Launch) (G : GG) (a : Nat → Nat) (σ : Mem) (hj : INJ nM a) (x1 : Int32) (x2 : Int32) (x3 : Int32) (q : Mem) (h : f_X6_findOpened x1 x2 x3 σ = some q) : Met l yX6_findOpened (Cond.code yX6_findOpened cX6_findOpened 5 none :: TB) ({ frames := 6, cells := 0, slots := 0, locals := 135 } : Room) (PA G kM nM a σ [.ref (a 0), .int x1, .int x2, .int x3]) (QV G kM nM a q) 0 0 (AW nM a) := by
  refine M_ofW (by decide) hj kM_lt (Nat.le_of_ble_eq_true rfl) (fun p e s m below meth c ls C0 hb hml hr hlk hP hS hl => ?_)
  have C0 : CT p s _ m RX6 G kM nM a := C0
  have hx := C0.1
  have hts := C0.2.1
  have hown := C0.2.2.1
  have hl : lv_has ls 5 [(0, .ref (a 0)), (1, .int x1), (2, .int x2), (3, .int x3)] := hl
  unfold f_X6_findOpened at h
  refine lv_aload_n hx hb dX6_findOpened_0 rfl (lv_at hl 0 rfl) ?_
  refine lv_iconst (v := (-1)) hx hb dX6_findOpened_1 (by decide) ?_
  refine pf_X6_198 (o := 0) C0 hb hP hS (rfl : kM 0 = 6) dX6_findOpened_2 (fun H locs hP hS => ?_)
  refine lv_aload_n hx hb dX6_findOpened_5 rfl (lv_at hl 0 rfl) ?_
  refine lv_iconst (v := 0) hx hb dX6_findOpened_6 (by decide) ?_
  refine pf_X6_201 (o := 0) C0 hb hP hS (rfl : kM 0 = 6) dX6_findOpened_7 (fun H locs hP hS => ?_)
  refine lv_aload_n hx hb dX6_findOpened_10 rfl (lv_at hl 0 rfl) ?_
  obtain ⟨q_1, hq_2, h⟩ := bd_s h
  refine m_cVv (As := []) (rest := []) (o := 0) (ci := 6) C0 hb hml hl.1 wm_X6_156 md_X6_laysAside (k_X6_laysAside l G a (mst (mst σ 0 10 (-1)) 0 11 0) hj q_1 hq_2) rfl rfl ⟨(Nat.le_of_ble_eq_true rfl), (Nat.le_of_ble_eq_true rfl)⟩ hP hS (rfl : kM 0 = 6) (by decide) rfl rfl rfl (Nat.le_of_ble_eq_true rfl) dX6_findOpened_11 (fun H locs hP hS => ?_)
  refine lv_iconst (v := 0) hx hb dX6_findOpened_14 (by decide) ?_
  refine lv_istore (lv' := [(4, .int 0), (0, .ref (a 0)), (1, .int x1), (2, .int x2), (3, .int x3)]) hx hb dX6_findOpened_15 hl (by decide) rfl (fun ls hl => ?_)
  have L_15 : ∀ (fu17 : Nat) (x4_3 : Int32) (σ_4 : Mem) (H : Heap) (locs : List Loc) (ls : Array Slot), it2 (f_X6_findOpened_B17 x1 x2 x3) fu17 x4_3 σ_4 = some q → HP G kM nM a σ_4 H → va_S (AW nM a) s.heap H locs → lv_has ls 5 [(4, .int x4_3), (0, .ref (a 0)), (1, .int x1), (2, .int x2), (3, .int x3)] → W p l e ({ frames := 6, cells := 0, slots := 0, locals := 135 } : Room) s m ([.ref (a 0), .int x1, .int x2, .int x3] : List Value).toArray below meth c H locs 0 0 (MQ below (QV G kM nM a q) ([.ref (a 0), .int x1, .int x2, .int x3] : List Value).toArray s 0 0 (AW nM a)) (F0 m 17 ls []) := by
    intro fu17
    induction fu17 with
    | zero =>
      intro x4_3 σ_4 H locs ls h
      cases h
    | succ fu17 ih17 =>
      intro x4_3 σ_4 H locs ls h hP hS hl
      replace h : (f_X6_findOpened_B17 x1 x2 x3) (it2 (f_X6_findOpened_B17 x1 x2 x3) fu17) x4_3 σ_4 = some q := h
      generalize it2 (f_X6_findOpened_B17 x1 x2 x3) fu17 = rec17 at h ih17
      unfold f_X6_findOpened_B17 at h
      refine lv_iload hx hb dX6_findOpened_17 (lv_at hl 0 rfl) ?_
      refine lv_bipush (v := 99) hx hb dX6_findOpened_19 (by decide) ?_
      refine lv_icmp_gt (tgt := 82) hx hb dX6_findOpened_21 (by decide) (fun (c_5 : 99 < x4_3) => ?_) (fun (c_5 : ¬ 99 < x4_3) => ?_)
      · rw [if_pos c_5] at h
        exact m_rv hx hb hr hlk hP hS (Option.some.inj h) dX6_findOpened_82
      · rw [if_neg c_5] at h
        refine lv_aload_n hx hb dX6_findOpened_24 rfl (lv_at hl 1 rfl) ?_
        refine gf_X6_7 (o := 0) (o2 := 1) C0 hb hP (rfl : kM 0 = 6) rfl dX6_findOpened_25 ?_
        refine lv_iconst (v := 4) hx hb dX6_findOpened_28 (by decide) ?_
        refine lv_iload_n hx hb dX6_findOpened_29 rfl (lv_at hl 3 rfl) ?_
        refine lv_iadd hx hb dX6_findOpened_30 ?_
        refine lv_iload hx hb dX6_findOpened_31 (lv_at hl 0 rfl) ?_
        obtain ⟨hi_6, h⟩ := chk_s h
        refine m_iast (o := 1) (N := 74) (i := 4 + x2) (j := (4 + x2).toNatClampNeg) C0 hb hP hS (rfl : kM 1 = 100 + 74) (by decide) hi_6 rfl dX6_findOpened_33 (fun H locs hP hS => ?_)
        refine lv_aload_n hx hb dX6_findOpened_34 rfl (lv_at hl 1 rfl) ?_
        refine lv_iload_n hx hb dX6_findOpened_35 rfl (lv_at hl 2 rfl) ?_
        refine lv_bipush (v := 12) hx hb dX6_findOpened_36 (by decide) ?_
        refine lv_iload_n hx hb dX6_findOpened_38 rfl (lv_at hl 4 rfl) ?_
        refine lv_iadd hx hb dX6_findOpened_39 ?_
        obtain ⟨q_7, hq_8, h⟩ := bd_s h
        refine m_cVi (As := [.int x1, .int (12 + x3)]) (rest := []) (o := 0) (ci := 6) C0 hb hml hl.1 wm_X6_204 md_X6_isTold (k_X6_isTold l G a (mst σ_4 1 ((4 + x2).toNatClampNeg) x4_3) hj x1 (12 + x3) q_7 hq_8) rfl rfl ⟨(Nat.le_of_ble_eq_true rfl), (Nat.le_of_ble_eq_true rfl)⟩ hP hS (rfl : kM 0 = 6) (by decide) rfl rfl rfl (Nat.le_of_ble_eq_true rfl) dX6_findOpened_40 (fun H locs hP hS => ?_)
        have J_10 : ∀ (σ_9 : Mem) (H : Heap) (locs : List Loc) (ls : Array Slot), f_X6_findOpened_J76 x4_3 rec17 σ_9 = some q → HP G kM nM a σ_9 H → va_S (AW nM a) s.heap H locs → lv_has ls 5 [(4, .int x4_3), (0, .ref (a 0)), (1, .int x1), (2, .int x2), (3, .int x3)] → W p l e ({ frames := 6, cells := 0, slots := 0, locals := 135 } : Room) s m ([.ref (a 0), .int x1, .int x2, .int x3] : List Value).toArray below meth c H locs 0 0 (MQ below (QV G kM nM a q) ([.ref (a 0), .int x1, .int x2, .int x3] : List Value).toArray s 0 0 (AW nM a)) (F0 m 76 ls []) := by
          intro σ_9 H locs ls h hP hS hl
          unfold f_X6_findOpened_J76 at h
          refine lv_iinc (v := x4_3 + 1) (lv' := [(4, .int (x4_3 + 1)), (0, .ref (a 0)), (1, .int x1), (2, .int x2), (3, .int x3)]) hx hb dX6_findOpened_76 hl (k := 0) rfl rfl (by decide) rfl (fun ls hl => ?_)
          refine lv_goto (tgt := 17) hx hb dX6_findOpened_79 (by decide) ?_
          exact ih17 (x4_3 + 1) σ_9 _ _ _ h hP hS (lv_sub hl [0, 1, 2, 3, 4] rfl)
        refine lv_if_eq (tgt := 76) hx hb dX6_findOpened_43 (by decide) (fun (c_11 : q_7.1 = 0) => ?_) (fun (c_11 : ¬ q_7.1 = 0) => ?_)
        · rw [if_pos c_11] at h
          exact J_10 q_7.2 _ _ _ h hP hS (lv_sub hl [0, 1, 2, 3, 4] rfl)
        · rw [if_neg c_11] at h
          refine lv_aload_n hx hb dX6_findOpened_46 rfl (lv_at hl 1 rfl) ?_
          refine lv_aload_n hx hb dX6_findOpened_47 rfl (lv_at hl 1 rfl) ?_
          refine gf_X6_201 (o := 0) C0 hb hP (rfl : kM 0 = 6) dX6_findOpened_48 ?_
          have J_13 : ∀ (t_12 : Int32) (H : Heap) (locs : List Loc) (ls : Array Slot), f_X6_findOpened_J63 x4_3 rec17 q_7 t_12 = some q → HP G kM nM a q_7.2 H → va_S (AW nM a) s.heap H locs → lv_has ls 5 [(4, .int x4_3), (0, .ref (a 0)), (1, .int x1), (2, .int x2), (3, .int x3)] → W p l e ({ frames := 6, cells := 0, slots := 0, locals := 135 } : Room) s m ([.ref (a 0), .int x1, .int x2, .int x3] : List Value).toArray below meth c H locs 0 0 (MQ below (QV G kM nM a q) ([.ref (a 0), .int x1, .int x2, .int x3] : List Value).toArray s 0 0 (AW nM a)) (F0 m 63 ls [.int t_12, .ref (a 0)]) := by
            intro t_12 H locs ls h hP hS hl
            unfold f_X6_findOpened_J63 at h
            refine pf_X6_198 (o := 0) C0 hb hP hS (rfl : kM 0 = 6) dX6_findOpened_63 (fun H locs hP hS => ?_)
            refine lv_aload_n hx hb dX6_findOpened_66 rfl (lv_at hl 1 rfl) ?_
            refine lv_dup hx hb dX6_findOpened_67 rfl ?_
            refine gf_X6_201 (o := 0) C0 hb hP (rfl : kM 0 = 6) dX6_findOpened_68 ?_
            refine lv_iconst (v := 1) hx hb dX6_findOpened_71 (by decide) ?_
            refine lv_iadd hx hb dX6_findOpened_72 ?_
            refine pf_X6_201 (o := 0) C0 hb hP hS (rfl : kM 0 = 6) dX6_findOpened_73 (fun H locs hP hS => ?_)
            exact J_10 (mst (mst q_7.2 0 10 t_12) 0 11 (((mst q_7.2 0 10 t_12) 0 11) + 1)) _ _ _ h hP hS (lv_sub hl [0, 1, 2, 3, 4] rfl)
          refine lv_if_ne (tgt := 59) hx hb dX6_findOpened_51 (by decide) (fun (c_14 : ¬ (q_7.2 0 11) = 0) => ?_) (fun (c_14 : (q_7.2 0 11) = 0) => ?_)
          · rw [if_neg c_14] at h
            refine lv_aload_n hx hb dX6_findOpened_59 rfl (lv_at hl 1 rfl) ?_
            refine gf_X6_198 (o := 0) C0 hb hP (rfl : kM 0 = 6) dX6_findOpened_60 ?_
            exact J_13 (q_7.2 0 10) _ _ _ h hP hS (lv_sub hl [0, 1, 2, 3, 4] rfl)
          · rw [if_pos c_14] at h
            refine lv_iload hx hb dX6_findOpened_54 (lv_at hl 0 rfl) ?_
            refine lv_goto (tgt := 63) hx hb dX6_findOpened_56 (by decide) ?_
            exact J_13 x4_3 _ _ _ h hP hS (lv_sub hl [0, 1, 2, 3, 4] rfl)
  exact L_15 FU 0 q_1 _ _ _ h hP hS (lv_sub hl [0, 1, 2, 3, 4] rfl)
def f_X6_wrong (x1 : Int32) (σ : Mem) : Option (Int32) := (if (f_X6_isOne x1) = 0 then some (-1000001) else (chk x1 4 (if (σ 9 x1.toNatClampNeg) = 0 then some (-1000006) else some 0)))
set_option maxHeartbeats 4000000 in
set_option maxRecDepth 100000 in
theorem k_X6_wrong (l : Launch) (G : GG) (a : Nat → Nat) (σ : Mem) (hj : INJ nM a) (x1 : Int32) (q : Int32) (h : f_X6_wrong x1 σ = some q) : Met l yX6_wrong (Cond.code yX6_wrong cX6_wrong 2 (some .int) :: TB) ({ frames := 2, cells := 0, slots := 0, locals := 45 } : Room) (PA G kM nM a σ [.ref (a 0), .int x1]) (SI q) 0 0 NF := by
  refine M_ofW (by decide) hj kM_lt (Nat.le_of_ble_eq_true rfl) (fun p e s m below meth c ls C0 hb hml hr hlk hP hS hl => ?_)
  have C0 : CT p s _ m RX6 G kM nM a := C0
  have hx := C0.1
  have hts := C0.2.1
  have hown := C0.2.2.1
  have hl : lv_has ls 2 [(0, .ref (a 0)), (1, .int x1)] := hl
  unfold f_X6_wrong at h
  refine lv_iload_n hx hb dX6_wrong_0 rfl (lv_at hl 1 rfl) ?_
  refine m_pSi (As := [.int x1]) (rest := []) C0.z hb hml hl.1 wm_X6_331 md_X6_isOne (k_X6_isOne l x1) rfl rfl ⟨(Nat.le_of_ble_eq_true rfl), (Nat.le_of_ble_eq_true rfl)⟩ rfl rfl (Nat.le_of_ble_eq_true rfl) dX6_wrong_1 ?_
  refine lv_if_ne (tgt := 12) hx hb dX6_wrong_4 (by decide) (fun (c_1 : ¬ (f_X6_isOne x1) = 0) => ?_) (fun (c_1 : (f_X6_isOne x1) = 0) => ?_)
  · rw [if_neg c_1] at h
    refine lv_aload_n hx hb dX6_wrong_12 rfl (lv_at hl 0 rfl) ?_
    refine gf_X6_34 (o := 0) (o2 := 9) C0 hb hP (rfl : kM 0 = 6) rfl dX6_wrong_13 ?_
    refine lv_iload_n hx hb dX6_wrong_16 rfl (lv_at hl 1 rfl) ?_
    obtain ⟨hi_2, h⟩ := chk_s h
    refine m_iald (o := 9) (N := 4) (i := x1) (j := x1.toNatClampNeg) C0 hb hP (rfl : kM 9 = 100 + 4) (by decide) hi_2 rfl dX6_wrong_17 ?_
    refine lv_if_ne (tgt := 27) hx hb dX6_wrong_18 (by decide) (fun (c_3 : ¬ (σ 9 x1.toNatClampNeg) = 0) => ?_) (fun (c_3 : (σ 9 x1.toNatClampNeg) = 0) => ?_)
    · rw [if_neg c_3] at h
      refine lv_iconst (v := 0) hx hb dX6_wrong_27 (by decide) ?_
      exact m_si hx hb hr hlk (Option.some.inj h) dX6_wrong_28
    · rw [if_pos c_3] at h
      refine lv_ldcw hx hb hown (hts _ wk_X6_326) dX6_wrong_21 ?_
      refine lv_goto (tgt := 28) hx hb dX6_wrong_24 (by decide) ?_
      exact m_si hx hb hr hlk (Option.some.inj h) dX6_wrong_28
  · rw [if_pos c_1] at h
    refine lv_ldc hx hb hown (hts _ wk_X6_46) dX6_wrong_7 ?_
    refine lv_goto (tgt := 28) hx hb dX6_wrong_9 (by decide) ?_
    exact m_si hx hb hr hlk (Option.some.inj h) dX6_wrong_28
def f_X6_wrongOpened (x1 : Int32) (x2 : Int32) (x3 : Int32) (σ : Mem) : Option (Int32) := ((f_X6_wrong x1 σ).bind fun q_1 => (if q_1 = 0 then (if (f_X6_isHour x2) = 0 then some (-1000001) else (if (f_X6_isCell x3) = 0 then some (-1000001) else some 0)) else some q_1))
set_option maxHeartbeats 4000000 in
set_option maxRecDepth 100000 in
theorem k_X6_wrongOpened (l : Launch) (G : GG) (a : Nat → Nat) (σ : Mem) (hj : INJ nM a) (x1 : Int32) (x2 : Int32) (x3 : Int32) (q : Int32) (h : f_X6_wrongOpened x1 x2 x3 σ = some q) : Met l yX6_wrongOpened (Cond.code yX6_wrongOpened cX6_wrongOpened 5 (some .int) :: TB) ({ frames := 3, cells := 0, slots := 0, locals := 66 } : Room) (PA G kM nM a σ [.ref (a 0), .int x1, .int x2, .int x3]) (SI q) 0 0 NF := by
  refine M_ofW (by decide) hj kM_lt (Nat.le_of_ble_eq_true rfl) (fun p e s m below meth c ls C0 hb hml hr hlk hP hS hl => ?_)
  have C0 : CT p s _ m RX6 G kM nM a := C0
  have hx := C0.1
  have hts := C0.2.1
  have hown := C0.2.2.1
  have hl : lv_has ls 5 [(0, .ref (a 0)), (1, .int x1), (2, .int x2), (3, .int x3)] := hl
  unfold f_X6_wrongOpened at h
  refine lv_aload_n hx hb dX6_wrongOpened_0 rfl (lv_at hl 0 rfl) ?_
  refine lv_iload_n hx hb dX6_wrongOpened_1 rfl (lv_at hl 1 rfl) ?_
  obtain ⟨q_1, hq_2, h⟩ := bd_s h
  refine m_rVi (As := [.int x1]) (rest := []) (o := 0) (ci := 6) C0 hb hml hl.1 wm_X6_208 md_X6_wrong (k_X6_wrong l G a σ hj x1 q_1 hq_2) rfl rfl ⟨(Nat.le_of_ble_eq_true rfl), (Nat.le_of_ble_eq_true rfl)⟩ hP hS (rfl : kM 0 = 6) (by decide) rfl rfl rfl (Nat.le_of_ble_eq_true rfl) dX6_wrongOpened_2 ?_
  refine lv_istore (lv' := [(4, .int q_1), (0, .ref (a 0)), (1, .int x1), (2, .int x2), (3, .int x3)]) hx hb dX6_wrongOpened_5 hl (by decide) rfl (fun ls hl => ?_)
  refine lv_iload hx hb dX6_wrongOpened_7 (lv_at hl 0 rfl) ?_
  refine lv_if_eq (tgt := 17) hx hb dX6_wrongOpened_9 (by decide) (fun (c_3 : q_1 = 0) => ?_) (fun (c_3 : ¬ q_1 = 0) => ?_)
  · rw [if_pos c_3] at h
    refine lv_iload_n hx hb dX6_wrongOpened_17 rfl (lv_at hl 3 rfl) ?_
    refine m_pSi (As := [.int x2]) (rest := []) C0.z hb hml hl.1 wm_X6_79 md_X6_isHour (k_X6_isHour l x2) rfl rfl ⟨(Nat.le_of_ble_eq_true rfl), (Nat.le_of_ble_eq_true rfl)⟩ rfl rfl (Nat.le_of_ble_eq_true rfl) dX6_wrongOpened_18 ?_
    refine lv_if_eq (tgt := 35) hx hb dX6_wrongOpened_21 (by decide) (fun (c_4 : (f_X6_isHour x2) = 0) => ?_) (fun (c_4 : ¬ (f_X6_isHour x2) = 0) => ?_)
    · rw [if_pos c_4] at h
      refine lv_ldc hx hb hown (hts _ wk_X6_46) dX6_wrongOpened_35 ?_
      exact m_si hx hb hr hlk (Option.some.inj h) dX6_wrongOpened_37
    · rw [if_neg c_4] at h
      refine lv_iload_n hx hb dX6_wrongOpened_24 rfl (lv_at hl 4 rfl) ?_
      refine m_pSi (As := [.int x3]) (rest := []) C0.z hb hml hl.1 wm_X6_66 md_X6_isCell (k_X6_isCell l x3) rfl rfl ⟨(Nat.le_of_ble_eq_true rfl), (Nat.le_of_ble_eq_true rfl)⟩ rfl rfl (Nat.le_of_ble_eq_true rfl) dX6_wrongOpened_25 ?_
      refine lv_if_eq (tgt := 35) hx hb dX6_wrongOpened_28 (by decide) (fun (c_5 : (f_X6_isCell x3) = 0) => ?_) (fun (c_5 : ¬ (f_X6_isCell x3) = 0) => ?_)
      · rw [if_pos c_5] at h
        refine lv_ldc hx hb hown (hts _ wk_X6_46) dX6_wrongOpened_35 ?_
        exact m_si hx hb hr hlk (Option.some.inj h) dX6_wrongOpened_37
      · rw [if_neg c_5] at h
        refine lv_iconst (v := 0) hx hb dX6_wrongOpened_31 (by decide) ?_
        refine lv_goto (tgt := 37) hx hb dX6_wrongOpened_32 (by decide) ?_
        exact m_si hx hb hr hlk (Option.some.inj h) dX6_wrongOpened_37
  · rw [if_neg c_3] at h
    refine lv_iload hx hb dX6_wrongOpened_12 (lv_at hl 0 rfl) ?_
    refine lv_goto (tgt := 37) hx hb dX6_wrongOpened_14 (by decide) ?_
    exact m_si hx hb hr hlk (Option.some.inj h) dX6_wrongOpened_37
def f_X6_fits (x1 : Int32) (x2 : Int32) (x3 : Int32) (σ : Mem) : Option (Int32 × Mem) := ((f_X6_wrongOpened x1 x2 x3 σ).bind fun q_1 => (if q_1 = 0 then ((f_X6_findOpened x1 x2 x3 σ).bind fun q_4 => some (q_4 0 11, q_4)) else ((f_X6_finds q_1 σ).bind fun q_6 => some (q_6.1, q_6.2))))
set_option maxHeartbeats 4000000 in
set_option maxRecDepth 100000 in
theorem k_X6_fits (l : Launch) (G : GG) (a : Nat → Nat) (σ : Mem) (hj : INJ nM a) (x1 : Int32) (x2 : Int32) (x3 : Int32) (q : Int32 × Mem) (h : f_X6_fits x1 x2 x3 σ = some q) : Met l yX6_fits (Cond.code yX6_fits cX6_fits 5 (some .int) :: TB) ({ frames := 7, cells := 0, slots := 0, locals := 159 } : Room) (PA G kM nM a σ [.ref (a 0), .int x1, .int x2, .int x3]) (QI G kM nM a q) 0 0 (AW nM a) := by
  refine M_ofW (by decide) hj kM_lt (Nat.le_of_ble_eq_true rfl) (fun p e s m below meth c ls C0 hb hml hr hlk hP hS hl => ?_)
  have C0 : CT p s _ m RX6 G kM nM a := C0
  have hx := C0.1
  have hts := C0.2.1
  have hown := C0.2.2.1
  have hl : lv_has ls 5 [(0, .ref (a 0)), (1, .int x1), (2, .int x2), (3, .int x3)] := hl
  unfold f_X6_fits at h
  refine lv_aload_n hx hb dX6_fits_0 rfl (lv_at hl 0 rfl) ?_
  refine lv_iload_n hx hb dX6_fits_1 rfl (lv_at hl 1 rfl) ?_
  refine lv_iload_n hx hb dX6_fits_2 rfl (lv_at hl 2 rfl) ?_
  refine lv_iload_n hx hb dX6_fits_3 rfl (lv_at hl 3 rfl) ?_
  obtain ⟨q_1, hq_2, h⟩ := bd_s h
  refine m_rVi (As := [.int x1, .int x2, .int x3]) (rest := []) (o := 0) (ci := 6) C0 hb hml hl.1 wm_X6_211 md_X6_wrongOpened (k_X6_wrongOpened l G a σ hj x1 x2 x3 q_1 hq_2) rfl rfl ⟨(Nat.le_of_ble_eq_true rfl), (Nat.le_of_ble_eq_true rfl)⟩ hP hS (rfl : kM 0 = 6) (by decide) rfl rfl rfl (Nat.le_of_ble_eq_true rfl) dX6_fits_4 ?_
  refine lv_istore (lv' := [(4, .int q_1), (0, .ref (a 0)), (1, .int x1), (2, .int x2), (3, .int x3)]) hx hb dX6_fits_7 hl (by decide) rfl (fun ls hl => ?_)
  refine lv_iload hx hb dX6_fits_9 (lv_at hl 0 rfl) ?_
  refine lv_if_eq (tgt := 21) hx hb dX6_fits_11 (by decide) (fun (c_3 : q_1 = 0) => ?_) (fun (c_3 : ¬ q_1 = 0) => ?_)
  · rw [if_pos c_3] at h
    refine lv_aload_n hx hb dX6_fits_21 rfl (lv_at hl 1 rfl) ?_
    refine lv_iload_n hx hb dX6_fits_22 rfl (lv_at hl 2 rfl) ?_
    refine lv_iload_n hx hb dX6_fits_23 rfl (lv_at hl 3 rfl) ?_
    refine lv_iload_n hx hb dX6_fits_24 rfl (lv_at hl 4 rfl) ?_
    obtain ⟨q_4, hq_5, h⟩ := bd_s h
    refine m_cVv (As := [.int x1, .int x2, .int x3]) (rest := []) (o := 0) (ci := 6) C0 hb hml hl.1 wm_X6_214 md_X6_findOpened (k_X6_findOpened l G a σ hj x1 x2 x3 q_4 hq_5) rfl rfl ⟨(Nat.le_of_ble_eq_true rfl), (Nat.le_of_ble_eq_true rfl)⟩ hP hS (rfl : kM 0 = 6) (by decide) rfl rfl rfl (Nat.le_of_ble_eq_true rfl) dX6_fits_25 (fun H locs hP hS => ?_)
    refine lv_aload_n hx hb dX6_fits_28 rfl (lv_at hl 1 rfl) ?_
    refine gf_X6_201 (o := 0) C0 hb hP (rfl : kM 0 = 6) dX6_fits_29 ?_
    exact m_ri hx hb hr hlk hP hS (Option.some.inj h) dX6_fits_32
  · rw [if_neg c_3] at h
    refine lv_aload_n hx hb dX6_fits_14 rfl (lv_at hl 1 rfl) ?_
    refine lv_iload hx hb dX6_fits_15 (lv_at hl 0 rfl) ?_
    obtain ⟨q_6, hq_7, h⟩ := bd_s h
    refine m_cVi (As := [.int q_1]) (rest := []) (o := 0) (ci := 6) C0 hb hml hl.1 wm_X6_75 md_X6_finds (k_X6_finds l G a σ hj q_1 q_6 hq_7) rfl rfl ⟨(Nat.le_of_ble_eq_true rfl), (Nat.le_of_ble_eq_true rfl)⟩ hP hS (rfl : kM 0 = 6) (by decide) rfl rfl rfl (Nat.le_of_ble_eq_true rfl) dX6_fits_17 (fun H locs hP hS => ?_)
    exact m_ri hx hb hr hlk hP hS (Option.some.inj h) dX6_fits_20
def f_X6_opened (x1 : Int32) (x2 : Int32) (x3 : Int32) (σ : Mem) : Option (Int32 × Mem) := ((f_X6_wrongOpened x1 x2 x3 σ).bind fun q_1 => (if q_1 = 0 then ((f_X6_findOpened x1 x2 x3 σ).bind fun q_4 => (if 0 ≤ (q_4 0 10) then some (q_4 0 10, q_4) else ((f_X6_finds (-1000004) q_4).bind fun q_7 => some (q_7.1, q_7.2)))) else ((f_X6_finds q_1 σ).bind fun q_9 => some (q_9.1, q_9.2))))
set_option maxHeartbeats 4000000 in
set_option maxRecDepth 100000 in
theorem k_X6_opened (l : Launch) (G : GG) (a : Nat → Nat) (σ : Mem) (hj : INJ nM a) (x1 : Int32) (x2 : Int32) (x3 : Int32) (q : Int32 × Mem) (h : f_X6_opened x1 x2 x3 σ = some q) : Met l yX6_opened (Cond.code yX6_opened cX6_opened 5 (some .int) :: TB) ({ frames := 7, cells := 0, slots := 0, locals := 159 } : Room) (PA G kM nM a σ [.ref (a 0), .int x1, .int x2, .int x3]) (QI G kM nM a q) 0 0 (AW nM a) := by
  refine M_ofW (by decide) hj kM_lt (Nat.le_of_ble_eq_true rfl) (fun p e s m below meth c ls C0 hb hml hr hlk hP hS hl => ?_)
  have C0 : CT p s _ m RX6 G kM nM a := C0
  have hx := C0.1
  have hts := C0.2.1
  have hown := C0.2.2.1
  have hl : lv_has ls 5 [(0, .ref (a 0)), (1, .int x1), (2, .int x2), (3, .int x3)] := hl
  unfold f_X6_opened at h
  refine lv_aload_n hx hb dX6_opened_0 rfl (lv_at hl 0 rfl) ?_
  refine lv_iload_n hx hb dX6_opened_1 rfl (lv_at hl 1 rfl) ?_
  refine lv_iload_n hx hb dX6_opened_2 rfl (lv_at hl 2 rfl) ?_
  refine lv_iload_n hx hb dX6_opened_3 rfl (lv_at hl 3 rfl) ?_
  obtain ⟨q_1, hq_2, h⟩ := bd_s h
  refine m_rVi (As := [.int x1, .int x2, .int x3]) (rest := []) (o := 0) (ci := 6) C0 hb hml hl.1 wm_X6_211 md_X6_wrongOpened (k_X6_wrongOpened l G a σ hj x1 x2 x3 q_1 hq_2) rfl rfl ⟨(Nat.le_of_ble_eq_true rfl), (Nat.le_of_ble_eq_true rfl)⟩ hP hS (rfl : kM 0 = 6) (by decide) rfl rfl rfl (Nat.le_of_ble_eq_true rfl) dX6_opened_4 ?_
  refine lv_istore (lv' := [(4, .int q_1), (0, .ref (a 0)), (1, .int x1), (2, .int x2), (3, .int x3)]) hx hb dX6_opened_7 hl (by decide) rfl (fun ls hl => ?_)
  refine lv_iload hx hb dX6_opened_9 (lv_at hl 0 rfl) ?_
  refine lv_if_eq (tgt := 21) hx hb dX6_opened_11 (by decide) (fun (c_3 : q_1 = 0) => ?_) (fun (c_3 : ¬ q_1 = 0) => ?_)
  · rw [if_pos c_3] at h
    refine lv_aload_n hx hb dX6_opened_21 rfl (lv_at hl 1 rfl) ?_
    refine lv_iload_n hx hb dX6_opened_22 rfl (lv_at hl 2 rfl) ?_
    refine lv_iload_n hx hb dX6_opened_23 rfl (lv_at hl 3 rfl) ?_
    refine lv_iload_n hx hb dX6_opened_24 rfl (lv_at hl 4 rfl) ?_
    obtain ⟨q_4, hq_5, h⟩ := bd_s h
    refine m_cVv (As := [.int x1, .int x2, .int x3]) (rest := []) (o := 0) (ci := 6) C0 hb hml hl.1 wm_X6_214 md_X6_findOpened (k_X6_findOpened l G a σ hj x1 x2 x3 q_4 hq_5) rfl rfl ⟨(Nat.le_of_ble_eq_true rfl), (Nat.le_of_ble_eq_true rfl)⟩ hP hS (rfl : kM 0 = 6) (by decide) rfl rfl rfl (Nat.le_of_ble_eq_true rfl) dX6_opened_25 (fun H locs hP hS => ?_)
    refine lv_aload_n hx hb dX6_opened_28 rfl (lv_at hl 1 rfl) ?_
    refine gf_X6_198 (o := 0) C0 hb hP (rfl : kM 0 = 6) dX6_opened_29 ?_
    refine lv_if_ge (tgt := 44) hx hb dX6_opened_32 (by decide) (fun (c_6 : 0 ≤ (q_4 0 10)) => ?_) (fun (c_6 : ¬ 0 ≤ (q_4 0 10)) => ?_)
    · rw [if_pos c_6] at h
      refine lv_aload_n hx hb dX6_opened_44 rfl (lv_at hl 1 rfl) ?_
      refine gf_X6_198 (o := 0) C0 hb hP (rfl : kM 0 = 6) dX6_opened_45 ?_
      exact m_ri hx hb hr hlk hP hS (Option.some.inj h) dX6_opened_48
    · rw [if_neg c_6] at h
      refine lv_aload_n hx hb dX6_opened_35 rfl (lv_at hl 1 rfl) ?_
      refine lv_ldc hx hb hown (hts _ wk_X6_169) dX6_opened_36 ?_
      obtain ⟨q_7, hq_8, h⟩ := bd_s h
      refine m_cVi (As := [.int (-1000004)]) (rest := []) (o := 0) (ci := 6) C0 hb hml hl.1 wm_X6_75 md_X6_finds (k_X6_finds l G a q_4 hj (-1000004) q_7 hq_8) rfl rfl ⟨(Nat.le_of_ble_eq_true rfl), (Nat.le_of_ble_eq_true rfl)⟩ hP hS (rfl : kM 0 = 6) (by decide) rfl rfl rfl (Nat.le_of_ble_eq_true rfl) dX6_opened_38 (fun H locs hP hS => ?_)
      refine lv_goto (tgt := 48) hx hb dX6_opened_41 (by decide) ?_
      exact m_ri hx hb hr hlk hP hS (Option.some.inj h) dX6_opened_48
  · rw [if_neg c_3] at h
    refine lv_aload_n hx hb dX6_opened_14 rfl (lv_at hl 1 rfl) ?_
    refine lv_iload hx hb dX6_opened_15 (lv_at hl 0 rfl) ?_
    obtain ⟨q_9, hq_10, h⟩ := bd_s h
    refine m_cVi (As := [.int q_1]) (rest := []) (o := 0) (ci := 6) C0 hb hml hl.1 wm_X6_75 md_X6_finds (k_X6_finds l G a σ hj q_1 q_9 hq_10) rfl rfl ⟨(Nat.le_of_ble_eq_true rfl), (Nat.le_of_ble_eq_true rfl)⟩ hP hS (rfl : kM 0 = 6) (by decide) rfl rfl rfl (Nat.le_of_ble_eq_true rfl) dX6_opened_17 (fun H locs hP hS => ?_)
    exact m_ri hx hb hr hlk hP hS (Option.some.inj h) dX6_opened_20
def f_X6_kinds_J87 (x4_7 : Int32) (x5_8 : Int32) (rec45 : Int32 → Int32 → Mem → Option (Int32 × Mem)) (q_12 : Int32 × Mem) (t_14 : Int32) : Option (Int32 × Mem) := (rec45 (x4_7 ||| t_14) (x5_8 + 1) q_12.2)
def f_X6_kinds_B45 (x1 : Int32) (x2 : Int32) (rec45 : Int32 → Int32 → Mem → Option (Int32 × Mem)) (x4_7 : Int32) (x5_8 : Int32) (σ_9 : Mem) : Option (Int32 × Mem) := (if 6 < x5_8 then some (x4_7, σ_9) else (chk (f_X6_place x2 0) 74 ((f_X6_isTold x1 (f_X6_place x2 3) (mst σ_9 1 ((f_X6_place x2 0).toNatClampNeg) x5_8)).bind fun q_12 => (f_X6_kinds_J87 x4_7 x5_8 rec45 q_12 (if q_12.1 = 0 then 0 else 1 <<< (x5_8 &&& 31))))))
def f_X6_kinds_J24 (x1 : Int32) (x2 : Int32) (σ : Mem) (t_3 : Int32) : Option (Int32 × Mem) := (if t_3 = 0 then ((f_X6_laysAside σ).bind fun q_5 => (it3 (f_X6_kinds_B45 x1 x2) FU 0 0 q_5)) else ((f_X6_finds t_3 σ).bind fun q_18 => some (q_18.1, q_18.2)))
def f_X6_kinds_J23 (x1 : Int32) (x2 : Int32) (σ : Mem) (q_1 : Int32) : Option (Int32 × Mem) := (f_X6_kinds_J24 x1 x2 σ q_1)
def f_X6_kinds (x1 : Int32) (x2 : Int32) (σ : Mem) : Option (Int32 × Mem) := ((f_X6_wrong x1 σ).bind fun q_1 => (if q_1 = 0 then (if (f_X6_isWatcher x2 σ) = 0 then (f_X6_kinds_J24 x1 x2 σ (-1000001)) else (f_X6_kinds_J23 x1 x2 σ q_1)) else (f_X6_kinds_J23 x1 x2 σ q_1)))
set_option maxHeartbeats 4000000 in
set_option maxRecDepth 100000 in
theorem k_X6_kinds (l : Launch) (G : GG) (a : Nat → Nat) (σ : Mem) (hj : INJ nM a) (x1 : Int32) (x2 : Int32) (q : Int32 × Mem) (h : f_X6_kinds x1 x2 σ = some q) : Met l yX6_kinds (Cond.code yX6_kinds cX6_kinds 6 (some .int) :: TB) ({ frames := 6, cells := 0, slots := 0, locals := 135 } : Room) (PA G kM nM a σ [.ref (a 0), .int x1, .int x2]) (QI G kM nM a q) 0 0 (AW nM a) := by
  refine M_ofW (by decide) hj kM_lt (Nat.le_of_ble_eq_true rfl) (fun p e s m below meth c ls C0 hb hml hr hlk hP hS hl => ?_)
  have C0 : CT p s _ m RX6 G kM nM a := C0
  have hx := C0.1
  have hts := C0.2.1
  have hown := C0.2.2.1
  have hl : lv_has ls 6 [(0, .ref (a 0)), (1, .int x1), (2, .int x2)] := hl
  unfold f_X6_kinds at h
  refine lv_aload_n hx hb dX6_kinds_0 rfl (lv_at hl 0 rfl) ?_
  refine lv_iload_n hx hb dX6_kinds_1 rfl (lv_at hl 1 rfl) ?_
  obtain ⟨q_1, hq_2, h⟩ := bd_s h
  refine m_rVi (As := [.int x1]) (rest := []) (o := 0) (ci := 6) C0 hb hml hl.1 wm_X6_208 md_X6_wrong (k_X6_wrong l G a σ hj x1 q_1 hq_2) rfl rfl ⟨(Nat.le_of_ble_eq_true rfl), (Nat.le_of_ble_eq_true rfl)⟩ hP hS (rfl : kM 0 = 6) (by decide) rfl rfl rfl (Nat.le_of_ble_eq_true rfl) dX6_kinds_2 ?_
  refine lv_istore_n (lv' := [(3, .int q_1), (0, .ref (a 0)), (1, .int x1), (2, .int x2)]) hx hb dX6_kinds_5 rfl hl (by decide) rfl (fun ls hl => ?_)
  refine lv_iload_n hx hb dX6_kinds_6 rfl (lv_at hl 0 rfl) ?_
  have J_20 : ∀ (t_3 : Int32) (H : Heap) (locs : List Loc) (ls : Array Slot), f_X6_kinds_J24 x1 x2 σ t_3 = some q → HP G kM nM a σ H → va_S (AW nM a) s.heap H locs → lv_has ls 6 [(0, .ref (a 0)), (1, .int x1), (2, .int x2)] → W p l e ({ frames := 6, cells := 0, slots := 0, locals := 135 } : Room) s m ([.ref (a 0), .int x1, .int x2] : List Value).toArray below meth c H locs 0 0 (MQ below (QI G kM nM a q) ([.ref (a 0), .int x1, .int x2] : List Value).toArray s 0 0 (AW nM a)) (F0 m 24 ls [.int t_3]) := by
    intro t_3 H locs ls h hP hS hl
    unfold f_X6_kinds_J24 at h
    refine lv_istore_n (lv' := [(3, .int t_3), (0, .ref (a 0)), (1, .int x1), (2, .int x2)]) hx hb dX6_kinds_24 rfl hl (by decide) rfl (fun ls hl => ?_)
    refine lv_iload_n hx hb dX6_kinds_25 rfl (lv_at hl 0 rfl) ?_
    refine lv_if_eq (tgt := 35) hx hb dX6_kinds_26 (by decide) (fun (c_4 : t_3 = 0) => ?_) (fun (c_4 : ¬ t_3 = 0) => ?_)
    · rw [if_pos c_4] at h
      refine lv_aload_n hx hb dX6_kinds_35 rfl (lv_at hl 1 rfl) ?_
      obtain ⟨q_5, hq_6, h⟩ := bd_s h
      refine m_cVv (As := []) (rest := []) (o := 0) (ci := 6) C0 hb hml hl.1 wm_X6_156 md_X6_laysAside (k_X6_laysAside l G a σ hj q_5 hq_6) rfl rfl ⟨(Nat.le_of_ble_eq_true rfl), (Nat.le_of_ble_eq_true rfl)⟩ hP hS (rfl : kM 0 = 6) (by decide) rfl rfl rfl (Nat.le_of_ble_eq_true rfl) dX6_kinds_36 (fun H locs hP hS => ?_)
      refine lv_iconst (v := 0) hx hb dX6_kinds_39 (by decide) ?_
      refine lv_istore (lv' := [(4, .int 0), (3, .int t_3), (0, .ref (a 0)), (1, .int x1), (2, .int x2)]) hx hb dX6_kinds_40 hl (by decide) rfl (fun ls hl => ?_)
      refine lv_iconst (v := 0) hx hb dX6_kinds_42 (by decide) ?_
      refine lv_istore (lv' := [(5, .int 0), (4, .int 0), (3, .int t_3), (0, .ref (a 0)), (1, .int x1), (2, .int x2)]) hx hb dX6_kinds_43 hl (by decide) rfl (fun ls hl => ?_)
      have L_17 : ∀ (fu45 : Nat) (x4_7 : Int32) (x5_8 : Int32) (σ_9 : Mem) (H : Heap) (locs : List Loc) (ls : Array Slot), it3 (f_X6_kinds_B45 x1 x2) fu45 x4_7 x5_8 σ_9 = some q → HP G kM nM a σ_9 H → va_S (AW nM a) s.heap H locs → lv_has ls 6 [(5, .int x5_8), (4, .int x4_7), (0, .ref (a 0)), (1, .int x1), (2, .int x2)] → W p l e ({ frames := 6, cells := 0, slots := 0, locals := 135 } : Room) s m ([.ref (a 0), .int x1, .int x2] : List Value).toArray below meth c H locs 0 0 (MQ below (QI G kM nM a q) ([.ref (a 0), .int x1, .int x2] : List Value).toArray s 0 0 (AW nM a)) (F0 m 45 ls []) := by
        intro fu45
        induction fu45 with
        | zero =>
          intro x4_7 x5_8 σ_9 H locs ls h
          cases h
        | succ fu45 ih45 =>
          intro x4_7 x5_8 σ_9 H locs ls h hP hS hl
          replace h : (f_X6_kinds_B45 x1 x2) (it3 (f_X6_kinds_B45 x1 x2) fu45) x4_7 x5_8 σ_9 = some q := h
          generalize it3 (f_X6_kinds_B45 x1 x2) fu45 = rec45 at h ih45
          unfold f_X6_kinds_B45 at h
          refine lv_iload hx hb dX6_kinds_45 (lv_at hl 0 rfl) ?_
          refine lv_bipush (v := 6) hx hb dX6_kinds_47 (by decide) ?_
          refine lv_icmp_gt (tgt := 96) hx hb dX6_kinds_49 (by decide) (fun (c_10 : 6 < x5_8) => ?_) (fun (c_10 : ¬ 6 < x5_8) => ?_)
          · rw [if_pos c_10] at h
            refine lv_iload hx hb dX6_kinds_96 (lv_at hl 1 rfl) ?_
            exact m_ri hx hb hr hlk hP hS (Option.some.inj h) dX6_kinds_98
          · rw [if_neg c_10] at h
            refine lv_aload_n hx hb dX6_kinds_52 rfl (lv_at hl 2 rfl) ?_
            refine gf_X6_7 (o := 0) (o2 := 1) C0 hb hP (rfl : kM 0 = 6) rfl dX6_kinds_53 ?_
            refine lv_iload_n hx hb dX6_kinds_56 rfl (lv_at hl 4 rfl) ?_
            refine lv_iconst (v := 0) hx hb dX6_kinds_57 (by decide) ?_
            refine m_pSi (As := [.int x2, .int 0]) (rest := [.ref (a 1)]) C0.z hb hml hl.1 wm_X6_59 md_X6_place (k_X6_place l x2 0) rfl rfl ⟨(Nat.le_of_ble_eq_true rfl), (Nat.le_of_ble_eq_true rfl)⟩ rfl rfl (Nat.le_of_ble_eq_true rfl) dX6_kinds_58 ?_
            refine lv_iload hx hb dX6_kinds_61 (lv_at hl 0 rfl) ?_
            obtain ⟨hi_11, h⟩ := chk_s h
            refine m_iast (o := 1) (N := 74) (i := f_X6_place x2 0) (j := (f_X6_place x2 0).toNatClampNeg) C0 hb hP hS (rfl : kM 1 = 100 + 74) (by decide) hi_11 rfl dX6_kinds_63 (fun H locs hP hS => ?_)
            refine lv_iload hx hb dX6_kinds_64 (lv_at hl 1 rfl) ?_
            refine lv_aload_n hx hb dX6_kinds_66 rfl (lv_at hl 2 rfl) ?_
            refine lv_iload_n hx hb dX6_kinds_67 rfl (lv_at hl 3 rfl) ?_
            refine lv_iload_n hx hb dX6_kinds_68 rfl (lv_at hl 4 rfl) ?_
            refine lv_iconst (v := 3) hx hb dX6_kinds_69 (by decide) ?_
            refine m_pSi (As := [.int x2, .int 3]) (rest := [.int x1, .ref (a 0), .int x4_7]) C0.z hb hml hl.1 wm_X6_59 md_X6_place (k_X6_place l x2 3) rfl rfl ⟨(Nat.le_of_ble_eq_true rfl), (Nat.le_of_ble_eq_true rfl)⟩ rfl rfl (Nat.le_of_ble_eq_true rfl) dX6_kinds_70 ?_
            obtain ⟨q_12, hq_13, h⟩ := bd_s h
            refine m_cVi (As := [.int x1, .int (f_X6_place x2 3)]) (rest := [.int x4_7]) (o := 0) (ci := 6) C0 hb hml hl.1 wm_X6_204 md_X6_isTold (k_X6_isTold l G a (mst σ_9 1 ((f_X6_place x2 0).toNatClampNeg) x5_8) hj x1 (f_X6_place x2 3) q_12 hq_13) rfl rfl ⟨(Nat.le_of_ble_eq_true rfl), (Nat.le_of_ble_eq_true rfl)⟩ hP hS (rfl : kM 0 = 6) (by decide) rfl rfl rfl (Nat.le_of_ble_eq_true rfl) dX6_kinds_73 (fun H locs hP hS => ?_)
            have J_15 : ∀ (t_14 : Int32) (H : Heap) (locs : List Loc) (ls : Array Slot), f_X6_kinds_J87 x4_7 x5_8 rec45 q_12 t_14 = some q → HP G kM nM a q_12.2 H → va_S (AW nM a) s.heap H locs → lv_has ls 6 [(5, .int x5_8), (0, .ref (a 0)), (1, .int x1), (2, .int x2)] → W p l e ({ frames := 6, cells := 0, slots := 0, locals := 135 } : Room) s m ([.ref (a 0), .int x1, .int x2] : List Value).toArray below meth c H locs 0 0 (MQ below (QI G kM nM a q) ([.ref (a 0), .int x1, .int x2] : List Value).toArray s 0 0 (AW nM a)) (F0 m 87 ls [.int t_14, .int x4_7]) := by
              intro t_14 H locs ls h hP hS hl
              unfold f_X6_kinds_J87 at h
              refine lv_ior hx hb dX6_kinds_87 ?_
              refine lv_istore (lv' := [(4, .int (x4_7 ||| t_14)), (5, .int x5_8), (0, .ref (a 0)), (1, .int x1), (2, .int x2)]) hx hb dX6_kinds_88 hl (by decide) rfl (fun ls hl => ?_)
              refine lv_iinc (v := x5_8 + 1) (lv' := [(5, .int (x5_8 + 1)), (4, .int (x4_7 ||| t_14)), (0, .ref (a 0)), (1, .int x1), (2, .int x2)]) hx hb dX6_kinds_90 hl (k := 1) rfl rfl (by decide) rfl (fun ls hl => ?_)
              refine lv_goto (tgt := 45) hx hb dX6_kinds_93 (by decide) ?_
              exact ih45 (x4_7 ||| t_14) (x5_8 + 1) q_12.2 _ _ _ h hP hS (lv_sub hl [0, 1, 2, 3, 4] rfl)
            refine lv_if_eq (tgt := 86) hx hb dX6_kinds_76 (by decide) (fun (c_16 : q_12.1 = 0) => ?_) (fun (c_16 : ¬ q_12.1 = 0) => ?_)
            · rw [if_pos c_16] at h
              refine lv_iconst (v := 0) hx hb dX6_kinds_86 (by decide) ?_
              exact J_15 0 _ _ _ h hP hS (lv_sub hl [0, 2, 3, 4] rfl)
            · rw [if_neg c_16] at h
              refine lv_iconst (v := 1) hx hb dX6_kinds_79 (by decide) ?_
              refine lv_iload hx hb dX6_kinds_80 (lv_at hl 0 rfl) ?_
              refine lv_ishl hx hb dX6_kinds_82 ?_
              refine lv_goto (tgt := 87) hx hb dX6_kinds_83 (by decide) ?_
              exact J_15 (1 <<< (x5_8 &&& 31)) _ _ _ h hP hS (lv_sub hl [0, 2, 3, 4] rfl)
      exact L_17 FU 0 0 q_5 _ _ _ h hP hS (lv_sub hl [0, 1, 3, 4, 5] rfl)
    · rw [if_neg c_4] at h
      refine lv_aload_n hx hb dX6_kinds_29 rfl (lv_at hl 1 rfl) ?_
      refine lv_iload_n hx hb dX6_kinds_30 rfl (lv_at hl 0 rfl) ?_
      obtain ⟨q_18, hq_19, h⟩ := bd_s h
      refine m_cVi (As := [.int t_3]) (rest := []) (o := 0) (ci := 6) C0 hb hml hl.1 wm_X6_75 md_X6_finds (k_X6_finds l G a σ hj t_3 q_18 hq_19) rfl rfl ⟨(Nat.le_of_ble_eq_true rfl), (Nat.le_of_ble_eq_true rfl)⟩ hP hS (rfl : kM 0 = 6) (by decide) rfl rfl rfl (Nat.le_of_ble_eq_true rfl) dX6_kinds_31 (fun H locs hP hS => ?_)
      exact m_ri hx hb hr hlk hP hS (Option.some.inj h) dX6_kinds_34
  have J_21 : ∀  (H : Heap) (locs : List Loc) (ls : Array Slot), f_X6_kinds_J23 x1 x2 σ q_1 = some q → HP G kM nM a σ H → va_S (AW nM a) s.heap H locs → lv_has ls 6 [(3, .int q_1), (0, .ref (a 0)), (1, .int x1), (2, .int x2)] → W p l e ({ frames := 6, cells := 0, slots := 0, locals := 135 } : Room) s m ([.ref (a 0), .int x1, .int x2] : List Value).toArray below meth c H locs 0 0 (MQ below (QI G kM nM a q) ([.ref (a 0), .int x1, .int x2] : List Value).toArray s 0 0 (AW nM a)) (F0 m 23 ls []) := by
    intro  H locs ls h hP hS hl
    unfold f_X6_kinds_J23 at h
    refine lv_iload_n hx hb dX6_kinds_23 rfl (lv_at hl 0 rfl) ?_
    exact J_20 q_1 _ _ _ h hP hS (lv_sub hl [1, 2, 3] rfl)
  refine lv_if_ne (tgt := 23) hx hb dX6_kinds_7 (by decide) (fun (c_22 : ¬ q_1 = 0) => ?_) (fun (c_22 : q_1 = 0) => ?_)
  · rw [if_neg c_22] at h
    exact J_21  _ _ _ h hP hS (lv_sub hl [0, 1, 2, 3] rfl)
  · rw [if_pos c_22] at h
    refine lv_aload_n hx hb dX6_kinds_10 rfl (lv_at hl 1 rfl) ?_
    refine lv_iload_n hx hb dX6_kinds_11 rfl (lv_at hl 3 rfl) ?_
    refine m_rVi (As := [.int x2]) (rest := []) (o := 0) (ci := 6) C0 hb hml hl.1 wm_X6_100 md_X6_isWatcher (k_X6_isWatcher l G a σ hj x2) rfl rfl ⟨(Nat.le_of_ble_eq_true rfl), (Nat.le_of_ble_eq_true rfl)⟩ hP hS (rfl : kM 0 = 6) (by decide) rfl rfl rfl (Nat.le_of_ble_eq_true rfl) dX6_kinds_12 ?_
    refine lv_if_ne (tgt := 23) hx hb dX6_kinds_15 (by decide) (fun (c_23 : ¬ (f_X6_isWatcher x2 σ) = 0) => ?_) (fun (c_23 : (f_X6_isWatcher x2 σ) = 0) => ?_)
    · rw [if_neg c_23] at h
      exact J_21  _ _ _ h hP hS (lv_sub hl [0, 1, 2, 3] rfl)
    · rw [if_pos c_23] at h
      refine lv_ldc hx hb hown (hts _ wk_X6_46) dX6_kinds_18 ?_
      refine lv_goto (tgt := 24) hx hb dX6_kinds_20 (by decide) ?_
      exact J_20 (-1000001) _ _ _ h hP hS (lv_sub hl [1, 2, 3] rfl)
def f_X6_draw (σ : Mem) : Int32 × Mem := (jus ((mst σ 1 3 (((σ 1 3) * 1103515245) + 12345)) 1 3) 8, mst σ 1 3 (((σ 1 3) * 1103515245) + 12345))
set_option maxHeartbeats 4000000 in
set_option maxRecDepth 100000 in
theorem k_X6_draw (l : Launch) (G : GG) (a : Nat → Nat) (σ : Mem) (hj : INJ nM a)  : Met l yX6_draw (Cond.code yX6_draw cX6_draw 1 (some .int) :: TB) ({ frames := 0, cells := 0, slots := 0, locals := 0 } : Room) (PA G kM nM a σ [.ref (a 0)]) (QI G kM nM a (f_X6_draw σ)) 0 0 (AW nM a) := by
  generalize h : f_X6_draw σ = q
  refine M_ofW (by decide) hj kM_lt (Nat.le_of_ble_eq_true rfl) (fun p e s m below meth c ls C0 hb hml hr hlk hP hS hl => ?_)
  have C0 : CT p s _ m RX6 G kM nM a := C0
  have hx := C0.1
  have hts := C0.2.1
  have hown := C0.2.2.1
  have hl : lv_has ls 1 [(0, .ref (a 0))] := hl
  unfold f_X6_draw at h
  refine lv_aload_n hx hb dX6_draw_0 rfl (lv_at hl 0 rfl) ?_
  refine gf_X6_7 (o := 0) (o2 := 1) C0 hb hP (rfl : kM 0 = 6) rfl dX6_draw_1 ?_
  refine lv_iconst (v := 3) hx hb dX6_draw_4 (by decide) ?_
  refine lv_aload_n hx hb dX6_draw_5 rfl (lv_at hl 0 rfl) ?_
  refine gf_X6_7 (o := 0) (o2 := 1) C0 hb hP (rfl : kM 0 = 6) rfl dX6_draw_6 ?_
  refine lv_iconst (v := 3) hx hb dX6_draw_9 (by decide) ?_
  refine m_iald (o := 1) (N := 74) (i := 3) (j := 3) C0 hb hP (rfl : kM 1 = 100 + 74) (by decide) (show vp_in 3 74 by unfold vp_in; decide) (by decide) dX6_draw_10 ?_
  refine lv_ldc hx hb hown (hts _ wk_X6_218) dX6_draw_11 ?_
  refine lv_imul hx hb dX6_draw_13 ?_
  refine lv_sipush (v := 12345) hx hb dX6_draw_14 (by decide) ?_
  refine lv_iadd hx hb dX6_draw_17 ?_
  refine m_iast (o := 1) (N := 74) (i := 3) (j := 3) C0 hb hP hS (rfl : kM 1 = 100 + 74) (by decide) (show vp_in 3 74 by unfold vp_in; decide) (by decide) dX6_draw_18 (fun H locs hP hS => ?_)
  refine lv_aload_n hx hb dX6_draw_19 rfl (lv_at hl 0 rfl) ?_
  refine gf_X6_7 (o := 0) (o2 := 1) C0 hb hP (rfl : kM 0 = 6) rfl dX6_draw_20 ?_
  refine lv_iconst (v := 3) hx hb dX6_draw_23 (by decide) ?_
  refine m_iald (o := 1) (N := 74) (i := 3) (j := 3) C0 hb hP (rfl : kM 1 = 100 + 74) (by decide) (show vp_in 3 74 by unfold vp_in; decide) (by decide) dX6_draw_24 ?_
  refine lv_bipush (v := 8) hx hb dX6_draw_25 (by decide) ?_
  refine lv_iushr (v := jus ((mst σ 1 3 (((σ 1 3) * 1103515245) + 12345)) 1 3) 8) hx hb dX6_draw_27 rfl ?_
  exact m_ri hx hb hr hlk hP hS h dX6_draw_28
def f_X6_nights_B41 (x1 : Int32) (rec41 : Int32 → Mem → Option (Int32 × Mem)) (x2_3 : Int32) (σ_4 : Mem) : Option (Int32 × Mem) := (if x1 ≤ x2_3 then ((f_X6_knowing σ_4).bind fun q_6 => ((f_X6_ones q_6).bind fun q_8 => some (q_8, σ_4))) else (chk (4 + (jrem ((f_X6_draw σ_4).1) 8)) 74 ((f_X6_hour (mst ((f_X6_draw ((f_X6_draw σ_4).2)).2) 1 ((4 + (jrem ((f_X6_draw σ_4).1) 8)).toNatClampNeg) (jrem ((f_X6_draw ((f_X6_draw σ_4).2)).1) 40))).bind fun q_11 => (rec41 (x2_3 + 1) q_11))))
def f_X6_nights (x1 : Int32) (σ : Mem) : Option (Int32 × Mem) := (if (f_X6_in x1.toInt64 1 20) = 0 then ((f_X6_finds (-1000001) σ).bind fun q_16 => some (q_16.1, q_16.2)) else (if ((σ 1 0) + x1) ≤ 99999 then (it2 (f_X6_nights_B41 x1) FU 0 σ) else ((f_X6_finds (-1000005) σ).bind fun q_14 => some (q_14.1, q_14.2))))
set_option maxHeartbeats 4000000 in
set_option maxRecDepth 100000 in
theorem k_X6_nights (l : Launch) (G : GG) (a : Nat → Nat) (σ : Mem) (hj : INJ nM a) (x1 : Int32) (q : Int32 × Mem) (h : f_X6_nights x1 σ = some q) : Met l yX6_nights (Cond.code yX6_nights cX6_nights 4 (some .int) :: TB) ({ frames := 5, cells := 0, slots := 0, locals := 110 } : Room) (PA G kM nM a σ [.ref (a 0), .int x1]) (QI G kM nM a q) 0 0 (AW nM a) := by
  refine M_ofW (by decide) hj kM_lt (Nat.le_of_ble_eq_true rfl) (fun p e s m below meth c ls C0 hb hml hr hlk hP hS hl => ?_)
  have C0 : CT p s _ m RX6 G kM nM a := C0
  have hx := C0.1
  have hts := C0.2.1
  have hown := C0.2.2.1
  have hl : lv_has ls 4 [(0, .ref (a 0)), (1, .int x1)] := hl
  unfold f_X6_nights at h
  refine lv_iload_n hx hb dX6_nights_0 rfl (lv_at hl 1 rfl) ?_
  refine lv_i2l (v := x1.toInt64) hx hb dX6_nights_1 rfl ?_
  refine lv_lconst (v := 1) hx hb dX6_nights_2 (by decide) ?_
  refine lv_ldc2 hx hb hown (hts _ wk_X6_193) dX6_nights_3 ?_
  refine m_pSi (As := [.long x1.toInt64, .long 1, .long 20]) (rest := []) C0.z hb hml hl.1 wm_X6_49 md_X6_in (k_X6_in l x1.toInt64 1 20) rfl rfl ⟨(Nat.le_of_ble_eq_true rfl), (Nat.le_of_ble_eq_true rfl)⟩ rfl rfl (Nat.le_of_ble_eq_true rfl) dX6_nights_6 ?_
  refine lv_if_ne (tgt := 19) hx hb dX6_nights_9 (by decide) (fun (c_1 : ¬ (f_X6_in x1.toInt64 1 20) = 0) => ?_) (fun (c_1 : (f_X6_in x1.toInt64 1 20) = 0) => ?_)
  · rw [if_neg c_1] at h
    refine lv_aload_n hx hb dX6_nights_19 rfl (lv_at hl 0 rfl) ?_
    refine gf_X6_7 (o := 0) (o2 := 1) C0 hb hP (rfl : kM 0 = 6) rfl dX6_nights_20 ?_
    refine lv_iconst (v := 0) hx hb dX6_nights_23 (by decide) ?_
    refine m_iald (o := 1) (N := 74) (i := 0) (j := 0) C0 hb hP (rfl : kM 1 = 100 + 74) (by decide) (show vp_in 0 74 by unfold vp_in; decide) (by decide) dX6_nights_24 ?_
    refine lv_iload_n hx hb dX6_nights_25 rfl (lv_at hl 1 rfl) ?_
    refine lv_iadd hx hb dX6_nights_26 ?_
    refine lv_ldc hx hb hown (hts _ wk_X6_139) dX6_nights_27 ?_
    refine lv_icmp_le (tgt := 39) hx hb dX6_nights_29 (by decide) (fun (c_2 : ((σ 1 0) + x1) ≤ 99999) => ?_) (fun (c_2 : ¬ ((σ 1 0) + x1) ≤ 99999) => ?_)
    · rw [if_pos c_2] at h
      refine lv_iconst (v := 0) hx hb dX6_nights_39 (by decide) ?_
      refine lv_istore_n (lv' := [(2, .int 0), (0, .ref (a 0)), (1, .int x1)]) hx hb dX6_nights_40 rfl hl (by decide) rfl (fun ls hl => ?_)
      have L_13 : ∀ (fu41 : Nat) (x2_3 : Int32) (σ_4 : Mem) (H : Heap) (locs : List Loc) (ls : Array Slot), it2 (f_X6_nights_B41 x1) fu41 x2_3 σ_4 = some q → HP G kM nM a σ_4 H → va_S (AW nM a) s.heap H locs → lv_has ls 4 [(2, .int x2_3), (0, .ref (a 0)), (1, .int x1)] → W p l e ({ frames := 5, cells := 0, slots := 0, locals := 110 } : Room) s m ([.ref (a 0), .int x1] : List Value).toArray below meth c H locs 0 0 (MQ below (QI G kM nM a q) ([.ref (a 0), .int x1] : List Value).toArray s 0 0 (AW nM a)) (F0 m 41 ls []) := by
        intro fu41
        induction fu41 with
        | zero =>
          intro x2_3 σ_4 H locs ls h
          cases h
        | succ fu41 ih41 =>
          intro x2_3 σ_4 H locs ls h hP hS hl
          replace h : (f_X6_nights_B41 x1) (it2 (f_X6_nights_B41 x1) fu41) x2_3 σ_4 = some q := h
          generalize it2 (f_X6_nights_B41 x1) fu41 = rec41 at h ih41
          unfold f_X6_nights_B41 at h
          refine lv_iload_n hx hb dX6_nights_41 rfl (lv_at hl 0 rfl) ?_
          refine lv_iload_n hx hb dX6_nights_42 rfl (lv_at hl 2 rfl) ?_
          refine lv_icmp_ge (tgt := 79) hx hb dX6_nights_43 (by decide) (fun (c_5 : x1 ≤ x2_3) => ?_) (fun (c_5 : ¬ x1 ≤ x2_3) => ?_)
          · rw [if_pos c_5] at h
            refine lv_aload_n hx hb dX6_nights_79 rfl (lv_at hl 1 rfl) ?_
            obtain ⟨q_6, hq_7, h⟩ := bd_s h
            refine m_rVi (As := []) (rest := []) (o := 0) (ci := 6) C0 hb hml hl.1 wm_X6_144 md_X6_knowing (k_X6_knowing l G a σ_4 hj q_6 hq_7) rfl rfl ⟨(Nat.le_of_ble_eq_true rfl), (Nat.le_of_ble_eq_true rfl)⟩ hP hS (rfl : kM 0 = 6) (by decide) rfl rfl rfl (Nat.le_of_ble_eq_true rfl) dX6_nights_80 ?_
            obtain ⟨q_8, hq_9, h⟩ := bd_s h
            refine m_pSi (As := [.int q_6]) (rest := []) C0.z hb hml hl.1 wm_X6_190 md_X6_ones (k_X6_ones l q_6 q_8 hq_9) rfl rfl ⟨(Nat.le_of_ble_eq_true rfl), (Nat.le_of_ble_eq_true rfl)⟩ rfl rfl (Nat.le_of_ble_eq_true rfl) dX6_nights_83 ?_
            exact m_ri hx hb hr hlk hP hS (Option.some.inj h) dX6_nights_86
          · rw [if_neg c_5] at h
            refine lv_aload_n hx hb dX6_nights_46 rfl (lv_at hl 1 rfl) ?_
            refine m_cVi (As := []) (rest := []) (o := 0) (ci := 6) C0 hb hml hl.1 wm_X6_219 md_X6_draw (k_X6_draw l G a σ_4 hj) rfl rfl ⟨(Nat.le_of_ble_eq_true rfl), (Nat.le_of_ble_eq_true rfl)⟩ hP hS (rfl : kM 0 = 6) (by decide) rfl rfl rfl (Nat.le_of_ble_eq_true rfl) dX6_nights_47 (fun H locs hP hS => ?_)
            refine lv_bipush (v := 8) hx hb dX6_nights_50 (by decide) ?_
            refine lv_irem hx hb dX6_nights_52 (by decide) ?_
            refine lv_istore_n (lv' := [(3, .int (jrem ((f_X6_draw σ_4).1) 8)), (2, .int x2_3), (0, .ref (a 0)), (1, .int x1)]) hx hb dX6_nights_53 rfl hl (by decide) rfl (fun ls hl => ?_)
            refine lv_aload_n hx hb dX6_nights_54 rfl (lv_at hl 2 rfl) ?_
            refine gf_X6_7 (o := 0) (o2 := 1) C0 hb hP (rfl : kM 0 = 6) rfl dX6_nights_55 ?_
            refine lv_iconst (v := 4) hx hb dX6_nights_58 (by decide) ?_
            refine lv_iload_n hx hb dX6_nights_59 rfl (lv_at hl 0 rfl) ?_
            refine lv_iadd hx hb dX6_nights_60 ?_
            refine lv_aload_n hx hb dX6_nights_61 rfl (lv_at hl 2 rfl) ?_
            refine m_cVi (As := []) (rest := [.int (4 + (jrem ((f_X6_draw σ_4).1) 8)), .ref (a 1)]) (o := 0) (ci := 6) C0 hb hml hl.1 wm_X6_219 md_X6_draw (k_X6_draw l G a ((f_X6_draw σ_4).2) hj) rfl rfl ⟨(Nat.le_of_ble_eq_true rfl), (Nat.le_of_ble_eq_true rfl)⟩ hP hS (rfl : kM 0 = 6) (by decide) rfl rfl rfl (Nat.le_of_ble_eq_true rfl) dX6_nights_62 (fun H locs hP hS => ?_)
            refine lv_bipush (v := 40) hx hb dX6_nights_65 (by decide) ?_
            refine lv_irem hx hb dX6_nights_67 (by decide) ?_
            obtain ⟨hi_10, h⟩ := chk_s h
            refine m_iast (o := 1) (N := 74) (i := 4 + (jrem ((f_X6_draw σ_4).1) 8)) (j := (4 + (jrem ((f_X6_draw σ_4).1) 8)).toNatClampNeg) C0 hb hP hS (rfl : kM 1 = 100 + 74) (by decide) hi_10 rfl dX6_nights_68 (fun H locs hP hS => ?_)
            refine lv_aload_n hx hb dX6_nights_69 rfl (lv_at hl 2 rfl) ?_
            obtain ⟨q_11, hq_12, h⟩ := bd_s h
            refine m_cVv (As := []) (rest := []) (o := 0) (ci := 6) C0 hb hml hl.1 wm_X6_134 md_X6_hour (k_X6_hour l G a (mst ((f_X6_draw ((f_X6_draw σ_4).2)).2) 1 ((4 + (jrem ((f_X6_draw σ_4).1) 8)).toNatClampNeg) (jrem ((f_X6_draw ((f_X6_draw σ_4).2)).1) 40)) hj q_11 hq_12) rfl rfl ⟨(Nat.le_of_ble_eq_true rfl), (Nat.le_of_ble_eq_true rfl)⟩ hP hS (rfl : kM 0 = 6) (by decide) rfl rfl rfl (Nat.le_of_ble_eq_true rfl) dX6_nights_70 (fun H locs hP hS => ?_)
            refine lv_iinc (v := x2_3 + 1) (lv' := [(2, .int (x2_3 + 1)), (3, .int (jrem ((f_X6_draw σ_4).1) 8)), (0, .ref (a 0)), (1, .int x1)]) hx hb dX6_nights_73 hl (k := 1) rfl rfl (by decide) rfl (fun ls hl => ?_)
            refine lv_goto (tgt := 41) hx hb dX6_nights_76 (by decide) ?_
            exact ih41 (x2_3 + 1) q_11 _ _ _ h hP hS (lv_sub hl [0, 2, 3] rfl)
      exact L_13 FU 0 σ _ _ _ h hP hS (lv_sub hl [0, 1, 2] rfl)
    · rw [if_neg c_2] at h
      refine lv_aload_n hx hb dX6_nights_32 rfl (lv_at hl 0 rfl) ?_
      refine lv_ldc hx hb hown (hts _ wk_X6_140) dX6_nights_33 ?_
      obtain ⟨q_14, hq_15, h⟩ := bd_s h
      refine m_cVi (As := [.int (-1000005)]) (rest := []) (o := 0) (ci := 6) C0 hb hml hl.1 wm_X6_75 md_X6_finds (k_X6_finds l G a σ hj (-1000005) q_14 hq_15) rfl rfl ⟨(Nat.le_of_ble_eq_true rfl), (Nat.le_of_ble_eq_true rfl)⟩ hP hS (rfl : kM 0 = 6) (by decide) rfl rfl rfl (Nat.le_of_ble_eq_true rfl) dX6_nights_35 (fun H locs hP hS => ?_)
      exact m_ri hx hb hr hlk hP hS (Option.some.inj h) dX6_nights_38
  · rw [if_pos c_1] at h
    refine lv_aload_n hx hb dX6_nights_12 rfl (lv_at hl 0 rfl) ?_
    refine lv_ldc hx hb hown (hts _ wk_X6_46) dX6_nights_13 ?_
    obtain ⟨q_16, hq_17, h⟩ := bd_s h
    refine m_cVi (As := [.int (-1000001)]) (rest := []) (o := 0) (ci := 6) C0 hb hml hl.1 wm_X6_75 md_X6_finds (k_X6_finds l G a σ hj (-1000001) q_16 hq_17) rfl rfl ⟨(Nat.le_of_ble_eq_true rfl), (Nat.le_of_ble_eq_true rfl)⟩ hP hS (rfl : kM 0 = 6) (by decide) rfl rfl rfl (Nat.le_of_ble_eq_true rfl) dX6_nights_15 (fun H locs hP hS => ?_)
    exact m_ri hx hb hr hlk hP hS (Option.some.inj h) dX6_nights_18
def f_X6_odds_J87 (x4_8 : Int32) (rec72 : Int32 → Option (Int64 × Mem)) : Option (Int64 × Mem) := (rec72 (x4_8 + (-1)))
def f_X6_odds_J125 (x5_14 : Int64) (x7_15 : Int32) (rec99 : Int64 → Int32 → Option (Int64 × Mem)) (t_17 : Int64) : Option (Int64 × Mem) := (rec99 (x5_14 * t_17) (x7_15 + 1))
def f_X6_odds_B99 (x1 : Int32) (x2 : Int32) (σ : Mem) (x3_5 : Int32) (x4_8 : Int32) (rec99 : Int64 → Int32 → Option (Int64 × Mem)) (x5_14 : Int64) (x7_15 : Int32) : Option (Int64 × Mem) := (if x1 ≤ x7_15 then some (x5_14, σ) else (if x2 = 0 then (cnz x4_8 (f_X6_odds_J125 x5_14 x7_15 rec99 ((x3_5 / x4_8).toInt64))) else (cnz x4_8 (f_X6_odds_J125 x5_14 x7_15 rec99 ((8 / x4_8).toInt64)))))
def f_X6_odds_B72 (x1 : Int32) (x2 : Int32) (σ : Mem) (x3_5 : Int32) (rec72 : Int32 → Option (Int64 × Mem)) (x4_8 : Int32) : Option (Int64 × Mem) := (cnz x4_8 (if (jrem x3_5 x4_8) = 0 then (cnz x4_8 (if (jrem 8 x4_8) = 0 then (it2 (f_X6_odds_B99 x1 x2 σ x3_5 x4_8) FU 1 0) else (f_X6_odds_J87 x4_8 rec72))) else (f_X6_odds_J87 x4_8 rec72)))
def f_X6_odds_J60 (x3_5 : Int32) (x4_6 : Int32) (rec35 : Int32 → Int32 → Option (Int64 × Mem)) (t_25 : Int32) : Option (Int64 × Mem) := (rec35 (x3_5 + t_25) (x4_6 + 1))
def f_X6_odds_B35 (x1 : Int32) (x2 : Int32) (σ : Mem) (rec35 : Int32 → Int32 → Option (Int64 × Mem)) (x3_5 : Int32) (x4_6 : Int32) : Option (Int64 × Mem) := (if 8 ≤ x4_6 then (it1 (f_X6_odds_B72 x1 x2 σ x3_5) FU 8) else (chk (4 + x4_6) 74 (f_X6_odds_J60 x3_5 x4_6 rec35 (if (σ 1 ((4 + x4_6).toNatClampNeg)) ≤ 0 then 0 else 1))))
def f_X6_odds (x1 : Int32) (x2 : Int32) (σ : Mem) : Option (Int64 × Mem) := (if (f_X6_in x1.toInt64 0 20) = 0 then ((f_X6_finds (-1000001) σ).bind fun q_2 => some (q_2.1.toInt64, q_2.2)) else (if (f_X6_in x2.toInt64 0 1) = 0 then ((f_X6_finds (-1000001) σ).bind fun q_29 => some (q_29.1.toInt64, q_29.2)) else (it2 (f_X6_odds_B35 x1 x2 σ) FU 0 0)))
set_option maxHeartbeats 4000000 in
set_option maxRecDepth 100000 in
theorem k_X6_odds (l : Launch) (G : GG) (a : Nat → Nat) (σ : Mem) (hj : INJ nM a) (x1 : Int32) (x2 : Int32) (q : Int64 × Mem) (h : f_X6_odds x1 x2 σ = some q) : Met l yX6_odds (Cond.code yX6_odds cX6_odds 8 (some .long) :: TB) ({ frames := 1, cells := 0, slots := 0, locals := 25 } : Room) (PA G kM nM a σ [.ref (a 0), .int x1, .int x2]) (QL G kM nM a q) 0 0 (AW nM a) := by
  refine M_ofW (by decide) hj kM_lt (Nat.le_of_ble_eq_true rfl) (fun p e s m below meth c ls C0 hb hml hr hlk hP hS hl => ?_)
  have C0 : CT p s _ m RX6 G kM nM a := C0
  have hx := C0.1
  have hts := C0.2.1
  have hown := C0.2.2.1
  have hl : lv_has ls 8 [(0, .ref (a 0)), (1, .int x1), (2, .int x2)] := hl
  unfold f_X6_odds at h
  refine lv_iload_n hx hb dX6_odds_0 rfl (lv_at hl 1 rfl) ?_
  refine lv_i2l (v := x1.toInt64) hx hb dX6_odds_1 rfl ?_
  refine lv_lconst (v := 0) hx hb dX6_odds_2 (by decide) ?_
  refine lv_ldc2 hx hb hown (hts _ wk_X6_193) dX6_odds_3 ?_
  refine m_pSi (As := [.long x1.toInt64, .long 0, .long 20]) (rest := []) C0.z hb hml hl.1 wm_X6_49 md_X6_in (k_X6_in l x1.toInt64 0 20) rfl rfl ⟨(Nat.le_of_ble_eq_true rfl), (Nat.le_of_ble_eq_true rfl)⟩ rfl rfl (Nat.le_of_ble_eq_true rfl) dX6_odds_6 ?_
  refine lv_if_eq (tgt := 22) hx hb dX6_odds_9 (by decide) (fun (c_1 : (f_X6_in x1.toInt64 0 20) = 0) => ?_) (fun (c_1 : ¬ (f_X6_in x1.toInt64 0 20) = 0) => ?_)
  · rw [if_pos c_1] at h
    refine lv_aload_n hx hb dX6_odds_22 rfl (lv_at hl 0 rfl) ?_
    refine lv_ldc hx hb hown (hts _ wk_X6_46) dX6_odds_23 ?_
    obtain ⟨q_2, hq_3, h⟩ := bd_s h
    refine m_cVi (As := [.int (-1000001)]) (rest := []) (o := 0) (ci := 6) C0 hb hml hl.1 wm_X6_75 md_X6_finds (k_X6_finds l G a σ hj (-1000001) q_2 hq_3) rfl rfl ⟨(Nat.le_of_ble_eq_true rfl), (Nat.le_of_ble_eq_true rfl)⟩ hP hS (rfl : kM 0 = 6) (by decide) rfl rfl rfl (Nat.le_of_ble_eq_true rfl) dX6_odds_25 (fun H locs hP hS => ?_)
    refine lv_i2l (v := q_2.1.toInt64) hx hb dX6_odds_28 rfl ?_
    exact m_rl hx hb hr hlk hP hS (Option.some.inj h) dX6_odds_29
  · rw [if_neg c_1] at h
    refine lv_iload_n hx hb dX6_odds_12 rfl (lv_at hl 2 rfl) ?_
    refine lv_i2l (v := x2.toInt64) hx hb dX6_odds_13 rfl ?_
    refine lv_lconst (v := 0) hx hb dX6_odds_14 (by decide) ?_
    refine lv_lconst (v := 1) hx hb dX6_odds_15 (by decide) ?_
    refine m_pSi (As := [.long x2.toInt64, .long 0, .long 1]) (rest := []) C0.z hb hml hl.1 wm_X6_49 md_X6_in (k_X6_in l x2.toInt64 0 1) rfl rfl ⟨(Nat.le_of_ble_eq_true rfl), (Nat.le_of_ble_eq_true rfl)⟩ rfl rfl (Nat.le_of_ble_eq_true rfl) dX6_odds_16 ?_
    refine lv_if_ne (tgt := 30) hx hb dX6_odds_19 (by decide) (fun (c_4 : ¬ (f_X6_in x2.toInt64 0 1) = 0) => ?_) (fun (c_4 : (f_X6_in x2.toInt64 0 1) = 0) => ?_)
    · rw [if_neg c_4] at h
      refine lv_iconst (v := 0) hx hb dX6_odds_30 (by decide) ?_
      refine lv_istore_n (lv' := [(3, .int 0), (0, .ref (a 0)), (1, .int x1), (2, .int x2)]) hx hb dX6_odds_31 rfl hl (by decide) rfl (fun ls hl => ?_)
      refine lv_iconst (v := 0) hx hb dX6_odds_32 (by decide) ?_
      refine lv_istore (lv' := [(4, .int 0), (3, .int 0), (0, .ref (a 0)), (1, .int x1), (2, .int x2)]) hx hb dX6_odds_33 hl (by decide) rfl (fun ls hl => ?_)
      have L_28 : ∀ (fu35 : Nat) (x3_5 : Int32) (x4_6 : Int32) (H : Heap) (locs : List Loc) (ls : Array Slot), it2 (f_X6_odds_B35 x1 x2 σ) fu35 x3_5 x4_6 = some q → HP G kM nM a σ H → va_S (AW nM a) s.heap H locs → lv_has ls 8 [(4, .int x4_6), (3, .int x3_5), (0, .ref (a 0)), (1, .int x1), (2, .int x2)] → W p l e ({ frames := 1, cells := 0, slots := 0, locals := 25 } : Room) s m ([.ref (a 0), .int x1, .int x2] : List Value).toArray below meth c H locs 0 0 (MQ below (QL G kM nM a q) ([.ref (a 0), .int x1, .int x2] : List Value).toArray s 0 0 (AW nM a)) (F0 m 35 ls []) := by
        intro fu35
        induction fu35 with
        | zero =>
          intro x3_5 x4_6 H locs ls h
          cases h
        | succ fu35 ih35 =>
          intro x3_5 x4_6 H locs ls h hP hS hl
          replace h : (f_X6_odds_B35 x1 x2 σ) (it2 (f_X6_odds_B35 x1 x2 σ) fu35) x3_5 x4_6 = some q := h
          generalize it2 (f_X6_odds_B35 x1 x2 σ) fu35 = rec35 at h ih35
          unfold f_X6_odds_B35 at h
          refine lv_iload hx hb dX6_odds_35 (lv_at hl 0 rfl) ?_
          refine lv_bipush (v := 8) hx hb dX6_odds_37 (by decide) ?_
          refine lv_icmp_ge (tgt := 68) hx hb dX6_odds_39 (by decide) (fun (c_7 : 8 ≤ x4_6) => ?_) (fun (c_7 : ¬ 8 ≤ x4_6) => ?_)
          · rw [if_pos c_7] at h
            refine lv_bipush (v := 8) hx hb dX6_odds_68 (by decide) ?_
            refine lv_istore (lv' := [(4, .int 8), (3, .int x3_5), (0, .ref (a 0)), (1, .int x1), (2, .int x2)]) hx hb dX6_odds_70 hl (by decide) rfl (fun ls hl => ?_)
            have L_23 : ∀ (fu72 : Nat) (x4_8 : Int32) (H : Heap) (locs : List Loc) (ls : Array Slot), it1 (f_X6_odds_B72 x1 x2 σ x3_5) fu72 x4_8 = some q → HP G kM nM a σ H → va_S (AW nM a) s.heap H locs → lv_has ls 8 [(4, .int x4_8), (3, .int x3_5), (1, .int x1), (2, .int x2)] → W p l e ({ frames := 1, cells := 0, slots := 0, locals := 25 } : Room) s m ([.ref (a 0), .int x1, .int x2] : List Value).toArray below meth c H locs 0 0 (MQ below (QL G kM nM a q) ([.ref (a 0), .int x1, .int x2] : List Value).toArray s 0 0 (AW nM a)) (F0 m 72 ls []) := by
              intro fu72
              induction fu72 with
              | zero =>
                intro x4_8 H locs ls h
                cases h
              | succ fu72 ih72 =>
                intro x4_8 H locs ls h hP hS hl
                replace h : (f_X6_odds_B72 x1 x2 σ x3_5) (it1 (f_X6_odds_B72 x1 x2 σ x3_5) fu72) x4_8 = some q := h
                generalize it1 (f_X6_odds_B72 x1 x2 σ x3_5) fu72 = rec72 at h ih72
                unfold f_X6_odds_B72 at h
                refine lv_iload_n hx hb dX6_odds_72 rfl (lv_at hl 1 rfl) ?_
                refine lv_iload hx hb dX6_odds_73 (lv_at hl 0 rfl) ?_
                obtain ⟨hn_9, h⟩ := cnz_s h
                refine lv_irem hx hb dX6_odds_75 hn_9 ?_
                have J_10 : ∀  (H : Heap) (locs : List Loc) (ls : Array Slot), f_X6_odds_J87 x4_8 rec72 = some q → HP G kM nM a σ H → va_S (AW nM a) s.heap H locs → lv_has ls 8 [(4, .int x4_8), (3, .int x3_5), (1, .int x1), (2, .int x2)] → W p l e ({ frames := 1, cells := 0, slots := 0, locals := 25 } : Room) s m ([.ref (a 0), .int x1, .int x2] : List Value).toArray below meth c H locs 0 0 (MQ below (QL G kM nM a q) ([.ref (a 0), .int x1, .int x2] : List Value).toArray s 0 0 (AW nM a)) (F0 m 87 ls []) := by
                  intro  H locs ls h hP hS hl
                  unfold f_X6_odds_J87 at h
                  refine lv_iinc (v := x4_8 + (-1)) (lv' := [(4, .int (x4_8 + (-1))), (3, .int x3_5), (1, .int x1), (2, .int x2)]) hx hb dX6_odds_87 hl (k := 0) rfl rfl (by decide) rfl (fun ls hl => ?_)
                  refine lv_goto (tgt := 72) hx hb dX6_odds_90 (by decide) ?_
                  exact ih72 (x4_8 + (-1)) _ _ _ h hP hS (lv_sub hl [0, 1, 2, 3] rfl)
                refine lv_if_ne (tgt := 87) hx hb dX6_odds_76 (by decide) (fun (c_11 : ¬ (jrem x3_5 x4_8) = 0) => ?_) (fun (c_11 : (jrem x3_5 x4_8) = 0) => ?_)
                · rw [if_neg c_11] at h
                  exact J_10  _ _ _ h hP hS (lv_sub hl [0, 1, 2, 3] rfl)
                · rw [if_pos c_11] at h
                  refine lv_bipush (v := 8) hx hb dX6_odds_79 (by decide) ?_
                  refine lv_iload hx hb dX6_odds_81 (lv_at hl 0 rfl) ?_
                  obtain ⟨hn_12, h⟩ := cnz_s h
                  refine lv_irem hx hb dX6_odds_83 hn_12 ?_
                  refine lv_if_eq (tgt := 93) hx hb dX6_odds_84 (by decide) (fun (c_13 : (jrem 8 x4_8) = 0) => ?_) (fun (c_13 : ¬ (jrem 8 x4_8) = 0) => ?_)
                  · rw [if_pos c_13] at h
                    refine lv_lconst (v := 1) hx hb dX6_odds_93 (by decide) ?_
                    refine lv_lstore (lv' := [(5, .long 1), (4, .int x4_8), (3, .int x3_5), (1, .int x1), (2, .int x2)]) hx hb dX6_odds_94 hl (by decide) rfl (fun ls hl => ?_)
                    refine lv_iconst (v := 0) hx hb dX6_odds_96 (by decide) ?_
                    refine lv_istore (lv' := [(7, .int 0), (5, .long 1), (4, .int x4_8), (3, .int x3_5), (1, .int x1), (2, .int x2)]) hx hb dX6_odds_97 hl (by decide) rfl (fun ls hl => ?_)
                    have L_22 : ∀ (fu99 : Nat) (x5_14 : Int64) (x7_15 : Int32) (H : Heap) (locs : List Loc) (ls : Array Slot), it2 (f_X6_odds_B99 x1 x2 σ x3_5 x4_8) fu99 x5_14 x7_15 = some q → HP G kM nM a σ H → va_S (AW nM a) s.heap H locs → lv_has ls 8 [(7, .int x7_15), (5, .long x5_14), (4, .int x4_8), (3, .int x3_5), (1, .int x1), (2, .int x2)] → W p l e ({ frames := 1, cells := 0, slots := 0, locals := 25 } : Room) s m ([.ref (a 0), .int x1, .int x2] : List Value).toArray below meth c H locs 0 0 (MQ below (QL G kM nM a q) ([.ref (a 0), .int x1, .int x2] : List Value).toArray s 0 0 (AW nM a)) (F0 m 99 ls []) := by
                      intro fu99
                      induction fu99 with
                      | zero =>
                        intro x5_14 x7_15 H locs ls h
                        cases h
                      | succ fu99 ih99 =>
                        intro x5_14 x7_15 H locs ls h hP hS hl
                        replace h : (f_X6_odds_B99 x1 x2 σ x3_5 x4_8) (it2 (f_X6_odds_B99 x1 x2 σ x3_5 x4_8) fu99) x5_14 x7_15 = some q := h
                        generalize it2 (f_X6_odds_B99 x1 x2 σ x3_5 x4_8) fu99 = rec99 at h ih99
                        unfold f_X6_odds_B99 at h
                        refine lv_iload hx hb dX6_odds_99 (lv_at hl 0 rfl) ?_
                        refine lv_iload_n hx hb dX6_odds_101 rfl (lv_at hl 4 rfl) ?_
                        refine lv_icmp_ge (tgt := 134) hx hb dX6_odds_102 (by decide) (fun (c_16 : x1 ≤ x7_15) => ?_) (fun (c_16 : ¬ x1 ≤ x7_15) => ?_)
                        · rw [if_pos c_16] at h
                          refine lv_lload hx hb dX6_odds_134 (lv_at hl 1 rfl) ?_
                          exact m_rl hx hb hr hlk hP hS (Option.some.inj h) dX6_odds_136
                        · rw [if_neg c_16] at h
                          refine lv_lload hx hb dX6_odds_105 (lv_at hl 1 rfl) ?_
                          refine lv_iload_n hx hb dX6_odds_107 rfl (lv_at hl 5 rfl) ?_
                          have J_18 : ∀ (t_17 : Int64) (H : Heap) (locs : List Loc) (ls : Array Slot), f_X6_odds_J125 x5_14 x7_15 rec99 t_17 = some q → HP G kM nM a σ H → va_S (AW nM a) s.heap H locs → lv_has ls 8 [(7, .int x7_15), (4, .int x4_8), (3, .int x3_5), (1, .int x1), (2, .int x2)] → W p l e ({ frames := 1, cells := 0, slots := 0, locals := 25 } : Room) s m ([.ref (a 0), .int x1, .int x2] : List Value).toArray below meth c H locs 0 0 (MQ below (QL G kM nM a q) ([.ref (a 0), .int x1, .int x2] : List Value).toArray s 0 0 (AW nM a)) (F0 m 125 ls [.long t_17, .long x5_14]) := by
                            intro t_17 H locs ls h hP hS hl
                            unfold f_X6_odds_J125 at h
                            refine lv_lmul hx hb dX6_odds_125 ?_
                            refine lv_lstore (lv' := [(5, .long (x5_14 * t_17)), (7, .int x7_15), (4, .int x4_8), (3, .int x3_5), (1, .int x1), (2, .int x2)]) hx hb dX6_odds_126 hl (by decide) rfl (fun ls hl => ?_)
                            refine lv_iinc (v := x7_15 + 1) (lv' := [(7, .int (x7_15 + 1)), (5, .long (x5_14 * t_17)), (4, .int x4_8), (3, .int x3_5), (1, .int x1), (2, .int x2)]) hx hb dX6_odds_128 hl (k := 1) rfl rfl (by decide) rfl (fun ls hl => ?_)
                            refine lv_goto (tgt := 99) hx hb dX6_odds_131 (by decide) ?_
                            exact ih99 (x5_14 * t_17) (x7_15 + 1) _ _ _ h hP hS (lv_sub hl [0, 1, 2, 3, 4, 5] rfl)
                          refine lv_if_ne (tgt := 119) hx hb dX6_odds_108 (by decide) (fun (c_19 : ¬ x2 = 0) => ?_) (fun (c_19 : x2 = 0) => ?_)
                          · rw [if_neg c_19] at h
                            refine lv_bipush (v := 8) hx hb dX6_odds_119 (by decide) ?_
                            refine lv_iload hx hb dX6_odds_121 (lv_at hl 2 rfl) ?_
                            obtain ⟨hn_20, h⟩ := cnz_s h
                            refine lv_idiv hx hb dX6_odds_123 hn_20 ?_
                            refine lv_i2l (v := (8 / x4_8).toInt64) hx hb dX6_odds_124 rfl ?_
                            exact J_18 ((8 / x4_8).toInt64) _ _ _ h hP hS (lv_sub hl [0, 2, 3, 4, 5] rfl)
                          · rw [if_pos c_19] at h
                            refine lv_iload_n hx hb dX6_odds_111 rfl (lv_at hl 3 rfl) ?_
                            refine lv_iload hx hb dX6_odds_112 (lv_at hl 2 rfl) ?_
                            obtain ⟨hn_21, h⟩ := cnz_s h
                            refine lv_idiv hx hb dX6_odds_114 hn_21 ?_
                            refine lv_i2l (v := (x3_5 / x4_8).toInt64) hx hb dX6_odds_115 rfl ?_
                            refine lv_goto (tgt := 125) hx hb dX6_odds_116 (by decide) ?_
                            exact J_18 ((x3_5 / x4_8).toInt64) _ _ _ h hP hS (lv_sub hl [0, 2, 3, 4, 5] rfl)
                    exact L_22 FU 1 0 _ _ _ h hP hS (lv_sub hl [0, 1, 2, 3, 4, 5] rfl)
                  · rw [if_neg c_13] at h
                    exact J_10  _ _ _ h hP hS (lv_sub hl [0, 1, 2, 3] rfl)
            exact L_23 FU 8 _ _ _ h hP hS (lv_sub hl [0, 1, 3, 4] rfl)
          · rw [if_neg c_7] at h
            refine lv_iload_n hx hb dX6_odds_42 rfl (lv_at hl 1 rfl) ?_
            refine lv_aload_n hx hb dX6_odds_43 rfl (lv_at hl 2 rfl) ?_
            refine gf_X6_7 (o := 0) (o2 := 1) C0 hb hP (rfl : kM 0 = 6) rfl dX6_odds_44 ?_
            refine lv_iconst (v := 4) hx hb dX6_odds_47 (by decide) ?_
            refine lv_iload hx hb dX6_odds_48 (lv_at hl 0 rfl) ?_
            refine lv_iadd hx hb dX6_odds_50 ?_
            obtain ⟨hi_24, h⟩ := chk_s h
            refine m_iald (o := 1) (N := 74) (i := 4 + x4_6) (j := (4 + x4_6).toNatClampNeg) C0 hb hP (rfl : kM 1 = 100 + 74) (by decide) hi_24 rfl dX6_odds_51 ?_
            have J_26 : ∀ (t_25 : Int32) (H : Heap) (locs : List Loc) (ls : Array Slot), f_X6_odds_J60 x3_5 x4_6 rec35 t_25 = some q → HP G kM nM a σ H → va_S (AW nM a) s.heap H locs → lv_has ls 8 [(4, .int x4_6), (0, .ref (a 0)), (1, .int x1), (2, .int x2)] → W p l e ({ frames := 1, cells := 0, slots := 0, locals := 25 } : Room) s m ([.ref (a 0), .int x1, .int x2] : List Value).toArray below meth c H locs 0 0 (MQ below (QL G kM nM a q) ([.ref (a 0), .int x1, .int x2] : List Value).toArray s 0 0 (AW nM a)) (F0 m 60 ls [.int t_25, .int x3_5]) := by
              intro t_25 H locs ls h hP hS hl
              unfold f_X6_odds_J60 at h
              refine lv_iadd hx hb dX6_odds_60 ?_
              refine lv_istore_n (lv' := [(3, .int (x3_5 + t_25)), (4, .int x4_6), (0, .ref (a 0)), (1, .int x1), (2, .int x2)]) hx hb dX6_odds_61 rfl hl (by decide) rfl (fun ls hl => ?_)
              refine lv_iinc (v := x4_6 + 1) (lv' := [(4, .int (x4_6 + 1)), (3, .int (x3_5 + t_25)), (0, .ref (a 0)), (1, .int x1), (2, .int x2)]) hx hb dX6_odds_62 hl (k := 1) rfl rfl (by decide) rfl (fun ls hl => ?_)
              refine lv_goto (tgt := 35) hx hb dX6_odds_65 (by decide) ?_
              exact ih35 (x3_5 + t_25) (x4_6 + 1) _ _ _ h hP hS (lv_sub hl [0, 1, 2, 3, 4] rfl)
            refine lv_if_le (tgt := 59) hx hb dX6_odds_52 (by decide) (fun (c_27 : (σ 1 ((4 + x4_6).toNatClampNeg)) ≤ 0) => ?_) (fun (c_27 : ¬ (σ 1 ((4 + x4_6).toNatClampNeg)) ≤ 0) => ?_)
            · rw [if_pos c_27] at h
              refine lv_iconst (v := 0) hx hb dX6_odds_59 (by decide) ?_
              exact J_26 0 _ _ _ h hP hS (lv_sub hl [0, 2, 3, 4] rfl)
            · rw [if_neg c_27] at h
              refine lv_iconst (v := 1) hx hb dX6_odds_55 (by decide) ?_
              refine lv_goto (tgt := 60) hx hb dX6_odds_56 (by decide) ?_
              exact J_26 1 _ _ _ h hP hS (lv_sub hl [0, 2, 3, 4] rfl)
      exact L_28 FU 0 0 _ _ _ h hP hS (lv_sub hl [0, 1, 2, 3, 4] rfl)
    · rw [if_pos c_4] at h
      refine lv_aload_n hx hb dX6_odds_22 rfl (lv_at hl 0 rfl) ?_
      refine lv_ldc hx hb hown (hts _ wk_X6_46) dX6_odds_23 ?_
      obtain ⟨q_29, hq_30, h⟩ := bd_s h
      refine m_cVi (As := [.int (-1000001)]) (rest := []) (o := 0) (ci := 6) C0 hb hml hl.1 wm_X6_75 md_X6_finds (k_X6_finds l G a σ hj (-1000001) q_29 hq_30) rfl rfl ⟨(Nat.le_of_ble_eq_true rfl), (Nat.le_of_ble_eq_true rfl)⟩ hP hS (rfl : kM 0 = 6) (by decide) rfl rfl rfl (Nat.le_of_ble_eq_true rfl) dX6_odds_25 (fun H locs hP hS => ?_)
      refine lv_i2l (v := q_29.1.toInt64) hx hb dX6_odds_28 rfl ?_
      exact m_rl hx hb hr hlk hP hS (Option.some.inj h) dX6_odds_29
def f_X6_seed (x1 : Int32) (σ : Mem) : Option (Int32 × Mem) := ((f_X6_becomes 3 x1 σ).bind fun q_1 => some (q_1.1, q_1.2))
set_option maxHeartbeats 4000000 in
set_option maxRecDepth 100000 in
theorem k_X6_seed (l : Launch) (G : GG) (a : Nat → Nat) (σ : Mem) (hj : INJ nM a) (x1 : Int32) (q : Int32 × Mem) (h : f_X6_seed x1 σ = some q) : Met l yX6_seed (Cond.code yX6_seed cX6_seed 2 (some .int) :: TB) ({ frames := 1, cells := 0, slots := 0, locals := 23 } : Room) (PA G kM nM a σ [.ref (a 0), .int x1]) (QI G kM nM a q) 0 0 (AW nM a) := by
  refine M_ofW (by decide) hj kM_lt (Nat.le_of_ble_eq_true rfl) (fun p e s m below meth c ls C0 hb hml hr hlk hP hS hl => ?_)
  have C0 : CT p s _ m RX6 G kM nM a := C0
  have hx := C0.1
  have hts := C0.2.1
  have hown := C0.2.2.1
  have hl : lv_has ls 2 [(0, .ref (a 0)), (1, .int x1)] := hl
  unfold f_X6_seed at h
  refine lv_aload_n hx hb dX6_seed_0 rfl (lv_at hl 0 rfl) ?_
  refine lv_iconst (v := 3) hx hb dX6_seed_1 (by decide) ?_
  refine lv_iload_n hx hb dX6_seed_2 rfl (lv_at hl 1 rfl) ?_
  obtain ⟨q_1, hq_2, h⟩ := bd_s h
  refine m_cVi (As := [.int 3, .int x1]) (rest := []) (o := 0) (ci := 6) C0 hb hml hl.1 wm_X6_72 md_X6_becomes (k_X6_becomes l G a σ hj 3 x1 q_1 hq_2) rfl rfl ⟨(Nat.le_of_ble_eq_true rfl), (Nat.le_of_ble_eq_true rfl)⟩ hP hS (rfl : kM 0 = 6) (by decide) rfl rfl rfl (Nat.le_of_ble_eq_true rfl) dX6_seed_3 (fun H locs hP hS => ?_)
  exact m_ri hx hb hr hlk hP hS (Option.some.inj h) dX6_seed_6
def f_X6_feed_B41 (x1 : Int32) (rec41 : Int32 → Mem → Option (Int32 × Mem)) (x3_3 : Int32) (σ_4 : Mem) : Option (Int32 × Mem) := (if x3_3 < 0 then some (σ_4 0 13, σ_4) else (chk (σ_4 0 13) 120 (rec41 (x3_3 + (-1)) (mst (mst σ_4 8 ((σ_4 0 13).toNatClampNeg) ((x1 >>> ((8 * x3_3) &&& 31)) &&& 255)) 0 13 (((mst σ_4 8 ((σ_4 0 13).toNatClampNeg) ((x1 >>> ((8 * x3_3) &&& 31)) &&& 255)) 0 13) + 1)))))
def f_X6_feed (x1 : Int32) (x2 : Int32) (σ : Mem) : Option (Int32 × Mem) := (if (f_X6_in x2.toInt64 1 4) = 0 then ((f_X6_finds (-1000001) σ).bind fun q_10 => some (q_10.1, q_10.2)) else (if ((σ 0 13) + x2) ≤ 120 then (it2 (f_X6_feed_B41 x1) FU (x2 - 1) σ) else ((f_X6_finds (-1000002) σ).bind fun q_8 => some (q_8.1, q_8.2))))
set_option maxHeartbeats 4000000 in
set_option maxRecDepth 100000 in
theorem k_X6_feed (l : Launch) (G : GG) (a : Nat → Nat) (σ : Mem) (hj : INJ nM a) (x1 : Int32) (x2 : Int32) (q : Int32 × Mem) (h : f_X6_feed x1 x2 σ = some q) : Met l yX6_feed (Cond.code yX6_feed cX6_feed 4 (some .int) :: TB) ({ frames := 1, cells := 0, slots := 0, locals := 25 } : Room) (PA G kM nM a σ [.ref (a 0), .int x1, .int x2]) (QI G kM nM a q) 0 0 (AW nM a) := by
  refine M_ofW (by decide) hj kM_lt (Nat.le_of_ble_eq_true rfl) (fun p e s m below meth c ls C0 hb hml hr hlk hP hS hl => ?_)
  have C0 : CT p s _ m RX6 G kM nM a := C0
  have hx := C0.1
  have hts := C0.2.1
  have hown := C0.2.2.1
  have hl : lv_has ls 4 [(0, .ref (a 0)), (1, .int x1), (2, .int x2)] := hl
  unfold f_X6_feed at h
  refine lv_iload_n hx hb dX6_feed_0 rfl (lv_at hl 2 rfl) ?_
  refine lv_i2l (v := x2.toInt64) hx hb dX6_feed_1 rfl ?_
  refine lv_lconst (v := 1) hx hb dX6_feed_2 (by decide) ?_
  refine lv_ldc2 hx hb hown (hts _ wk_X6_112) dX6_feed_3 ?_
  refine m_pSi (As := [.long x2.toInt64, .long 1, .long 4]) (rest := []) C0.z hb hml hl.1 wm_X6_49 md_X6_in (k_X6_in l x2.toInt64 1 4) rfl rfl ⟨(Nat.le_of_ble_eq_true rfl), (Nat.le_of_ble_eq_true rfl)⟩ rfl rfl (Nat.le_of_ble_eq_true rfl) dX6_feed_6 ?_
  refine lv_if_ne (tgt := 19) hx hb dX6_feed_9 (by decide) (fun (c_1 : ¬ (f_X6_in x2.toInt64 1 4) = 0) => ?_) (fun (c_1 : (f_X6_in x2.toInt64 1 4) = 0) => ?_)
  · rw [if_neg c_1] at h
    refine lv_aload_n hx hb dX6_feed_19 rfl (lv_at hl 0 rfl) ?_
    refine gf_X6_222 (o := 0) C0 hb hP (rfl : kM 0 = 6) dX6_feed_20 ?_
    refine lv_iload_n hx hb dX6_feed_23 rfl (lv_at hl 2 rfl) ?_
    refine lv_iadd hx hb dX6_feed_24 ?_
    refine lv_bipush (v := 120) hx hb dX6_feed_25 (by decide) ?_
    refine lv_icmp_le (tgt := 37) hx hb dX6_feed_27 (by decide) (fun (c_2 : ((σ 0 13) + x2) ≤ 120) => ?_) (fun (c_2 : ¬ ((σ 0 13) + x2) ≤ 120) => ?_)
    · rw [if_pos c_2] at h
      refine lv_iload_n hx hb dX6_feed_37 rfl (lv_at hl 2 rfl) ?_
      refine lv_iconst (v := 1) hx hb dX6_feed_38 (by decide) ?_
      refine lv_isub hx hb dX6_feed_39 ?_
      refine lv_istore_n (lv' := [(3, .int (x2 - 1)), (0, .ref (a 0)), (1, .int x1), (2, .int x2)]) hx hb dX6_feed_40 rfl hl (by decide) rfl (fun ls hl => ?_)
      have L_7 : ∀ (fu41 : Nat) (x3_3 : Int32) (σ_4 : Mem) (H : Heap) (locs : List Loc) (ls : Array Slot), it2 (f_X6_feed_B41 x1) fu41 x3_3 σ_4 = some q → HP G kM nM a σ_4 H → va_S (AW nM a) s.heap H locs → lv_has ls 4 [(3, .int x3_3), (0, .ref (a 0)), (1, .int x1)] → W p l e ({ frames := 1, cells := 0, slots := 0, locals := 25 } : Room) s m ([.ref (a 0), .int x1, .int x2] : List Value).toArray below meth c H locs 0 0 (MQ below (QI G kM nM a q) ([.ref (a 0), .int x1, .int x2] : List Value).toArray s 0 0 (AW nM a)) (F0 m 41 ls []) := by
        intro fu41
        induction fu41 with
        | zero =>
          intro x3_3 σ_4 H locs ls h
          cases h
        | succ fu41 ih41 =>
          intro x3_3 σ_4 H locs ls h hP hS hl
          replace h : (f_X6_feed_B41 x1) (it2 (f_X6_feed_B41 x1) fu41) x3_3 σ_4 = some q := h
          generalize it2 (f_X6_feed_B41 x1) fu41 = rec41 at h ih41
          unfold f_X6_feed_B41 at h
          refine lv_iload_n hx hb dX6_feed_41 rfl (lv_at hl 0 rfl) ?_
          refine lv_if_lt (tgt := 80) hx hb dX6_feed_42 (by decide) (fun (c_5 : x3_3 < 0) => ?_) (fun (c_5 : ¬ x3_3 < 0) => ?_)
          · rw [if_pos c_5] at h
            refine lv_aload_n hx hb dX6_feed_80 rfl (lv_at hl 1 rfl) ?_
            refine gf_X6_222 (o := 0) C0 hb hP (rfl : kM 0 = 6) dX6_feed_81 ?_
            exact m_ri hx hb hr hlk hP hS (Option.some.inj h) dX6_feed_84
          · rw [if_neg c_5] at h
            refine lv_aload_n hx hb dX6_feed_45 rfl (lv_at hl 1 rfl) ?_
            refine gf_X6_31 (o := 0) (o2 := 8) C0 hb hP (rfl : kM 0 = 6) rfl dX6_feed_46 ?_
            refine lv_aload_n hx hb dX6_feed_49 rfl (lv_at hl 1 rfl) ?_
            refine gf_X6_222 (o := 0) C0 hb hP (rfl : kM 0 = 6) dX6_feed_50 ?_
            refine lv_iload_n hx hb dX6_feed_53 rfl (lv_at hl 2 rfl) ?_
            refine lv_bipush (v := 8) hx hb dX6_feed_54 (by decide) ?_
            refine lv_iload_n hx hb dX6_feed_56 rfl (lv_at hl 0 rfl) ?_
            refine lv_imul hx hb dX6_feed_57 ?_
            refine lv_ishr hx hb dX6_feed_58 ?_
            refine lv_sipush (v := 255) hx hb dX6_feed_59 (by decide) ?_
            refine lv_iand hx hb dX6_feed_62 ?_
            obtain ⟨hi_6, h⟩ := chk_s h
            refine m_iast (o := 8) (N := 120) (i := σ_4 0 13) (j := (σ_4 0 13).toNatClampNeg) C0 hb hP hS (rfl : kM 8 = 100 + 120) (by decide) hi_6 rfl dX6_feed_63 (fun H locs hP hS => ?_)
            refine lv_aload_n hx hb dX6_feed_64 rfl (lv_at hl 1 rfl) ?_
            refine lv_dup hx hb dX6_feed_65 rfl ?_
            refine gf_X6_222 (o := 0) C0 hb hP (rfl : kM 0 = 6) dX6_feed_66 ?_
            refine lv_iconst (v := 1) hx hb dX6_feed_69 (by decide) ?_
            refine lv_iadd hx hb dX6_feed_70 ?_
            refine pf_X6_222 (o := 0) C0 hb hP hS (rfl : kM 0 = 6) dX6_feed_71 (fun H locs hP hS => ?_)
            refine lv_iinc (v := x3_3 + (-1)) (lv' := [(3, .int (x3_3 + (-1))), (0, .ref (a 0)), (1, .int x1)]) hx hb dX6_feed_74 hl (k := 0) rfl rfl (by decide) rfl (fun ls hl => ?_)
            refine lv_goto (tgt := 41) hx hb dX6_feed_77 (by decide) ?_
            exact ih41 (x3_3 + (-1)) (mst (mst σ_4 8 ((σ_4 0 13).toNatClampNeg) ((x1 >>> ((8 * x3_3) &&& 31)) &&& 255)) 0 13 (((mst σ_4 8 ((σ_4 0 13).toNatClampNeg) ((x1 >>> ((8 * x3_3) &&& 31)) &&& 255)) 0 13) + 1)) _ _ _ h hP hS (lv_sub hl [0, 1, 2] rfl)
      exact L_7 FU (x2 - 1) σ _ _ _ h hP hS (lv_sub hl [0, 1, 2] rfl)
    · rw [if_neg c_2] at h
      refine lv_aload_n hx hb dX6_feed_30 rfl (lv_at hl 0 rfl) ?_
      refine lv_ldc hx hb hown (hts _ wk_X6_96) dX6_feed_31 ?_
      obtain ⟨q_8, hq_9, h⟩ := bd_s h
      refine m_cVi (As := [.int (-1000002)]) (rest := []) (o := 0) (ci := 6) C0 hb hml hl.1 wm_X6_75 md_X6_finds (k_X6_finds l G a σ hj (-1000002) q_8 hq_9) rfl rfl ⟨(Nat.le_of_ble_eq_true rfl), (Nat.le_of_ble_eq_true rfl)⟩ hP hS (rfl : kM 0 = 6) (by decide) rfl rfl rfl (Nat.le_of_ble_eq_true rfl) dX6_feed_33 (fun H locs hP hS => ?_)
      exact m_ri hx hb hr hlk hP hS (Option.some.inj h) dX6_feed_36
  · rw [if_pos c_1] at h
    refine lv_aload_n hx hb dX6_feed_12 rfl (lv_at hl 0 rfl) ?_
    refine lv_ldc hx hb hown (hts _ wk_X6_46) dX6_feed_13 ?_
    obtain ⟨q_10, hq_11, h⟩ := bd_s h
    refine m_cVi (As := [.int (-1000001)]) (rest := []) (o := 0) (ci := 6) C0 hb hml hl.1 wm_X6_75 md_X6_finds (k_X6_finds l G a σ hj (-1000001) q_10 hq_11) rfl rfl ⟨(Nat.le_of_ble_eq_true rfl), (Nat.le_of_ble_eq_true rfl)⟩ hP hS (rfl : kM 0 = 6) (by decide) rfl rfl rfl (Nat.le_of_ble_eq_true rfl) dX6_feed_15 (fun H locs hP hS => ?_)
    exact m_ri hx hb hr hlk hP hS (Option.some.inj h) dX6_feed_18
def f_X6_wipe (σ : Mem) : Int32 × Mem := (σ 0 13, mst σ 0 13 0)
set_option maxHeartbeats 4000000 in
set_option maxRecDepth 100000 in
theorem k_X6_wipe (l : Launch) (G : GG) (a : Nat → Nat) (σ : Mem) (hj : INJ nM a)  : Met l yX6_wipe (Cond.code yX6_wipe cX6_wipe 2 (some .int) :: TB) ({ frames := 0, cells := 0, slots := 0, locals := 0 } : Room) (PA G kM nM a σ [.ref (a 0)]) (QI G kM nM a (f_X6_wipe σ)) 0 0 (AW nM a) := by
  generalize h : f_X6_wipe σ = q
  refine M_ofW (by decide) hj kM_lt (Nat.le_of_ble_eq_true rfl) (fun p e s m below meth c ls C0 hb hml hr hlk hP hS hl => ?_)
  have C0 : CT p s _ m RX6 G kM nM a := C0
  have hx := C0.1
  have hts := C0.2.1
  have hown := C0.2.2.1
  have hl : lv_has ls 2 [(0, .ref (a 0))] := hl
  unfold f_X6_wipe at h
  refine lv_aload_n hx hb dX6_wipe_0 rfl (lv_at hl 0 rfl) ?_
  refine gf_X6_222 (o := 0) C0 hb hP (rfl : kM 0 = 6) dX6_wipe_1 ?_
  refine lv_istore_n (lv' := [(1, .int (σ 0 13)), (0, .ref (a 0))]) hx hb dX6_wipe_4 rfl hl (by decide) rfl (fun ls hl => ?_)
  refine lv_aload_n hx hb dX6_wipe_5 rfl (lv_at hl 1 rfl) ?_
  refine lv_iconst (v := 0) hx hb dX6_wipe_6 (by decide) ?_
  refine pf_X6_222 (o := 0) C0 hb hP hS (rfl : kM 0 = 6) dX6_wipe_7 (fun H locs hP hS => ?_)
  refine lv_iload_n hx hb dX6_wipe_10 rfl (lv_at hl 0 rfl) ?_
  exact m_ri hx hb hr hlk hP hS h dX6_wipe_11
def f_X6_byteAt (x1 : Int32) (σ : Mem) : Option (Int32) := (if (σ 0 13) ≤ x1 then some (-1) else (chk x1 120 (some (σ 8 x1.toNatClampNeg))))
set_option maxHeartbeats 4000000 in
set_option maxRecDepth 100000 in
theorem k_X6_byteAt (l : Launch) (G : GG) (a : Nat → Nat) (σ : Mem) (hj : INJ nM a) (x1 : Int32) (q : Int32) (h : f_X6_byteAt x1 σ = some q) : Met l yX6_byteAt (Cond.code yX6_byteAt cX6_byteAt 2 (some .int) :: TB) ({ frames := 0, cells := 0, slots := 0, locals := 0 } : Room) (PA G kM nM a σ [.ref (a 0), .int x1]) (SI q) 0 0 NF := by
  refine M_ofW (by decide) hj kM_lt (Nat.le_of_ble_eq_true rfl) (fun p e s m below meth c ls C0 hb hml hr hlk hP hS hl => ?_)
  have C0 : CT p s _ m RX6 G kM nM a := C0
  have hx := C0.1
  have hts := C0.2.1
  have hown := C0.2.2.1
  have hl : lv_has ls 2 [(0, .ref (a 0)), (1, .int x1)] := hl
  unfold f_X6_byteAt at h
  refine lv_iload_n hx hb dX6_byteAt_0 rfl (lv_at hl 1 rfl) ?_
  refine lv_aload_n hx hb dX6_byteAt_1 rfl (lv_at hl 0 rfl) ?_
  refine gf_X6_222 (o := 0) C0 hb hP (rfl : kM 0 = 6) dX6_byteAt_2 ?_
  refine lv_icmp_ge (tgt := 17) hx hb dX6_byteAt_5 (by decide) (fun (c_1 : (σ 0 13) ≤ x1) => ?_) (fun (c_1 : ¬ (σ 0 13) ≤ x1) => ?_)
  · rw [if_pos c_1] at h
    refine lv_iconst (v := (-1)) hx hb dX6_byteAt_17 (by decide) ?_
    exact m_si hx hb hr hlk (Option.some.inj h) dX6_byteAt_18
  · rw [if_neg c_1] at h
    refine lv_aload_n hx hb dX6_byteAt_8 rfl (lv_at hl 0 rfl) ?_
    refine gf_X6_31 (o := 0) (o2 := 8) C0 hb hP (rfl : kM 0 = 6) rfl dX6_byteAt_9 ?_
    refine lv_iload_n hx hb dX6_byteAt_12 rfl (lv_at hl 1 rfl) ?_
    obtain ⟨hi_2, h⟩ := chk_s h
    refine m_iald (o := 8) (N := 120) (i := x1) (j := x1.toNatClampNeg) C0 hb hP (rfl : kM 8 = 100 + 120) (by decide) hi_2 rfl dX6_byteAt_13 ?_
    refine lv_goto (tgt := 18) hx hb dX6_byteAt_14 (by decide) ?_
    exact m_si hx hb hr hlk (Option.some.inj h) dX6_byteAt_18
def f_X6_word_J43 (x3_2 : Int32) (rec7 : Int64 → Int32 → Option (Int64)) (t_8 : Int64) : Option (Int64) := (rec7 t_8 (x3_2 + 1))
def f_X6_word_B7 (σ : Mem) (rec7 : Int64 → Int32 → Option (Int64)) (x1_1 : Int64) (x3_2 : Int32) : Option (Int64) := (if (σ 0 15) ≤ x3_2 then (if (σ 0 17) = 0 then ((f_X6_byteAt (σ 0 14) σ).bind fun q_5 => (if (f_X6_isLetter q_5) = 0 then some 0 else some x1_1)) else some 0) else (if (lg_cmp x1_1 36028797018963967) ≤ 0 then (chk x3_2 120 (f_X6_word_J43 x3_2 rec7 ((32 * x1_1) + (((σ 8 x3_2.toNatClampNeg) - 96).toInt64)))) else (f_X6_word_J43 x3_2 rec7 x1_1)))
def f_X6_word (σ : Mem) : Option (Int64) := (it2 (f_X6_word_B7 σ) FU 0 (σ 0 14))
set_option maxHeartbeats 4000000 in
set_option maxRecDepth 100000 in
theorem k_X6_word (l : Launch) (G : GG) (a : Nat → Nat) (σ : Mem) (hj : INJ nM a)  (q : Int64) (h : f_X6_word σ = some q) : Met l yX6_word (Cond.code yX6_word cX6_word 4 (some .long) :: TB) ({ frames := 2, cells := 0, slots := 0, locals := 45 } : Room) (PA G kM nM a σ [.ref (a 0)]) (SL q) 0 0 NF := by
  refine M_ofW (by decide) hj kM_lt (Nat.le_of_ble_eq_true rfl) (fun p e s m below meth c ls C0 hb hml hr hlk hP hS hl => ?_)
  have C0 : CT p s _ m RX6 G kM nM a := C0
  have hx := C0.1
  have hts := C0.2.1
  have hown := C0.2.2.1
  have hl : lv_has ls 4 [(0, .ref (a 0))] := hl
  unfold f_X6_word at h
  refine lv_lconst (v := 0) hx hb dX6_word_0 (by decide) ?_
  refine lv_lstore_n (lv' := [(1, .long 0), (0, .ref (a 0))]) hx hb dX6_word_1 rfl hl (by decide) rfl (fun ls hl => ?_)
  refine lv_aload_n hx hb dX6_word_2 rfl (lv_at hl 1 rfl) ?_
  refine gf_X6_236 (o := 0) C0 hb hP (rfl : kM 0 = 6) dX6_word_3 ?_
  refine lv_istore_n (lv' := [(3, .int (σ 0 14)), (1, .long 0), (0, .ref (a 0))]) hx hb dX6_word_6 rfl hl (by decide) rfl (fun ls hl => ?_)
  have L_12 : ∀ (fu7 : Nat) (x1_1 : Int64) (x3_2 : Int32) (ls : Array Slot), it2 (f_X6_word_B7 σ) fu7 x1_1 x3_2 = some q → lv_has ls 4 [(3, .int x3_2), (1, .long x1_1), (0, .ref (a 0))] → W p l e ({ frames := 2, cells := 0, slots := 0, locals := 45 } : Room) s m ([.ref (a 0)] : List Value).toArray below meth c s.heap [] 0 0 (MQ below (SL q) ([.ref (a 0)] : List Value).toArray s 0 0 NF) (F0 m 7 ls []) := by
    intro fu7
    induction fu7 with
    | zero =>
      intro x1_1 x3_2 ls h
      cases h
    | succ fu7 ih7 =>
      intro x1_1 x3_2 ls h hl
      replace h : (f_X6_word_B7 σ) (it2 (f_X6_word_B7 σ) fu7) x1_1 x3_2 = some q := h
      generalize it2 (f_X6_word_B7 σ) fu7 = rec7 at h ih7
      unfold f_X6_word_B7 at h
      refine lv_iload_n hx hb dX6_word_7 rfl (lv_at hl 0 rfl) ?_
      refine lv_aload_n hx hb dX6_word_8 rfl (lv_at hl 2 rfl) ?_
      refine gf_X6_233 (o := 0) C0 hb hP (rfl : kM 0 = 6) dX6_word_9 ?_
      refine lv_icmp_ge (tgt := 50) hx hb dX6_word_12 (by decide) (fun (c_3 : (σ 0 15) ≤ x3_2) => ?_) (fun (c_3 : ¬ (σ 0 15) ≤ x3_2) => ?_)
      · rw [if_pos c_3] at h
        refine lv_aload_n hx hb dX6_word_50 rfl (lv_at hl 2 rfl) ?_
        refine gf_X6_248 (o := 0) C0 hb hP (rfl : kM 0 = 6) dX6_word_51 ?_
        refine lv_if_ne (tgt := 71) hx hb dX6_word_54 (by decide) (fun (c_4 : ¬ (σ 0 17) = 0) => ?_) (fun (c_4 : (σ 0 17) = 0) => ?_)
        · rw [if_neg c_4] at h
          refine lv_lconst (v := 0) hx hb dX6_word_71 (by decide) ?_
          refine lv_goto (tgt := 76) hx hb dX6_word_72 (by decide) ?_
          exact m_sl hx hb hr hlk (Option.some.inj h) dX6_word_76
        · rw [if_pos c_4] at h
          refine lv_aload_n hx hb dX6_word_57 rfl (lv_at hl 2 rfl) ?_
          refine lv_aload_n hx hb dX6_word_58 rfl (lv_at hl 2 rfl) ?_
          refine gf_X6_236 (o := 0) C0 hb hP (rfl : kM 0 = 6) dX6_word_59 ?_
          obtain ⟨q_5, hq_6, h⟩ := bd_s h
          refine m_rVi (As := [.int (σ 0 14)]) (rest := []) (o := 0) (ci := 6) C0 hb hml hl.1 wm_X6_239 md_X6_byteAt (k_X6_byteAt l G a σ hj (σ 0 14) q_5 hq_6) rfl rfl ⟨(Nat.le_of_ble_eq_true rfl), (Nat.le_of_ble_eq_true rfl)⟩ hP hS (rfl : kM 0 = 6) (by decide) rfl rfl rfl (Nat.le_of_ble_eq_true rfl) dX6_word_62 ?_
          refine m_pSi (As := [.int q_5]) (rest := []) C0.z hb hml hl.1 wm_X6_242 md_X6_isLetter (k_X6_isLetter l q_5) rfl rfl ⟨(Nat.le_of_ble_eq_true rfl), (Nat.le_of_ble_eq_true rfl)⟩ rfl rfl (Nat.le_of_ble_eq_true rfl) dX6_word_65 ?_
          refine lv_if_ne (tgt := 75) hx hb dX6_word_68 (by decide) (fun (c_7 : ¬ (f_X6_isLetter q_5) = 0) => ?_) (fun (c_7 : (f_X6_isLetter q_5) = 0) => ?_)
          · rw [if_neg c_7] at h
            refine lv_lload_n hx hb dX6_word_75 rfl (lv_at hl 1 rfl) ?_
            exact m_sl hx hb hr hlk (Option.some.inj h) dX6_word_76
          · rw [if_pos c_7] at h
            refine lv_lconst (v := 0) hx hb dX6_word_71 (by decide) ?_
            refine lv_goto (tgt := 76) hx hb dX6_word_72 (by decide) ?_
            exact m_sl hx hb hr hlk (Option.some.inj h) dX6_word_76
      · rw [if_neg c_3] at h
        refine lv_lload_n hx hb dX6_word_15 rfl (lv_at hl 1 rfl) ?_
        refine lv_ldc2 hx hb hown (hts _ wk_X6_254) dX6_word_16 ?_
        refine W.lcmp hx hb dX6_word_19 ?_
        have J_9 : ∀ (t_8 : Int64) (ls : Array Slot), f_X6_word_J43 x3_2 rec7 t_8 = some q → lv_has ls 4 [(3, .int x3_2), (0, .ref (a 0))] → W p l e ({ frames := 2, cells := 0, slots := 0, locals := 45 } : Room) s m ([.ref (a 0)] : List Value).toArray below meth c s.heap [] 0 0 (MQ below (SL q) ([.ref (a 0)] : List Value).toArray s 0 0 NF) (F0 m 43 ls [.long t_8]) := by
          intro t_8 ls h hl
          unfold f_X6_word_J43 at h
          refine lv_lstore_n (lv' := [(1, .long t_8), (3, .int x3_2), (0, .ref (a 0))]) hx hb dX6_word_43 rfl hl (by decide) rfl (fun ls hl => ?_)
          refine lv_iinc (v := x3_2 + 1) (lv' := [(3, .int (x3_2 + 1)), (1, .long t_8), (0, .ref (a 0))]) hx hb dX6_word_44 hl (k := 1) rfl rfl (by decide) rfl (fun ls hl => ?_)
          refine lv_goto (tgt := 7) hx hb dX6_word_47 (by decide) ?_
          exact ih7 t_8 (x3_2 + 1) _ h (lv_sub hl [0, 1, 2] rfl)
        refine lv_if_le (tgt := 27) hx hb dX6_word_20 (by decide) (fun (c_10 : (lg_cmp x1_1 36028797018963967) ≤ 0) => ?_) (fun (c_10 : ¬ (lg_cmp x1_1 36028797018963967) ≤ 0) => ?_)
        · rw [if_pos c_10] at h
          refine lv_ldc2 hx hb hown (hts _ wk_X6_256) dX6_word_27 ?_
          refine lv_lload_n hx hb dX6_word_30 rfl (lv_at hl 1 rfl) ?_
          refine lv_lmul hx hb dX6_word_31 ?_
          refine lv_aload_n hx hb dX6_word_32 rfl (lv_at hl 2 rfl) ?_
          refine gf_X6_31 (o := 0) (o2 := 8) C0 hb hP (rfl : kM 0 = 6) rfl dX6_word_33 ?_
          refine lv_iload_n hx hb dX6_word_36 rfl (lv_at hl 0 rfl) ?_
          obtain ⟨hi_11, h⟩ := chk_s h
          refine m_iald (o := 8) (N := 120) (i := x3_2) (j := x3_2.toNatClampNeg) C0 hb hP (rfl : kM 8 = 100 + 120) (by decide) hi_11 rfl dX6_word_37 ?_
          refine lv_bipush (v := 96) hx hb dX6_word_38 (by decide) ?_
          refine lv_isub hx hb dX6_word_40 ?_
          refine lv_i2l (v := ((σ 8 x3_2.toNatClampNeg) - 96).toInt64) hx hb dX6_word_41 rfl ?_
          refine lv_ladd hx hb dX6_word_42 ?_
          exact J_9 ((32 * x1_1) + (((σ 8 x3_2.toNatClampNeg) - 96).toInt64)) _ h (lv_sub hl [0, 2] rfl)
        · rw [if_neg c_10] at h
          refine lv_lload_n hx hb dX6_word_23 rfl (lv_at hl 1 rfl) ?_
          refine lv_goto (tgt := 43) hx hb dX6_word_24 (by decide) ?_
          exact J_9 x1_1 _ h (lv_sub hl [0, 2] rfl)
  exact L_12 FU 0 (σ 0 14) _ h (lv_sub hl [0, 1, 2] rfl)
def f_X6_kindHere (σ : Mem) : Option (Int32) := ((f_X6_word σ).bind fun q_1 => (if (lg_cmp q_1 24750694578) = 0 then some 0 else (if (lg_cmp q_1 435596) = 0 then some 1 else (if (lg_cmp q_1 539828) = 0 then some 2 else (if (lg_cmp q_1 18226974674418) = 0 then some 3 else (if (lg_cmp q_1 4820390066) = 0 then some 4 else (if (lg_cmp q_1 206440) = 0 then some 5 else (if (lg_cmp q_1 86282469) = 0 then some 6 else some (-1)))))))))
set_option maxHeartbeats 4000000 in
set_option maxRecDepth 100000 in
theorem k_X6_kindHere (l : Launch) (G : GG) (a : Nat → Nat) (σ : Mem) (hj : INJ nM a)  (q : Int32) (h : f_X6_kindHere σ = some q) : Met l yX6_kindHere (Cond.code yX6_kindHere cX6_kindHere 3 (some .int) :: TB) ({ frames := 3, cells := 0, slots := 0, locals := 68 } : Room) (PA G kM nM a σ [.ref (a 0)]) (SI q) 0 0 NF := by
  refine M_ofW (by decide) hj kM_lt (Nat.le_of_ble_eq_true rfl) (fun p e s m below meth c ls C0 hb hml hr hlk hP hS hl => ?_)
  have C0 : CT p s _ m RX6 G kM nM a := C0
  have hx := C0.1
  have hts := C0.2.1
  have hown := C0.2.2.1
  have hl : lv_has ls 3 [(0, .ref (a 0))] := hl
  unfold f_X6_kindHere at h
  refine lv_aload_n hx hb dX6_kindHere_0 rfl (lv_at hl 0 rfl) ?_
  obtain ⟨q_1, hq_2, h⟩ := bd_s h
  refine m_rVl (As := []) (rest := []) (o := 0) (ci := 6) C0 hb hml hl.1 wm_X6_265 md_X6_word (k_X6_word l G a σ hj q_1 hq_2) rfl rfl ⟨(Nat.le_of_ble_eq_true rfl), (Nat.le_of_ble_eq_true rfl)⟩ hP hS (rfl : kM 0 = 6) (by decide) rfl rfl rfl (Nat.le_of_ble_eq_true rfl) dX6_kindHere_1 ?_
  refine lv_lstore_n (lv' := [(1, .long q_1), (0, .ref (a 0))]) hx hb dX6_kindHere_4 rfl hl (by decide) rfl (fun ls hl => ?_)
  refine lv_lload_n hx hb dX6_kindHere_5 rfl (lv_at hl 0 rfl) ?_
  refine lv_ldc2 hx hb hown (hts _ wk_X6_269) dX6_kindHere_6 ?_
  refine W.lcmp hx hb dX6_kindHere_9 ?_
  refine lv_if_ne (tgt := 17) hx hb dX6_kindHere_10 (by decide) (fun (c_3 : ¬ (lg_cmp q_1 24750694578) = 0) => ?_) (fun (c_3 : (lg_cmp q_1 24750694578) = 0) => ?_)
  · rw [if_neg c_3] at h
    refine lv_lload_n hx hb dX6_kindHere_17 rfl (lv_at hl 0 rfl) ?_
    refine lv_ldc2 hx hb hown (hts _ wk_X6_271) dX6_kindHere_18 ?_
    refine W.lcmp hx hb dX6_kindHere_21 ?_
    refine lv_if_ne (tgt := 29) hx hb dX6_kindHere_22 (by decide) (fun (c_4 : ¬ (lg_cmp q_1 435596) = 0) => ?_) (fun (c_4 : (lg_cmp q_1 435596) = 0) => ?_)
    · rw [if_neg c_4] at h
      refine lv_lload_n hx hb dX6_kindHere_29 rfl (lv_at hl 0 rfl) ?_
      refine lv_ldc2 hx hb hown (hts _ wk_X6_273) dX6_kindHere_30 ?_
      refine W.lcmp hx hb dX6_kindHere_33 ?_
      refine lv_if_ne (tgt := 41) hx hb dX6_kindHere_34 (by decide) (fun (c_5 : ¬ (lg_cmp q_1 539828) = 0) => ?_) (fun (c_5 : (lg_cmp q_1 539828) = 0) => ?_)
      · rw [if_neg c_5] at h
        refine lv_lload_n hx hb dX6_kindHere_41 rfl (lv_at hl 0 rfl) ?_
        refine lv_ldc2 hx hb hown (hts _ wk_X6_275) dX6_kindHere_42 ?_
        refine W.lcmp hx hb dX6_kindHere_45 ?_
        refine lv_if_ne (tgt := 53) hx hb dX6_kindHere_46 (by decide) (fun (c_6 : ¬ (lg_cmp q_1 18226974674418) = 0) => ?_) (fun (c_6 : (lg_cmp q_1 18226974674418) = 0) => ?_)
        · rw [if_neg c_6] at h
          refine lv_lload_n hx hb dX6_kindHere_53 rfl (lv_at hl 0 rfl) ?_
          refine lv_ldc2 hx hb hown (hts _ wk_X6_277) dX6_kindHere_54 ?_
          refine W.lcmp hx hb dX6_kindHere_57 ?_
          refine lv_if_ne (tgt := 65) hx hb dX6_kindHere_58 (by decide) (fun (c_7 : ¬ (lg_cmp q_1 4820390066) = 0) => ?_) (fun (c_7 : (lg_cmp q_1 4820390066) = 0) => ?_)
          · rw [if_neg c_7] at h
            refine lv_lload_n hx hb dX6_kindHere_65 rfl (lv_at hl 0 rfl) ?_
            refine lv_ldc2 hx hb hown (hts _ wk_X6_279) dX6_kindHere_66 ?_
            refine W.lcmp hx hb dX6_kindHere_69 ?_
            refine lv_if_ne (tgt := 77) hx hb dX6_kindHere_70 (by decide) (fun (c_8 : ¬ (lg_cmp q_1 206440) = 0) => ?_) (fun (c_8 : (lg_cmp q_1 206440) = 0) => ?_)
            · rw [if_neg c_8] at h
              refine lv_lload_n hx hb dX6_kindHere_77 rfl (lv_at hl 0 rfl) ?_
              refine lv_ldc2 hx hb hown (hts _ wk_X6_281) dX6_kindHere_78 ?_
              refine W.lcmp hx hb dX6_kindHere_81 ?_
              refine lv_if_ne (tgt := 90) hx hb dX6_kindHere_82 (by decide) (fun (c_9 : ¬ (lg_cmp q_1 86282469) = 0) => ?_) (fun (c_9 : (lg_cmp q_1 86282469) = 0) => ?_)
              · rw [if_neg c_9] at h
                refine lv_iconst (v := (-1)) hx hb dX6_kindHere_90 (by decide) ?_
                exact m_si hx hb hr hlk (Option.some.inj h) dX6_kindHere_91
              · rw [if_pos c_9] at h
                refine lv_bipush (v := 6) hx hb dX6_kindHere_85 (by decide) ?_
                refine lv_goto (tgt := 91) hx hb dX6_kindHere_87 (by decide) ?_
                exact m_si hx hb hr hlk (Option.some.inj h) dX6_kindHere_91
            · rw [if_pos c_8] at h
              refine lv_iconst (v := 5) hx hb dX6_kindHere_73 (by decide) ?_
              refine lv_goto (tgt := 91) hx hb dX6_kindHere_74 (by decide) ?_
              exact m_si hx hb hr hlk (Option.some.inj h) dX6_kindHere_91
          · rw [if_pos c_7] at h
            refine lv_iconst (v := 4) hx hb dX6_kindHere_61 (by decide) ?_
            refine lv_goto (tgt := 91) hx hb dX6_kindHere_62 (by decide) ?_
            exact m_si hx hb hr hlk (Option.some.inj h) dX6_kindHere_91
        · rw [if_pos c_6] at h
          refine lv_iconst (v := 3) hx hb dX6_kindHere_49 (by decide) ?_
          refine lv_goto (tgt := 91) hx hb dX6_kindHere_50 (by decide) ?_
          exact m_si hx hb hr hlk (Option.some.inj h) dX6_kindHere_91
      · rw [if_pos c_5] at h
        refine lv_iconst (v := 2) hx hb dX6_kindHere_37 (by decide) ?_
        refine lv_goto (tgt := 91) hx hb dX6_kindHere_38 (by decide) ?_
        exact m_si hx hb hr hlk (Option.some.inj h) dX6_kindHere_91
    · rw [if_pos c_4] at h
      refine lv_iconst (v := 1) hx hb dX6_kindHere_25 (by decide) ?_
      refine lv_goto (tgt := 91) hx hb dX6_kindHere_26 (by decide) ?_
      exact m_si hx hb hr hlk (Option.some.inj h) dX6_kindHere_91
  · rw [if_pos c_3] at h
    refine lv_iconst (v := 0) hx hb dX6_kindHere_13 (by decide) ?_
    refine lv_goto (tgt := 91) hx hb dX6_kindHere_14 (by decide) ?_
    exact m_si hx hb hr hlk (Option.some.inj h) dX6_kindHere_91
def f_X6_token_J122 (σ_10 : Mem) (rec86 : Mem → Option (Mem)) : Option (Mem) := (rec86 (mst σ_10 0 15 ((σ_10 0 15) + 1)))
def f_X6_token_J104 (q_7 : Int32) (σ_10 : Mem) (rec86 : Mem → Option (Mem)) : Option (Mem) := (if (f_X6_isDigit q_7) = 0 then some σ_10 else ((f_X6_byteAt (σ_10 0 15) σ_10).bind fun q_13 => (if (f_X6_isDigit q_13) = 0 then some σ_10 else (f_X6_token_J122 σ_10 rec86))))
def f_X6_token_B86 (q_5 : Int32) (q_7 : Int32) (rec86 : Mem → Option (Mem)) (σ_10 : Mem) : Option (Mem) := (if (f_X6_isLetter q_5) = 0 then (f_X6_token_J104 q_7 σ_10 rec86) else ((f_X6_byteAt (σ_10 0 15) σ_10).bind fun q_18 => (if (f_X6_isLetter q_18) = 0 then (f_X6_token_J104 q_7 σ_10 rec86) else (f_X6_token_J122 σ_10 rec86))))
def f_X6_token_J83 (σ_1 : Mem) (q_5 : Int32) (q_7 : Int32) (t_9 : Int32) : Option (Mem) := (it1 (f_X6_token_B86 q_5 q_7) FU (mst σ_1 0 15 t_9))
def f_X6_token_B8  (rec8 : Mem → Option (Mem)) (σ_1 : Mem) : Option (Mem) := ((f_X6_byteAt (σ_1 0 14) σ_1).bind fun q_2 => (if q_2 = 32 then (rec8 (mst σ_1 0 14 ((σ_1 0 14) + 1))) else ((f_X6_byteAt (σ_1 0 14) σ_1).bind fun q_5 => ((f_X6_byteAt (σ_1 0 14) σ_1).bind fun q_7 => (f_X6_token_J83 σ_1 q_5 q_7 (if (σ_1 0 13) ≤ (σ_1 0 14) then σ_1 0 14 else (σ_1 0 14) + 1))))))
def f_X6_token (σ : Mem) : Option (Mem) := (it1 f_X6_token_B8 FU (mst σ 0 14 (σ 0 15)))
set_option maxHeartbeats 4000000 in
set_option maxRecDepth 100000 in
theorem k_X6_token (l : Launch) (G : GG) (a : Nat → Nat) (σ : Mem) (hj : INJ nM a)  (q : Mem) (h : f_X6_token σ = some q) : Met l yX6_token (Cond.code yX6_token cX6_token 3 none :: TB) ({ frames := 2, cells := 0, slots := 0, locals := 45 } : Room) (PA G kM nM a σ [.ref (a 0)]) (QV G kM nM a q) 0 0 (AW nM a) := by
  refine M_ofW (by decide) hj kM_lt (Nat.le_of_ble_eq_true rfl) (fun p e s m below meth c ls C0 hb hml hr hlk hP hS hl => ?_)
  have C0 : CT p s _ m RX6 G kM nM a := C0
  have hx := C0.1
  have hts := C0.2.1
  have hown := C0.2.2.1
  have hl : lv_has ls 3 [(0, .ref (a 0))] := hl
  unfold f_X6_token at h
  refine lv_aload_n hx hb dX6_token_0 rfl (lv_at hl 0 rfl) ?_
  refine lv_aload_n hx hb dX6_token_1 rfl (lv_at hl 0 rfl) ?_
  refine gf_X6_233 (o := 0) C0 hb hP (rfl : kM 0 = 6) dX6_token_2 ?_
  refine pf_X6_236 (o := 0) C0 hb hP hS (rfl : kM 0 = 6) dX6_token_5 (fun H locs hP hS => ?_)
  have L_24 : ∀ (fu8 : Nat) (σ_1 : Mem) (H : Heap) (locs : List Loc) (ls : Array Slot), it1 f_X6_token_B8 fu8 σ_1 = some q → HP G kM nM a σ_1 H → va_S (AW nM a) s.heap H locs → lv_has ls 3 [(0, .ref (a 0))] → W p l e ({ frames := 2, cells := 0, slots := 0, locals := 45 } : Room) s m ([.ref (a 0)] : List Value).toArray below meth c H locs 0 0 (MQ below (QV G kM nM a q) ([.ref (a 0)] : List Value).toArray s 0 0 (AW nM a)) (F0 m 8 ls []) := by
    intro fu8
    induction fu8 with
    | zero =>
      intro σ_1 H locs ls h
      cases h
    | succ fu8 ih8 =>
      intro σ_1 H locs ls h hP hS hl
      replace h : f_X6_token_B8 (it1 f_X6_token_B8 fu8) σ_1 = some q := h
      generalize it1 f_X6_token_B8 fu8 = rec8 at h ih8
      unfold f_X6_token_B8 at h
      refine lv_aload_n hx hb dX6_token_8 rfl (lv_at hl 0 rfl) ?_
      refine lv_aload_n hx hb dX6_token_9 rfl (lv_at hl 0 rfl) ?_
      refine gf_X6_236 (o := 0) C0 hb hP (rfl : kM 0 = 6) dX6_token_10 ?_
      obtain ⟨q_2, hq_3, h⟩ := bd_s h
      refine m_rVi (As := [.int (σ_1 0 14)]) (rest := []) (o := 0) (ci := 6) C0 hb hml hl.1 wm_X6_239 md_X6_byteAt (k_X6_byteAt l G a σ_1 hj (σ_1 0 14) q_2 hq_3) rfl rfl ⟨(Nat.le_of_ble_eq_true rfl), (Nat.le_of_ble_eq_true rfl)⟩ hP hS (rfl : kM 0 = 6) (by decide) rfl rfl rfl (Nat.le_of_ble_eq_true rfl) dX6_token_13 ?_
      refine lv_bipush (v := 32) hx hb dX6_token_16 (by decide) ?_
      refine lv_icmp_ne (tgt := 34) hx hb dX6_token_18 (by decide) (fun (c_4 : ¬ q_2 = 32) => ?_) (fun (c_4 : q_2 = 32) => ?_)
      · rw [if_neg c_4] at h
        refine lv_aload_n hx hb dX6_token_34 rfl (lv_at hl 0 rfl) ?_
        refine lv_aload_n hx hb dX6_token_35 rfl (lv_at hl 0 rfl) ?_
        refine gf_X6_236 (o := 0) C0 hb hP (rfl : kM 0 = 6) dX6_token_36 ?_
        obtain ⟨q_5, hq_6, h⟩ := bd_s h
        refine m_rVi (As := [.int (σ_1 0 14)]) (rest := []) (o := 0) (ci := 6) C0 hb hml hl.1 wm_X6_239 md_X6_byteAt (k_X6_byteAt l G a σ_1 hj (σ_1 0 14) q_5 hq_6) rfl rfl ⟨(Nat.le_of_ble_eq_true rfl), (Nat.le_of_ble_eq_true rfl)⟩ hP hS (rfl : kM 0 = 6) (by decide) rfl rfl rfl (Nat.le_of_ble_eq_true rfl) dX6_token_39 ?_
        refine m_pSi (As := [.int q_5]) (rest := []) C0.z hb hml hl.1 wm_X6_242 md_X6_isLetter (k_X6_isLetter l q_5) rfl rfl ⟨(Nat.le_of_ble_eq_true rfl), (Nat.le_of_ble_eq_true rfl)⟩ rfl rfl (Nat.le_of_ble_eq_true rfl) dX6_token_42 ?_
        refine lv_istore_n (lv' := [(1, .int (f_X6_isLetter q_5)), (0, .ref (a 0))]) hx hb dX6_token_45 rfl hl (by decide) rfl (fun ls hl => ?_)
        refine lv_aload_n hx hb dX6_token_46 rfl (lv_at hl 1 rfl) ?_
        refine lv_aload_n hx hb dX6_token_47 rfl (lv_at hl 1 rfl) ?_
        refine gf_X6_236 (o := 0) C0 hb hP (rfl : kM 0 = 6) dX6_token_48 ?_
        obtain ⟨q_7, hq_8, h⟩ := bd_s h
        refine m_rVi (As := [.int (σ_1 0 14)]) (rest := []) (o := 0) (ci := 6) C0 hb hml hl.1 wm_X6_239 md_X6_byteAt (k_X6_byteAt l G a σ_1 hj (σ_1 0 14) q_7 hq_8) rfl rfl ⟨(Nat.le_of_ble_eq_true rfl), (Nat.le_of_ble_eq_true rfl)⟩ hP hS (rfl : kM 0 = 6) (by decide) rfl rfl rfl (Nat.le_of_ble_eq_true rfl) dX6_token_51 ?_
        refine m_pSi (As := [.int q_7]) (rest := []) C0.z hb hml hl.1 wm_X6_245 md_X6_isDigit (k_X6_isDigit l q_7) rfl rfl ⟨(Nat.le_of_ble_eq_true rfl), (Nat.le_of_ble_eq_true rfl)⟩ rfl rfl (Nat.le_of_ble_eq_true rfl) dX6_token_54 ?_
        refine lv_istore_n (lv' := [(2, .int (f_X6_isDigit q_7)), (1, .int (f_X6_isLetter q_5)), (0, .ref (a 0))]) hx hb dX6_token_57 rfl hl (by decide) rfl (fun ls hl => ?_)
        refine lv_aload_n hx hb dX6_token_58 rfl (lv_at hl 2 rfl) ?_
        refine lv_aload_n hx hb dX6_token_59 rfl (lv_at hl 2 rfl) ?_
        refine gf_X6_236 (o := 0) C0 hb hP (rfl : kM 0 = 6) dX6_token_60 ?_
        refine lv_aload_n hx hb dX6_token_63 rfl (lv_at hl 2 rfl) ?_
        refine gf_X6_222 (o := 0) C0 hb hP (rfl : kM 0 = 6) dX6_token_64 ?_
        have J_22 : ∀ (t_9 : Int32) (H : Heap) (locs : List Loc) (ls : Array Slot), f_X6_token_J83 σ_1 q_5 q_7 t_9 = some q → HP G kM nM a σ_1 H → va_S (AW nM a) s.heap H locs → lv_has ls 3 [(2, .int (f_X6_isDigit q_7)), (1, .int (f_X6_isLetter q_5)), (0, .ref (a 0))] → W p l e ({ frames := 2, cells := 0, slots := 0, locals := 45 } : Room) s m ([.ref (a 0)] : List Value).toArray below meth c H locs 0 0 (MQ below (QV G kM nM a q) ([.ref (a 0)] : List Value).toArray s 0 0 (AW nM a)) (F0 m 83 ls [.int t_9, .ref (a 0)]) := by
          intro t_9 H locs ls h hP hS hl
          unfold f_X6_token_J83 at h
          refine pf_X6_233 (o := 0) C0 hb hP hS (rfl : kM 0 = 6) dX6_token_83 (fun H locs hP hS => ?_)
          have L_21 : ∀ (fu86 : Nat) (σ_10 : Mem) (H : Heap) (locs : List Loc) (ls : Array Slot), it1 (f_X6_token_B86 q_5 q_7) fu86 σ_10 = some q → HP G kM nM a σ_10 H → va_S (AW nM a) s.heap H locs → lv_has ls 3 [(2, .int (f_X6_isDigit q_7)), (1, .int (f_X6_isLetter q_5)), (0, .ref (a 0))] → W p l e ({ frames := 2, cells := 0, slots := 0, locals := 45 } : Room) s m ([.ref (a 0)] : List Value).toArray below meth c H locs 0 0 (MQ below (QV G kM nM a q) ([.ref (a 0)] : List Value).toArray s 0 0 (AW nM a)) (F0 m 86 ls []) := by
            intro fu86
            induction fu86 with
            | zero =>
              intro σ_10 H locs ls h
              cases h
            | succ fu86 ih86 =>
              intro σ_10 H locs ls h hP hS hl
              replace h : (f_X6_token_B86 q_5 q_7) (it1 (f_X6_token_B86 q_5 q_7) fu86) σ_10 = some q := h
              generalize it1 (f_X6_token_B86 q_5 q_7) fu86 = rec86 at h ih86
              unfold f_X6_token_B86 at h
              refine lv_iload_n hx hb dX6_token_86 rfl (lv_at hl 1 rfl) ?_
              have J_11 : ∀  (H : Heap) (locs : List Loc) (ls : Array Slot), f_X6_token_J122 σ_10 rec86 = some q → HP G kM nM a σ_10 H → va_S (AW nM a) s.heap H locs → lv_has ls 3 [(2, .int (f_X6_isDigit q_7)), (1, .int (f_X6_isLetter q_5)), (0, .ref (a 0))] → W p l e ({ frames := 2, cells := 0, slots := 0, locals := 45 } : Room) s m ([.ref (a 0)] : List Value).toArray below meth c H locs 0 0 (MQ below (QV G kM nM a q) ([.ref (a 0)] : List Value).toArray s 0 0 (AW nM a)) (F0 m 122 ls []) := by
                intro  H locs ls h hP hS hl
                unfold f_X6_token_J122 at h
                refine lv_aload_n hx hb dX6_token_122 rfl (lv_at hl 2 rfl) ?_
                refine lv_dup hx hb dX6_token_123 rfl ?_
                refine gf_X6_233 (o := 0) C0 hb hP (rfl : kM 0 = 6) dX6_token_124 ?_
                refine lv_iconst (v := 1) hx hb dX6_token_127 (by decide) ?_
                refine lv_iadd hx hb dX6_token_128 ?_
                refine pf_X6_233 (o := 0) C0 hb hP hS (rfl : kM 0 = 6) dX6_token_129 (fun H locs hP hS => ?_)
                refine lv_goto (tgt := 86) hx hb dX6_token_132 (by decide) ?_
                exact ih86 (mst σ_10 0 15 ((σ_10 0 15) + 1)) _ _ _ h hP hS (lv_sub hl [0, 1, 2] rfl)
              have J_16 : ∀  (H : Heap) (locs : List Loc) (ls : Array Slot), f_X6_token_J104 q_7 σ_10 rec86 = some q → HP G kM nM a σ_10 H → va_S (AW nM a) s.heap H locs → lv_has ls 3 [(2, .int (f_X6_isDigit q_7)), (1, .int (f_X6_isLetter q_5)), (0, .ref (a 0))] → W p l e ({ frames := 2, cells := 0, slots := 0, locals := 45 } : Room) s m ([.ref (a 0)] : List Value).toArray below meth c H locs 0 0 (MQ below (QV G kM nM a q) ([.ref (a 0)] : List Value).toArray s 0 0 (AW nM a)) (F0 m 104 ls []) := by
                intro  H locs ls h hP hS hl
                unfold f_X6_token_J104 at h
                refine lv_iload_n hx hb dX6_token_104 rfl (lv_at hl 0 rfl) ?_
                refine lv_if_eq (tgt := 135) hx hb dX6_token_105 (by decide) (fun (c_12 : (f_X6_isDigit q_7) = 0) => ?_) (fun (c_12 : ¬ (f_X6_isDigit q_7) = 0) => ?_)
                · rw [if_pos c_12] at h
                  exact m_rv hx hb hr hlk hP hS (Option.some.inj h) dX6_token_135
                · rw [if_neg c_12] at h
                  refine lv_aload_n hx hb dX6_token_108 rfl (lv_at hl 2 rfl) ?_
                  refine lv_aload_n hx hb dX6_token_109 rfl (lv_at hl 2 rfl) ?_
                  refine gf_X6_233 (o := 0) C0 hb hP (rfl : kM 0 = 6) dX6_token_110 ?_
                  obtain ⟨q_13, hq_14, h⟩ := bd_s h
                  refine m_rVi (As := [.int (σ_10 0 15)]) (rest := []) (o := 0) (ci := 6) C0 hb hml hl.1 wm_X6_239 md_X6_byteAt (k_X6_byteAt l G a σ_10 hj (σ_10 0 15) q_13 hq_14) rfl rfl ⟨(Nat.le_of_ble_eq_true rfl), (Nat.le_of_ble_eq_true rfl)⟩ hP hS (rfl : kM 0 = 6) (by decide) rfl rfl rfl (Nat.le_of_ble_eq_true rfl) dX6_token_113 ?_
                  refine m_pSi (As := [.int q_13]) (rest := []) C0.z hb hml hl.1 wm_X6_245 md_X6_isDigit (k_X6_isDigit l q_13) rfl rfl ⟨(Nat.le_of_ble_eq_true rfl), (Nat.le_of_ble_eq_true rfl)⟩ rfl rfl (Nat.le_of_ble_eq_true rfl) dX6_token_116 ?_
                  refine lv_if_eq (tgt := 135) hx hb dX6_token_119 (by decide) (fun (c_15 : (f_X6_isDigit q_13) = 0) => ?_) (fun (c_15 : ¬ (f_X6_isDigit q_13) = 0) => ?_)
                  · rw [if_pos c_15] at h
                    exact m_rv hx hb hr hlk hP hS (Option.some.inj h) dX6_token_135
                  · rw [if_neg c_15] at h
                    exact J_11  _ _ _ h hP hS (lv_sub hl [0, 1, 2] rfl)
              refine lv_if_eq (tgt := 104) hx hb dX6_token_87 (by decide) (fun (c_17 : (f_X6_isLetter q_5) = 0) => ?_) (fun (c_17 : ¬ (f_X6_isLetter q_5) = 0) => ?_)
              · rw [if_pos c_17] at h
                exact J_16  _ _ _ h hP hS (lv_sub hl [0, 1, 2] rfl)
              · rw [if_neg c_17] at h
                refine lv_aload_n hx hb dX6_token_90 rfl (lv_at hl 2 rfl) ?_
                refine lv_aload_n hx hb dX6_token_91 rfl (lv_at hl 2 rfl) ?_
                refine gf_X6_233 (o := 0) C0 hb hP (rfl : kM 0 = 6) dX6_token_92 ?_
                obtain ⟨q_18, hq_19, h⟩ := bd_s h
                refine m_rVi (As := [.int (σ_10 0 15)]) (rest := []) (o := 0) (ci := 6) C0 hb hml hl.1 wm_X6_239 md_X6_byteAt (k_X6_byteAt l G a σ_10 hj (σ_10 0 15) q_18 hq_19) rfl rfl ⟨(Nat.le_of_ble_eq_true rfl), (Nat.le_of_ble_eq_true rfl)⟩ hP hS (rfl : kM 0 = 6) (by decide) rfl rfl rfl (Nat.le_of_ble_eq_true rfl) dX6_token_95 ?_
                refine m_pSi (As := [.int q_18]) (rest := []) C0.z hb hml hl.1 wm_X6_242 md_X6_isLetter (k_X6_isLetter l q_18) rfl rfl ⟨(Nat.le_of_ble_eq_true rfl), (Nat.le_of_ble_eq_true rfl)⟩ rfl rfl (Nat.le_of_ble_eq_true rfl) dX6_token_98 ?_
                refine lv_if_ne (tgt := 122) hx hb dX6_token_101 (by decide) (fun (c_20 : ¬ (f_X6_isLetter q_18) = 0) => ?_) (fun (c_20 : (f_X6_isLetter q_18) = 0) => ?_)
                · rw [if_neg c_20] at h
                  exact J_11  _ _ _ h hP hS (lv_sub hl [0, 1, 2] rfl)
                · rw [if_pos c_20] at h
                  exact J_16  _ _ _ h hP hS (lv_sub hl [0, 1, 2] rfl)
          exact L_21 FU (mst σ_1 0 15 t_9) _ _ _ h hP hS (lv_sub hl [0, 1, 2] rfl)
        refine lv_icmp_ge (tgt := 79) hx hb dX6_token_67 (by decide) (fun (c_23 : (σ_1 0 13) ≤ (σ_1 0 14)) => ?_) (fun (c_23 : ¬ (σ_1 0 13) ≤ (σ_1 0 14)) => ?_)
        · rw [if_pos c_23] at h
          refine lv_aload_n hx hb dX6_token_79 rfl (lv_at hl 2 rfl) ?_
          refine gf_X6_236 (o := 0) C0 hb hP (rfl : kM 0 = 6) dX6_token_80 ?_
          exact J_22 (σ_1 0 14) _ _ _ h hP hS (lv_sub hl [0, 1, 2] rfl)
        · rw [if_neg c_23] at h
          refine lv_aload_n hx hb dX6_token_70 rfl (lv_at hl 2 rfl) ?_
          refine gf_X6_236 (o := 0) C0 hb hP (rfl : kM 0 = 6) dX6_token_71 ?_
          refine lv_iconst (v := 1) hx hb dX6_token_74 (by decide) ?_
          refine lv_iadd hx hb dX6_token_75 ?_
          refine lv_goto (tgt := 83) hx hb dX6_token_76 (by decide) ?_
          exact J_22 ((σ_1 0 14) + 1) _ _ _ h hP hS (lv_sub hl [0, 1, 2] rfl)
      · rw [if_pos c_4] at h
        refine lv_aload_n hx hb dX6_token_21 rfl (lv_at hl 0 rfl) ?_
        refine lv_dup hx hb dX6_token_22 rfl ?_
        refine gf_X6_236 (o := 0) C0 hb hP (rfl : kM 0 = 6) dX6_token_23 ?_
        refine lv_iconst (v := 1) hx hb dX6_token_26 (by decide) ?_
        refine lv_iadd hx hb dX6_token_27 ?_
        refine pf_X6_236 (o := 0) C0 hb hP hS (rfl : kM 0 = 6) dX6_token_28 (fun H locs hP hS => ?_)
        refine lv_goto (tgt := 8) hx hb dX6_token_31 (by decide) ?_
        exact ih8 (mst σ_1 0 14 ((σ_1 0 14) + 1)) _ _ _ h hP hS (lv_sub hl [0] rfl)
  exact L_24 FU (mst σ 0 14 (σ 0 15)) _ _ _ h hP hS (lv_sub hl [0] rfl)
def f_X6_must_J17 (σ : Mem) (t_1 : Int32) : Option (Mem) := (cbz t_1 (if ((mst σ 0 17 t_1) 0 17) = 0 then ((f_X6_token (mst σ 0 17 t_1)).bind fun q_4 => some q_4) else some (mst σ 0 17 t_1)))
def f_X6_must_J12 (σ : Mem) : Option (Mem) := (f_X6_must_J17 σ 1)
def f_X6_must (x1 : Int32) (σ : Mem) : Option (Mem) := (if (σ 0 17) = 0 then (if x1 = 0 then (f_X6_must_J12 σ) else (f_X6_must_J17 σ 0)) else (f_X6_must_J12 σ))
set_option maxHeartbeats 4000000 in
set_option maxRecDepth 100000 in
theorem k_X6_must (l : Launch) (G : GG) (a : Nat → Nat) (σ : Mem) (hj : INJ nM a) (x1 : Int32) (q : Mem) (h : f_X6_must x1 σ = some q) : Met l yX6_must (Cond.code yX6_must cX6_must 2 none :: TB) ({ frames := 3, cells := 0, slots := 0, locals := 67 } : Room) (PA G kM nM a σ [.ref (a 0), .int x1]) (QV G kM nM a q) 0 0 (AW nM a) := by
  refine M_ofW (by decide) hj kM_lt (Nat.le_of_ble_eq_true rfl) (fun p e s m below meth c ls C0 hb hml hr hlk hP hS hl => ?_)
  have C0 : CT p s _ m RX6 G kM nM a := C0
  have hx := C0.1
  have hts := C0.2.1
  have hown := C0.2.2.1
  have hl : lv_has ls 2 [(0, .ref (a 0)), (1, .int x1)] := hl
  unfold f_X6_must at h
  refine lv_aload_n hx hb dX6_must_0 rfl (lv_at hl 0 rfl) ?_
  refine lv_aload_n hx hb dX6_must_1 rfl (lv_at hl 0 rfl) ?_
  refine gf_X6_248 (o := 0) C0 hb hP (rfl : kM 0 = 6) dX6_must_2 ?_
  have J_6 : ∀ (t_1 : Int32) (H : Heap) (locs : List Loc) (ls : Array Slot), f_X6_must_J17 σ t_1 = some q → HP G kM nM a σ H → va_S (AW nM a) s.heap H locs → lv_has ls 2 [(0, .ref (a 0))] → W p l e ({ frames := 3, cells := 0, slots := 0, locals := 67 } : Room) s m ([.ref (a 0), .int x1] : List Value).toArray below meth c H locs 0 0 (MQ below (QV G kM nM a q) ([.ref (a 0), .int x1] : List Value).toArray s 0 0 (AW nM a)) (F0 m 17 ls [.int t_1, .ref (a 0)]) := by
    intro t_1 H locs ls h hP hS hl
    unfold f_X6_must_J17 at h
    obtain ⟨hz_2, h⟩ := cbz_s h
    refine pf_X6_248 (o := 0) C0 hb hP hS (rfl : kM 0 = 6) hz_2 dX6_must_17 (fun H locs hP hS => ?_)
    refine lv_aload_n hx hb dX6_must_20 rfl (lv_at hl 0 rfl) ?_
    refine gf_X6_248 (o := 0) C0 hb hP (rfl : kM 0 = 6) dX6_must_21 ?_
    refine lv_if_ne (tgt := 31) hx hb dX6_must_24 (by decide) (fun (c_3 : ¬ ((mst σ 0 17 t_1) 0 17) = 0) => ?_) (fun (c_3 : ((mst σ 0 17 t_1) 0 17) = 0) => ?_)
    · rw [if_neg c_3] at h
      exact m_rv hx hb hr hlk hP hS (Option.some.inj h) dX6_must_31
    · rw [if_pos c_3] at h
      refine lv_aload_n hx hb dX6_must_27 rfl (lv_at hl 0 rfl) ?_
      obtain ⟨q_4, hq_5, h⟩ := bd_s h
      refine m_cVv (As := []) (rest := []) (o := 0) (ci := 6) C0 hb hml hl.1 wm_X6_251 md_X6_token (k_X6_token l G a (mst σ 0 17 t_1) hj q_4 hq_5) rfl rfl ⟨(Nat.le_of_ble_eq_true rfl), (Nat.le_of_ble_eq_true rfl)⟩ hP hS (rfl : kM 0 = 6) (by decide) rfl rfl rfl (Nat.le_of_ble_eq_true rfl) dX6_must_28 (fun H locs hP hS => ?_)
      exact m_rv hx hb hr hlk hP hS (Option.some.inj h) dX6_must_31
  have J_7 : ∀  (H : Heap) (locs : List Loc) (ls : Array Slot), f_X6_must_J12 σ = some q → HP G kM nM a σ H → va_S (AW nM a) s.heap H locs → lv_has ls 2 [(0, .ref (a 0))] → W p l e ({ frames := 3, cells := 0, slots := 0, locals := 67 } : Room) s m ([.ref (a 0), .int x1] : List Value).toArray below meth c H locs 0 0 (MQ below (QV G kM nM a q) ([.ref (a 0), .int x1] : List Value).toArray s 0 0 (AW nM a)) (F0 m 12 ls [.ref (a 0)]) := by
    intro  H locs ls h hP hS hl
    unfold f_X6_must_J12 at h
    refine lv_iconst (v := 1) hx hb dX6_must_12 (by decide) ?_
    refine lv_goto (tgt := 17) hx hb dX6_must_13 (by decide) ?_
    exact J_6 1 _ _ _ h hP hS (lv_sub hl [0] rfl)
  refine lv_if_ne (tgt := 12) hx hb dX6_must_5 (by decide) (fun (c_8 : ¬ (σ 0 17) = 0) => ?_) (fun (c_8 : (σ 0 17) = 0) => ?_)
  · rw [if_neg c_8] at h
    exact J_7  _ _ _ h hP hS (lv_sub hl [0] rfl)
  · rw [if_pos c_8] at h
    refine lv_iload_n hx hb dX6_must_8 rfl (lv_at hl 1 rfl) ?_
    refine lv_if_ne (tgt := 16) hx hb dX6_must_9 (by decide) (fun (c_9 : ¬ x1 = 0) => ?_) (fun (c_9 : x1 = 0) => ?_)
    · rw [if_neg c_9] at h
      refine lv_iconst (v := 0) hx hb dX6_must_16 (by decide) ?_
      exact J_6 0 _ _ _ h hP hS (lv_sub hl [0] rfl)
    · rw [if_pos c_9] at h
      exact J_7  _ _ _ h hP hS (lv_sub hl [0] rfl)
def f_X6_number_J79 (x1 : Int32) (x2 : Int32) (σ : Mem) (q_2 : Int32) (x4_4 : Int32) : Option (Mem) := (if (f_X6_isDigit q_2) = 0 then ((f_X6_must 0 (mst σ 0 16 x4_4)).bind fun q_7 => some q_7) else (if (f_X6_in x4_4.toInt64 x1.toInt64 x2.toInt64) = 0 then ((f_X6_must 0 (mst σ 0 16 x4_4)).bind fun q_10 => some q_10) else ((f_X6_must 1 (mst σ 0 16 x4_4)).bind fun q_12 => some q_12)))
def f_X6_number_J71 (x5_5 : Int32) (rec29 : Int32 → Int32 → Option (Mem)) (t_17 : Int32) : Option (Mem) := (rec29 t_17 (x5_5 + 1))
def f_X6_number_B29 (x1 : Int32) (x2 : Int32) (σ : Mem) (q_2 : Int32) (rec29 : Int32 → Int32 → Option (Mem)) (x4_4 : Int32) (x5_5 : Int32) : Option (Mem) := (if (σ 0 15) ≤ x5_5 then (f_X6_number_J79 x1 x2 σ q_2 x4_4) else (if (f_X6_isDigit q_2) = 0 then (f_X6_number_J79 x1 x2 σ q_2 x4_4) else (if x4_4 ≤ 9999 then (chk x5_5 120 (f_X6_number_J71 x5_5 rec29 (((10 * x4_4) + (σ 8 x5_5.toNatClampNeg)) - 48))) else (f_X6_number_J71 x5_5 rec29 x4_4))))
def f_X6_number (x1 : Int32) (x2 : Int32) (σ : Mem) : Option (Mem) := (if (σ 0 17) = 0 then ((f_X6_byteAt (σ 0 14) σ).bind fun q_2 => (it2 (f_X6_number_B29 x1 x2 σ q_2) FU 0 (σ 0 14))) else some σ)
set_option maxHeartbeats 4000000 in
set_option maxRecDepth 100000 in
theorem k_X6_number (l : Launch) (G : GG) (a : Nat → Nat) (σ : Mem) (hj : INJ nM a) (x1 : Int32) (x2 : Int32) (q : Mem) (h : f_X6_number x1 x2 σ = some q) : Met l yX6_number (Cond.code yX6_number cX6_number 6 none :: TB) ({ frames := 4, cells := 0, slots := 0, locals := 88 } : Room) (PA G kM nM a σ [.ref (a 0), .int x1, .int x2]) (QV G kM nM a q) 0 0 (AW nM a) := by
  refine M_ofW (by decide) hj kM_lt (Nat.le_of_ble_eq_true rfl) (fun p e s m below meth c ls C0 hb hml hr hlk hP hS hl => ?_)
  have C0 : CT p s _ m RX6 G kM nM a := C0
  have hx := C0.1
  have hts := C0.2.1
  have hown := C0.2.2.1
  have hl : lv_has ls 6 [(0, .ref (a 0)), (1, .int x1), (2, .int x2)] := hl
  unfold f_X6_number at h
  refine lv_aload_n hx hb dX6_number_0 rfl (lv_at hl 0 rfl) ?_
  refine gf_X6_248 (o := 0) C0 hb hP (rfl : kM 0 = 6) dX6_number_1 ?_
  refine lv_if_eq (tgt := 8) hx hb dX6_number_4 (by decide) (fun (c_1 : (σ 0 17) = 0) => ?_) (fun (c_1 : ¬ (σ 0 17) = 0) => ?_)
  · rw [if_pos c_1] at h
    refine lv_aload_n hx hb dX6_number_8 rfl (lv_at hl 0 rfl) ?_
    refine lv_aload_n hx hb dX6_number_9 rfl (lv_at hl 0 rfl) ?_
    refine gf_X6_236 (o := 0) C0 hb hP (rfl : kM 0 = 6) dX6_number_10 ?_
    obtain ⟨q_2, hq_3, h⟩ := bd_s h
    refine m_rVi (As := [.int (σ 0 14)]) (rest := []) (o := 0) (ci := 6) C0 hb hml hl.1 wm_X6_239 md_X6_byteAt (k_X6_byteAt l G a σ hj (σ 0 14) q_2 hq_3) rfl rfl ⟨(Nat.le_of_ble_eq_true rfl), (Nat.le_of_ble_eq_true rfl)⟩ hP hS (rfl : kM 0 = 6) (by decide) rfl rfl rfl (Nat.le_of_ble_eq_true rfl) dX6_number_13 ?_
    refine m_pSi (As := [.int q_2]) (rest := []) C0.z hb hml hl.1 wm_X6_245 md_X6_isDigit (k_X6_isDigit l q_2) rfl rfl ⟨(Nat.le_of_ble_eq_true rfl), (Nat.le_of_ble_eq_true rfl)⟩ rfl rfl (Nat.le_of_ble_eq_true rfl) dX6_number_16 ?_
    refine lv_istore_n (lv' := [(3, .int (f_X6_isDigit q_2)), (0, .ref (a 0)), (1, .int x1), (2, .int x2)]) hx hb dX6_number_19 rfl hl (by decide) rfl (fun ls hl => ?_)
    refine lv_iconst (v := 0) hx hb dX6_number_20 (by decide) ?_
    refine lv_istore (lv' := [(4, .int 0), (3, .int (f_X6_isDigit q_2)), (0, .ref (a 0)), (1, .int x1), (2, .int x2)]) hx hb dX6_number_21 hl (by decide) rfl (fun ls hl => ?_)
    refine lv_aload_n hx hb dX6_number_23 rfl (lv_at hl 2 rfl) ?_
    refine gf_X6_236 (o := 0) C0 hb hP (rfl : kM 0 = 6) dX6_number_24 ?_
    refine lv_istore (lv' := [(5, .int (σ 0 14)), (4, .int 0), (3, .int (f_X6_isDigit q_2)), (0, .ref (a 0)), (1, .int x1), (2, .int x2)]) hx hb dX6_number_27 hl (by decide) rfl (fun ls hl => ?_)
    have L_21 : ∀ (fu29 : Nat) (x4_4 : Int32) (x5_5 : Int32) (H : Heap) (locs : List Loc) (ls : Array Slot), it2 (f_X6_number_B29 x1 x2 σ q_2) fu29 x4_4 x5_5 = some q → HP G kM nM a σ H → va_S (AW nM a) s.heap H locs → lv_has ls 6 [(5, .int x5_5), (4, .int x4_4), (3, .int (f_X6_isDigit q_2)), (0, .ref (a 0)), (1, .int x1), (2, .int x2)] → W p l e ({ frames := 4, cells := 0, slots := 0, locals := 88 } : Room) s m ([.ref (a 0), .int x1, .int x2] : List Value).toArray below meth c H locs 0 0 (MQ below (QV G kM nM a q) ([.ref (a 0), .int x1, .int x2] : List Value).toArray s 0 0 (AW nM a)) (F0 m 29 ls []) := by
      intro fu29
      induction fu29 with
      | zero =>
        intro x4_4 x5_5 H locs ls h
        cases h
      | succ fu29 ih29 =>
        intro x4_4 x5_5 H locs ls h hP hS hl
        replace h : (f_X6_number_B29 x1 x2 σ q_2) (it2 (f_X6_number_B29 x1 x2 σ q_2) fu29) x4_4 x5_5 = some q := h
        generalize it2 (f_X6_number_B29 x1 x2 σ q_2) fu29 = rec29 at h ih29
        unfold f_X6_number_B29 at h
        refine lv_iload hx hb dX6_number_29 (lv_at hl 0 rfl) ?_
        refine lv_aload_n hx hb dX6_number_31 rfl (lv_at hl 3 rfl) ?_
        refine gf_X6_233 (o := 0) C0 hb hP (rfl : kM 0 = 6) dX6_number_32 ?_
        have J_14 : ∀  (H : Heap) (locs : List Loc) (ls : Array Slot), f_X6_number_J79 x1 x2 σ q_2 x4_4 = some q → HP G kM nM a σ H → va_S (AW nM a) s.heap H locs → lv_has ls 6 [(4, .int x4_4), (3, .int (f_X6_isDigit q_2)), (0, .ref (a 0)), (1, .int x1), (2, .int x2)] → W p l e ({ frames := 4, cells := 0, slots := 0, locals := 88 } : Room) s m ([.ref (a 0), .int x1, .int x2] : List Value).toArray below meth c H locs 0 0 (MQ below (QV G kM nM a q) ([.ref (a 0), .int x1, .int x2] : List Value).toArray s 0 0 (AW nM a)) (F0 m 79 ls []) := by
          intro  H locs ls h hP hS hl
          unfold f_X6_number_J79 at h
          refine lv_aload_n hx hb dX6_number_79 rfl (lv_at hl 2 rfl) ?_
          refine lv_iload hx hb dX6_number_80 (lv_at hl 0 rfl) ?_
          refine pf_X6_258 (o := 0) C0 hb hP hS (rfl : kM 0 = 6) dX6_number_82 (fun H locs hP hS => ?_)
          refine lv_aload_n hx hb dX6_number_85 rfl (lv_at hl 2 rfl) ?_
          refine lv_iload_n hx hb dX6_number_86 rfl (lv_at hl 1 rfl) ?_
          refine lv_if_eq (tgt := 107) hx hb dX6_number_87 (by decide) (fun (c_6 : (f_X6_isDigit q_2) = 0) => ?_) (fun (c_6 : ¬ (f_X6_isDigit q_2) = 0) => ?_)
          · rw [if_pos c_6] at h
            refine lv_iconst (v := 0) hx hb dX6_number_107 (by decide) ?_
            obtain ⟨q_7, hq_8, h⟩ := bd_s h
            refine m_cVv (As := [.int 0]) (rest := []) (o := 0) (ci := 6) C0 hb hml hl.1 wm_X6_261 md_X6_must (k_X6_must l G a (mst σ 0 16 x4_4) hj 0 q_7 hq_8) rfl rfl ⟨(Nat.le_of_ble_eq_true rfl), (Nat.le_of_ble_eq_true rfl)⟩ hP hS (rfl : kM 0 = 6) (by decide) rfl rfl rfl (Nat.le_of_ble_eq_true rfl) dX6_number_108 (fun H locs hP hS => ?_)
            exact m_rv hx hb hr hlk hP hS (Option.some.inj h) dX6_number_111
          · rw [if_neg c_6] at h
            refine lv_iload hx hb dX6_number_90 (lv_at hl 0 rfl) ?_
            refine lv_i2l (v := x4_4.toInt64) hx hb dX6_number_92 rfl ?_
            refine lv_iload_n hx hb dX6_number_93 rfl (lv_at hl 3 rfl) ?_
            refine lv_i2l (v := x1.toInt64) hx hb dX6_number_94 rfl ?_
            refine lv_iload_n hx hb dX6_number_95 rfl (lv_at hl 4 rfl) ?_
            refine lv_i2l (v := x2.toInt64) hx hb dX6_number_96 rfl ?_
            refine m_pSi (As := [.long x4_4.toInt64, .long x1.toInt64, .long x2.toInt64]) (rest := [.ref (a 0)]) C0.z hb hml hl.1 wm_X6_49 md_X6_in (k_X6_in l x4_4.toInt64 x1.toInt64 x2.toInt64) rfl rfl ⟨(Nat.le_of_ble_eq_true rfl), (Nat.le_of_ble_eq_true rfl)⟩ rfl rfl (Nat.le_of_ble_eq_true rfl) dX6_number_97 ?_
            refine lv_if_eq (tgt := 107) hx hb dX6_number_100 (by decide) (fun (c_9 : (f_X6_in x4_4.toInt64 x1.toInt64 x2.toInt64) = 0) => ?_) (fun (c_9 : ¬ (f_X6_in x4_4.toInt64 x1.toInt64 x2.toInt64) = 0) => ?_)
            · rw [if_pos c_9] at h
              refine lv_iconst (v := 0) hx hb dX6_number_107 (by decide) ?_
              obtain ⟨q_10, hq_11, h⟩ := bd_s h
              refine m_cVv (As := [.int 0]) (rest := []) (o := 0) (ci := 6) C0 hb hml hl.1 wm_X6_261 md_X6_must (k_X6_must l G a (mst σ 0 16 x4_4) hj 0 q_10 hq_11) rfl rfl ⟨(Nat.le_of_ble_eq_true rfl), (Nat.le_of_ble_eq_true rfl)⟩ hP hS (rfl : kM 0 = 6) (by decide) rfl rfl rfl (Nat.le_of_ble_eq_true rfl) dX6_number_108 (fun H locs hP hS => ?_)
              exact m_rv hx hb hr hlk hP hS (Option.some.inj h) dX6_number_111
            · rw [if_neg c_9] at h
              refine lv_iconst (v := 1) hx hb dX6_number_103 (by decide) ?_
              refine lv_goto (tgt := 108) hx hb dX6_number_104 (by decide) ?_
              obtain ⟨q_12, hq_13, h⟩ := bd_s h
              refine m_cVv (As := [.int 1]) (rest := []) (o := 0) (ci := 6) C0 hb hml hl.1 wm_X6_261 md_X6_must (k_X6_must l G a (mst σ 0 16 x4_4) hj 1 q_12 hq_13) rfl rfl ⟨(Nat.le_of_ble_eq_true rfl), (Nat.le_of_ble_eq_true rfl)⟩ hP hS (rfl : kM 0 = 6) (by decide) rfl rfl rfl (Nat.le_of_ble_eq_true rfl) dX6_number_108 (fun H locs hP hS => ?_)
              exact m_rv hx hb hr hlk hP hS (Option.some.inj h) dX6_number_111
        refine lv_icmp_ge (tgt := 79) hx hb dX6_number_35 (by decide) (fun (c_15 : (σ 0 15) ≤ x5_5) => ?_) (fun (c_15 : ¬ (σ 0 15) ≤ x5_5) => ?_)
        · rw [if_pos c_15] at h
          exact J_14  _ _ _ h hP hS (lv_sub hl [1, 2, 3, 4, 5] rfl)
        · rw [if_neg c_15] at h
          refine lv_iload_n hx hb dX6_number_38 rfl (lv_at hl 2 rfl) ?_
          refine lv_if_eq (tgt := 79) hx hb dX6_number_39 (by decide) (fun (c_16 : (f_X6_isDigit q_2) = 0) => ?_) (fun (c_16 : ¬ (f_X6_isDigit q_2) = 0) => ?_)
          · rw [if_pos c_16] at h
            exact J_14  _ _ _ h hP hS (lv_sub hl [1, 2, 3, 4, 5] rfl)
          · rw [if_neg c_16] at h
            refine lv_iload hx hb dX6_number_42 (lv_at hl 1 rfl) ?_
            refine lv_sipush (v := 9999) hx hb dX6_number_44 (by decide) ?_
            have J_18 : ∀ (t_17 : Int32) (H : Heap) (locs : List Loc) (ls : Array Slot), f_X6_number_J71 x5_5 rec29 t_17 = some q → HP G kM nM a σ H → va_S (AW nM a) s.heap H locs → lv_has ls 6 [(5, .int x5_5), (3, .int (f_X6_isDigit q_2)), (0, .ref (a 0)), (1, .int x1), (2, .int x2)] → W p l e ({ frames := 4, cells := 0, slots := 0, locals := 88 } : Room) s m ([.ref (a 0), .int x1, .int x2] : List Value).toArray below meth c H locs 0 0 (MQ below (QV G kM nM a q) ([.ref (a 0), .int x1, .int x2] : List Value).toArray s 0 0 (AW nM a)) (F0 m 71 ls [.int t_17]) := by
              intro t_17 H locs ls h hP hS hl
              unfold f_X6_number_J71 at h
              refine lv_istore (lv' := [(4, .int t_17), (5, .int x5_5), (3, .int (f_X6_isDigit q_2)), (0, .ref (a 0)), (1, .int x1), (2, .int x2)]) hx hb dX6_number_71 hl (by decide) rfl (fun ls hl => ?_)
              refine lv_iinc (v := x5_5 + 1) (lv' := [(5, .int (x5_5 + 1)), (4, .int t_17), (3, .int (f_X6_isDigit q_2)), (0, .ref (a 0)), (1, .int x1), (2, .int x2)]) hx hb dX6_number_73 hl (k := 1) rfl rfl (by decide) rfl (fun ls hl => ?_)
              refine lv_goto (tgt := 29) hx hb dX6_number_76 (by decide) ?_
              exact ih29 t_17 (x5_5 + 1) _ _ _ h hP hS (lv_sub hl [0, 1, 2, 3, 4, 5] rfl)
            refine lv_icmp_le (tgt := 55) hx hb dX6_number_47 (by decide) (fun (c_19 : x4_4 ≤ 9999) => ?_) (fun (c_19 : ¬ x4_4 ≤ 9999) => ?_)
            · rw [if_pos c_19] at h
              refine lv_bipush (v := 10) hx hb dX6_number_55 (by decide) ?_
              refine lv_iload hx hb dX6_number_57 (lv_at hl 1 rfl) ?_
              refine lv_imul hx hb dX6_number_59 ?_
              refine lv_aload_n hx hb dX6_number_60 rfl (lv_at hl 3 rfl) ?_
              refine gf_X6_31 (o := 0) (o2 := 8) C0 hb hP (rfl : kM 0 = 6) rfl dX6_number_61 ?_
              refine lv_iload hx hb dX6_number_64 (lv_at hl 0 rfl) ?_
              obtain ⟨hi_20, h⟩ := chk_s h
              refine m_iald (o := 8) (N := 120) (i := x5_5) (j := x5_5.toNatClampNeg) C0 hb hP (rfl : kM 8 = 100 + 120) (by decide) hi_20 rfl dX6_number_66 ?_
              refine lv_iadd hx hb dX6_number_67 ?_
              refine lv_bipush (v := 48) hx hb dX6_number_68 (by decide) ?_
              refine lv_isub hx hb dX6_number_70 ?_
              exact J_18 (((10 * x4_4) + (σ 8 x5_5.toNatClampNeg)) - 48) _ _ _ h hP hS (lv_sub hl [0, 2, 3, 4, 5] rfl)
            · rw [if_neg c_19] at h
              refine lv_iload hx hb dX6_number_50 (lv_at hl 1 rfl) ?_
              refine lv_goto (tgt := 71) hx hb dX6_number_52 (by decide) ?_
              exact J_18 x4_4 _ _ _ h hP hS (lv_sub hl [0, 2, 3, 4, 5] rfl)
    exact L_21 FU 0 (σ 0 14) _ _ _ h hP hS (lv_sub hl [0, 1, 2, 3, 4, 5] rfl)
  · rw [if_neg c_1] at h
    exact m_rv hx hb hr hlk hP hS (Option.some.inj h) dX6_number_7

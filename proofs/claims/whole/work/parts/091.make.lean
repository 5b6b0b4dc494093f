def σI5 : Mem := fun c => if c = 0 then (fun _ => 0) else if c < 16 then σI2 (c - 1) else if c < 31 then σI2 (c - 16) else if c < 46 then σI2 (c - 31) else if c < 61 then σI2 (c - 46) else if c < 62 then (fun _ => 0) else if c < 63 then (fun _ => 0) else if c < 65 then σI1 (c - 63) else if c < 67 then σI1 (c - 65) else if c < 69 then σI1 (c - 67) else if c < 71 then σI1 (c - 69) else if c < 73 then σI0 (c - 71) else if c < 74 then (fun _ => 0) else (fun _ => 0)
theorem at_refs {D : va_G} {cl : List vw_C} {q n : Nat} {cA : ClassId} {f g : Nat → Option Nat} {H : Heap} (h : va_at D cl (q, .inl (cA, n, .inr (.inr (.inr (.inr f))))) H) (hfg : ∀ j, j < n → f j = g j) : va_at D cl (q, .inl (cA, n, .inr (.inr (.inr (.inr g))))) H := by
  have h1 : H[q]? = some (vp_cell cA (n, .inr (.inr (.inr (.inr f))))) := h
  show H[q]? = some (vp_cell _ _)
  rw [h1, vp_cell_q, vp_cell_q]
  congr 1
  unfold arrV
  congr 1
  apply congrArg
  funext j
  show va_rf (f j.val) = va_rf (g j.val)
  rw [hfg j.val j.isLt]
section MK2
variable {p : Program} {l : Launch} {e : Env} {R : Room} {s : State} {m : MethodId} {args : Array Value} {below : List Frame} {meth : Method} {c : Code} {H : Heap} {locs : List Loc} {cells slots : Nat} {Q : State → Prop}
variable {cc : ByteArray} {pc : Nat} {ls : Array Slot} {rest : List Value} {G : GG} {A : Nat → Prop} {H0 : Heap} {own : String}
theorem c_astS (C0 : CT0 p s args m own) (hb : c.code = cc) (hK : KI G s) {F B : va_W} {aq v j : Nat} {vs : List Value} {f : Nat → Option Nat} (hP : va_P G.1 vwCl (F ++ (aq, .inl (G.2.1.2.2, 4, .inr (.inr (.inr (.inr f))))) :: B) H) (hD : va_D A (F ++ (aq, .inl (G.2.1.2.2, 4, .inr (.inr (.inr (.inr f))))) :: B)) (hS : va_S A H0 H locs) (hv : B[j]? = some (v, .inr (1, vs))) {i : Int32} (hi : vp_in i 4) (hdg : decode cc pc = .ok (.aastore, 1))
    (kk : ∀ (H1 : Heap) (locs1 : List Loc), va_P G.1 vwCl (F ++ (aq, .inl (G.2.1.2.2, 4, .inr (.inr (.inr (.inr (va_up f i.toNatClampNeg (some v))))))) :: B) H1 → va_D A (F ++ (aq, .inl (G.2.1.2.2, 4, .inr (.inr (.inr (.inr (va_up f i.toNatClampNeg (some v))))))) :: B) → va_S A H0 H1 locs1 → W p l e R s m args below meth c H1 locs1 cells slots Q (F0 m (pc + 1) ls rest)) : W p l e R s m args below meth c H locs cells slots Q (F0 m pc ls (.ref v :: .int i :: .ref aq :: rest)) := by
  have hset : ∀ (x y : Nat × va_E), (F ++ x :: B).set F.length y = F ++ y :: B := fun x y => by
    rw [List.set_append_right _ _ (Nat.le_refl _), Nat.sub_self]
    rfl
  refine va_astq C0.1 hb hK.1 hP hD hS F.length 2 (F.length + 1 + j) 1 (r := (RX1, TX1, 3)) (vs := vs) (f := f) (n := 4) (cA := G.2.1.2.2) ?_ rfl ?_ rfl hi hdg ?_
  · rw [List.getElem?_append_right (Nat.le_refl _), Nat.sub_self]; rfl
  · rw [List.getElem?_append_right (by omega), show F.length + 1 + j - F.length = j + 1 by omega]
    exact hv
  · intro H1 l1 h1 h2 h3
    rw [hset] at h1 h2
    exact kk H1 l1 h1 h2 h3
end MK2
set_option maxHeartbeats 8000000 in
set_option maxRecDepth 100000 in
theorem k_X5_init (l : Launch) (G : GG) (h0 sz : Nat) : Met l yX5_init (Cond.code yX5_init cX5_init 1 none :: TB) ({ frames := 3, cells := 73, slots := 721, locals := 54 } : Room) (PI G 5 [.null, .null, .null, .null, .null, .null, .null, .null, .int 0] h0 sz) (QN G kR nR σI5 5 [.null, .null, .null, .null, .null, .null, .null, .null, .int 0] h0 sz) 73 721 (AI 5 [.null, .null, .null, .null, .null, .null, .null, .null, .int 0] h0 sz) := by
  refine M_ofI (by decide) (by decide) (fun p e s m below meth c ls C0 hb hml hr hlk hnm hK hP hD hS hA hl hsz => ?_)
  have C0 : CT0 p s _ m RX5 := C0
  have hx := C0.1
  have hts := C0.2.1
  have hown := C0.2.2
  have hin : meth.name = "<init>" := hnm
  clear hsz
  refine lv_aload_n hx hb dX5_init_0 rfl (lv_at hl 0 rfl) ?_
  refine c_obj C0 hb hml hl.1 wm_X5_3 (Nat.le_of_ble_eq_true rfl) (Nat.le_of_ble_eq_true rfl) dX5_init_1 ?_
  refine lv_aload_n hx hb dX5_init_4 rfl (lv_at hl 0 rfl) ?_
  refine va_new (ci := 2) (fs := [.null, .null, .null, .int 0, .int 0]) (C := RX2) (T := TX2) (N := 5) hx hb hts inw_X2 tyX2 tyX2_ok hown (hts _ wcl_X5_9) (hts _ wn_X2) (hts _ win_X2) hK.1 hP hD hS hA rfl (fun j hj => by rcases (show j = 0 ∨ j = 1 ∨ j = 2 ∨ j = 3 ∨ j = 4 by omega) with rfl | rfl | rfl | rfl | rfl <;> rfl) (Nat.le_of_ble_eq_true rfl) (Nat.le_of_ble_eq_true rfl) dX5_init_5 (fun q4 H hP hD hS => ?_)
  refine lv_dup hx hb dX5_init_8 rfl ?_
  refine c_init (F := [(h0, .inr (5, [.null, .null, .null, .null, .null, .null, .null, .null, .int 0]))]) (q := q4) (ci := 2) (fs := [.null, .null, .null, .int 0, .int 0]) C0 hb hml hl.1 hK wm_X5_11 wi_X2_init win_X2 wc_X2_init (by decide +kernel) (k_X2_init l G q4 H.size) rfl rfl ⟨(Nat.le_of_ble_eq_true rfl), (Nat.le_of_ble_eq_true rfl)⟩ hP hD hS hA (Nat.le_of_ble_eq_true rfl) dX5_init_9 ⟨(Nat.le_of_ble_eq_true rfl), (Nat.le_of_ble_eq_true rfl)⟩ (fun b6 H locs eb6 hP2 hD2 hS => ?_)
  clear hP hD
  subst eb6
  have hP := hP2
  have hD := hD2
  clear hP2 hD2
  have hP : va_P G.1 vwCl ([(h0, .inr (5, [.null, .null, .null, .null, .null, .null, .null, .null, .int 0]))] ++ WL kI2 15 G.2.1 b6 σI2) H := hP
  have hD : va_D (AI 5 [.null, .null, .null, .null, .null, .null, .null, .null, .int 0] h0 s.heap.size) ([(h0, .inr (5, [.null, .null, .null, .null, .null, .null, .null, .null, .int 0]))] ++ WL kI2 15 G.2.1 b6 σI2) := hD
  refine va_putF (D := G.1) (ci := 5) (v := .ref (b6 0)) (ty := (.object "ValveRiver$Valley")) (C := RX5) (T := TX5) (N := 9) hx hb hts inw_X5 tyX5 tyX5_ok nmX5 hown hK.1 hP hD hS 0 rfl rfl 0 (by decide) (hts _ wf_X5_12) (fun _ h9 => h9) rfl hin rfl (by decide +kernel) rfl rfl (Nat.le_of_ble_eq_true rfl) dX5_init_12 (fun H locs hP hD hS => ?_)
  have hP : va_P G.1 vwCl ([(h0, .inr (5, [.ref (b6 0), .null, .null, .null, .null, .null, .null, .null, .int 0]))] ++ WL kI2 15 G.2.1 b6 σI2) H := hP
  have hD : va_D (AI 5 [.null, .null, .null, .null, .null, .null, .null, .null, .int 0] h0 s.heap.size) ([(h0, .inr (5, [.ref (b6 0), .null, .null, .null, .null, .null, .null, .null, .int 0]))] ++ WL kI2 15 G.2.1 b6 σI2) := hD
  refine lv_aload_n hx hb dX5_init_15 rfl (lv_at hl 0 rfl) ?_
  refine va_new (ci := 2) (fs := [.null, .null, .null, .int 0, .int 0]) (C := RX2) (T := TX2) (N := 5) hx hb hts inw_X2 tyX2 tyX2_ok hown (hts _ wcl_X5_9) (hts _ wn_X2) (hts _ win_X2) hK.1 hP hD hS hA rfl (fun j hj => by rcases (show j = 0 ∨ j = 1 ∨ j = 2 ∨ j = 3 ∨ j = 4 by omega) with rfl | rfl | rfl | rfl | rfl <;> rfl) (Nat.le_of_ble_eq_true rfl) (Nat.le_of_ble_eq_true rfl) dX5_init_16 (fun q9 H hP hD hS => ?_)
  refine lv_dup hx hb dX5_init_19 rfl ?_
  refine c_init (F := ([(h0, .inr (5, [.ref (b6 0), .null, .null, .null, .null, .null, .null, .null, .int 0]))] ++ WL kI2 15 G.2.1 b6 σI2)) (q := q9) (ci := 2) (fs := [.null, .null, .null, .int 0, .int 0]) C0 hb hml hl.1 hK wm_X5_11 wi_X2_init win_X2 wc_X2_init (by decide +kernel) (k_X2_init l G q9 H.size) rfl rfl ⟨(Nat.le_of_ble_eq_true rfl), (Nat.le_of_ble_eq_true rfl)⟩ hP hD hS hA (Nat.le_of_ble_eq_true rfl) dX5_init_20 ⟨(Nat.le_of_ble_eq_true rfl), (Nat.le_of_ble_eq_true rfl)⟩ (fun b11 H locs eb11 hP2 hD2 hS => ?_)
  clear hP hD
  subst eb11
  have hP := hP2
  have hD := hD2
  clear hP2 hD2
  have hP : va_P G.1 vwCl (([(h0, .inr (5, [.ref (b6 0), .null, .null, .null, .null, .null, .null, .null, .int 0]))] ++ WL kI2 15 G.2.1 b6 σI2) ++ WL kI2 15 G.2.1 b11 σI2) H := hP
  have hD : va_D (AI 5 [.null, .null, .null, .null, .null, .null, .null, .null, .int 0] h0 s.heap.size) (([(h0, .inr (5, [.ref (b6 0), .null, .null, .null, .null, .null, .null, .null, .int 0]))] ++ WL kI2 15 G.2.1 b6 σI2) ++ WL kI2 15 G.2.1 b11 σI2) := hD
  refine va_putF (D := G.1) (ci := 5) (v := .ref (b11 0)) (ty := (.object "ValveRiver$Valley")) (C := RX5) (T := TX5) (N := 9) hx hb hts inw_X5 tyX5 tyX5_ok nmX5 hown hK.1 hP hD hS 0 rfl rfl 1 (by decide) (hts _ wf_X5_16) (fun _ h9 => h9) rfl hin rfl (by decide +kernel) rfl rfl (Nat.le_of_ble_eq_true rfl) dX5_init_23 (fun H locs hP hD hS => ?_)
  have hP : va_P G.1 vwCl (([(h0, .inr (5, [.ref (b6 0), .ref (b11 0), .null, .null, .null, .null, .null, .null, .int 0]))] ++ WL kI2 15 G.2.1 b6 σI2) ++ WL kI2 15 G.2.1 b11 σI2) H := hP
  have hD : va_D (AI 5 [.null, .null, .null, .null, .null, .null, .null, .null, .int 0] h0 s.heap.size) (([(h0, .inr (5, [.ref (b6 0), .ref (b11 0), .null, .null, .null, .null, .null, .null, .int 0]))] ++ WL kI2 15 G.2.1 b6 σI2) ++ WL kI2 15 G.2.1 b11 σI2) := hD
  refine lv_aload_n hx hb dX5_init_26 rfl (lv_at hl 0 rfl) ?_
  refine va_new (ci := 2) (fs := [.null, .null, .null, .int 0, .int 0]) (C := RX2) (T := TX2) (N := 5) hx hb hts inw_X2 tyX2 tyX2_ok hown (hts _ wcl_X5_9) (hts _ wn_X2) (hts _ win_X2) hK.1 hP hD hS hA rfl (fun j hj => by rcases (show j = 0 ∨ j = 1 ∨ j = 2 ∨ j = 3 ∨ j = 4 by omega) with rfl | rfl | rfl | rfl | rfl <;> rfl) (Nat.le_of_ble_eq_true rfl) (Nat.le_of_ble_eq_true rfl) dX5_init_27 (fun q14 H hP hD hS => ?_)
  refine lv_dup hx hb dX5_init_30 rfl ?_
  refine c_init (F := (([(h0, .inr (5, [.ref (b6 0), .ref (b11 0), .null, .null, .null, .null, .null, .null, .int 0]))] ++ WL kI2 15 G.2.1 b6 σI2) ++ WL kI2 15 G.2.1 b11 σI2)) (q := q14) (ci := 2) (fs := [.null, .null, .null, .int 0, .int 0]) C0 hb hml hl.1 hK wm_X5_11 wi_X2_init win_X2 wc_X2_init (by decide +kernel) (k_X2_init l G q14 H.size) rfl rfl ⟨(Nat.le_of_ble_eq_true rfl), (Nat.le_of_ble_eq_true rfl)⟩ hP hD hS hA (Nat.le_of_ble_eq_true rfl) dX5_init_31 ⟨(Nat.le_of_ble_eq_true rfl), (Nat.le_of_ble_eq_true rfl)⟩ (fun b16 H locs eb16 hP2 hD2 hS => ?_)
  clear hP hD
  subst eb16
  have hP := hP2
  have hD := hD2
  clear hP2 hD2
  have hP : va_P G.1 vwCl ((([(h0, .inr (5, [.ref (b6 0), .ref (b11 0), .null, .null, .null, .null, .null, .null, .int 0]))] ++ WL kI2 15 G.2.1 b6 σI2) ++ WL kI2 15 G.2.1 b11 σI2) ++ WL kI2 15 G.2.1 b16 σI2) H := hP
  have hD : va_D (AI 5 [.null, .null, .null, .null, .null, .null, .null, .null, .int 0] h0 s.heap.size) ((([(h0, .inr (5, [.ref (b6 0), .ref (b11 0), .null, .null, .null, .null, .null, .null, .int 0]))] ++ WL kI2 15 G.2.1 b6 σI2) ++ WL kI2 15 G.2.1 b11 σI2) ++ WL kI2 15 G.2.1 b16 σI2) := hD
  refine va_putF (D := G.1) (ci := 5) (v := .ref (b16 0)) (ty := (.object "ValveRiver$Valley")) (C := RX5) (T := TX5) (N := 9) hx hb hts inw_X5 tyX5 tyX5_ok nmX5 hown hK.1 hP hD hS 0 rfl rfl 2 (by decide) (hts _ wf_X5_19) (fun _ h9 => h9) rfl hin rfl (by decide +kernel) rfl rfl (Nat.le_of_ble_eq_true rfl) dX5_init_34 (fun H locs hP hD hS => ?_)
  have hP : va_P G.1 vwCl ((([(h0, .inr (5, [.ref (b6 0), .ref (b11 0), .ref (b16 0), .null, .null, .null, .null, .null, .int 0]))] ++ WL kI2 15 G.2.1 b6 σI2) ++ WL kI2 15 G.2.1 b11 σI2) ++ WL kI2 15 G.2.1 b16 σI2) H := hP
  have hD : va_D (AI 5 [.null, .null, .null, .null, .null, .null, .null, .null, .int 0] h0 s.heap.size) ((([(h0, .inr (5, [.ref (b6 0), .ref (b11 0), .ref (b16 0), .null, .null, .null, .null, .null, .int 0]))] ++ WL kI2 15 G.2.1 b6 σI2) ++ WL kI2 15 G.2.1 b11 σI2) ++ WL kI2 15 G.2.1 b16 σI2) := hD
  refine lv_aload_n hx hb dX5_init_37 rfl (lv_at hl 0 rfl) ?_
  refine va_new (ci := 2) (fs := [.null, .null, .null, .int 0, .int 0]) (C := RX2) (T := TX2) (N := 5) hx hb hts inw_X2 tyX2 tyX2_ok hown (hts _ wcl_X5_9) (hts _ wn_X2) (hts _ win_X2) hK.1 hP hD hS hA rfl (fun j hj => by rcases (show j = 0 ∨ j = 1 ∨ j = 2 ∨ j = 3 ∨ j = 4 by omega) with rfl | rfl | rfl | rfl | rfl <;> rfl) (Nat.le_of_ble_eq_true rfl) (Nat.le_of_ble_eq_true rfl) dX5_init_38 (fun q19 H hP hD hS => ?_)
  refine lv_dup hx hb dX5_init_41 rfl ?_
  refine c_init (F := ((([(h0, .inr (5, [.ref (b6 0), .ref (b11 0), .ref (b16 0), .null, .null, .null, .null, .null, .int 0]))] ++ WL kI2 15 G.2.1 b6 σI2) ++ WL kI2 15 G.2.1 b11 σI2) ++ WL kI2 15 G.2.1 b16 σI2)) (q := q19) (ci := 2) (fs := [.null, .null, .null, .int 0, .int 0]) C0 hb hml hl.1 hK wm_X5_11 wi_X2_init win_X2 wc_X2_init (by decide +kernel) (k_X2_init l G q19 H.size) rfl rfl ⟨(Nat.le_of_ble_eq_true rfl), (Nat.le_of_ble_eq_true rfl)⟩ hP hD hS hA (Nat.le_of_ble_eq_true rfl) dX5_init_42 ⟨(Nat.le_of_ble_eq_true rfl), (Nat.le_of_ble_eq_true rfl)⟩ (fun b21 H locs eb21 hP2 hD2 hS => ?_)
  clear hP hD
  subst eb21
  have hP := hP2
  have hD := hD2
  clear hP2 hD2
  have hP : va_P G.1 vwCl (((([(h0, .inr (5, [.ref (b6 0), .ref (b11 0), .ref (b16 0), .null, .null, .null, .null, .null, .int 0]))] ++ WL kI2 15 G.2.1 b6 σI2) ++ WL kI2 15 G.2.1 b11 σI2) ++ WL kI2 15 G.2.1 b16 σI2) ++ WL kI2 15 G.2.1 b21 σI2) H := hP
  have hD : va_D (AI 5 [.null, .null, .null, .null, .null, .null, .null, .null, .int 0] h0 s.heap.size) (((([(h0, .inr (5, [.ref (b6 0), .ref (b11 0), .ref (b16 0), .null, .null, .null, .null, .null, .int 0]))] ++ WL kI2 15 G.2.1 b6 σI2) ++ WL kI2 15 G.2.1 b11 σI2) ++ WL kI2 15 G.2.1 b16 σI2) ++ WL kI2 15 G.2.1 b21 σI2) := hD
  refine va_putF (D := G.1) (ci := 5) (v := .ref (b21 0)) (ty := (.object "ValveRiver$Valley")) (C := RX5) (T := TX5) (N := 9) hx hb hts inw_X5 tyX5 tyX5_ok nmX5 hown hK.1 hP hD hS 0 rfl rfl 3 (by decide) (hts _ wf_X5_22) (fun _ h9 => h9) rfl hin rfl (by decide +kernel) rfl rfl (Nat.le_of_ble_eq_true rfl) dX5_init_45 (fun H locs hP hD hS => ?_)
  have hP : va_P G.1 vwCl (((([(h0, .inr (5, [.ref (b6 0), .ref (b11 0), .ref (b16 0), .ref (b21 0), .null, .null, .null, .null, .int 0]))] ++ WL kI2 15 G.2.1 b6 σI2) ++ WL kI2 15 G.2.1 b11 σI2) ++ WL kI2 15 G.2.1 b16 σI2) ++ WL kI2 15 G.2.1 b21 σI2) H := hP
  have hD : va_D (AI 5 [.null, .null, .null, .null, .null, .null, .null, .null, .int 0] h0 s.heap.size) (((([(h0, .inr (5, [.ref (b6 0), .ref (b11 0), .ref (b16 0), .ref (b21 0), .null, .null, .null, .null, .int 0]))] ++ WL kI2 15 G.2.1 b6 σI2) ++ WL kI2 15 G.2.1 b11 σI2) ++ WL kI2 15 G.2.1 b16 σI2) ++ WL kI2 15 G.2.1 b21 σI2) := hD
  refine lv_aload_n hx hb dX5_init_48 rfl (lv_at hl 0 rfl) ?_
  refine lv_bipush (v := 12) hx hb dX5_init_49 (by decide) ?_
  refine c_newa (N := 12) C0 hb hK hP hD hS hA (by decide) (by decide) (by decide) (Nat.le_of_ble_eq_true rfl) (Nat.le_of_ble_eq_true rfl) dX5_init_51 (fun q25 H hP hD hS => ?_)
  have hP : va_P G.1 vwCl ((((([(h0, .inr (5, [.ref (b6 0), .ref (b11 0), .ref (b16 0), .ref (b21 0), .null, .null, .null, .null, .int 0]))] ++ WL kI2 15 G.2.1 b6 σI2) ++ WL kI2 15 G.2.1 b11 σI2) ++ WL kI2 15 G.2.1 b16 σI2) ++ WL kI2 15 G.2.1 b21 σI2) ++ [(q25, .inl (G.2.1.1, 12, .inl (fun _ => 0)))]) H := hP
  have hD : va_D (AI 5 [.null, .null, .null, .null, .null, .null, .null, .null, .int 0] h0 s.heap.size) ((((([(h0, .inr (5, [.ref (b6 0), .ref (b11 0), .ref (b16 0), .ref (b21 0), .null, .null, .null, .null, .int 0]))] ++ WL kI2 15 G.2.1 b6 σI2) ++ WL kI2 15 G.2.1 b11 σI2) ++ WL kI2 15 G.2.1 b16 σI2) ++ WL kI2 15 G.2.1 b21 σI2) ++ [(q25, .inl (G.2.1.1, 12, .inl (fun _ => 0)))]) := hD
  refine va_putF (D := G.1) (ci := 5) (v := .ref q25) (ty := (.array .int)) (C := RX5) (T := TX5) (N := 9) hx hb hts inw_X5 tyX5 tyX5_ok nmX5 hown hK.1 hP hD hS 0 rfl rfl 4 (by decide) (hts _ wf_X5_25) (fun _ h9 => h9) rfl hin rfl (by decide +kernel) rfl rfl (Nat.le_of_ble_eq_true rfl) dX5_init_53 (fun H locs hP hD hS => ?_)
  have hP : va_P G.1 vwCl ((((([(h0, .inr (5, [.ref (b6 0), .ref (b11 0), .ref (b16 0), .ref (b21 0), .ref q25, .null, .null, .null, .int 0]))] ++ WL kI2 15 G.2.1 b6 σI2) ++ WL kI2 15 G.2.1 b11 σI2) ++ WL kI2 15 G.2.1 b16 σI2) ++ WL kI2 15 G.2.1 b21 σI2) ++ [(q25, .inl (G.2.1.1, 12, .inl (fun _ => 0)))]) H := hP
  have hD : va_D (AI 5 [.null, .null, .null, .null, .null, .null, .null, .null, .int 0] h0 s.heap.size) ((((([(h0, .inr (5, [.ref (b6 0), .ref (b11 0), .ref (b16 0), .ref (b21 0), .ref q25, .null, .null, .null, .int 0]))] ++ WL kI2 15 G.2.1 b6 σI2) ++ WL kI2 15 G.2.1 b11 σI2) ++ WL kI2 15 G.2.1 b16 σI2) ++ WL kI2 15 G.2.1 b21 σI2) ++ [(q25, .inl (G.2.1.1, 12, .inl (fun _ => 0)))]) := hD
  refine lv_aload_n hx hb dX5_init_56 rfl (lv_at hl 0 rfl) ?_
  refine lv_iconst (v := 4) hx hb dX5_init_57 (by decide) ?_
  refine c_newS (N := 4) C0 hb hK hP hD hS hA wcl_X5_29 (by decide) (by decide) (by decide) (Nat.le_of_ble_eq_true rfl) (Nat.le_of_ble_eq_true rfl) dX5_init_58 (fun q29 H hP hD hS => ?_)
  have hP : va_P G.1 vwCl (((((([(h0, .inr (5, [.ref (b6 0), .ref (b11 0), .ref (b16 0), .ref (b21 0), .ref q25, .null, .null, .null, .int 0]))] ++ WL kI2 15 G.2.1 b6 σI2) ++ WL kI2 15 G.2.1 b11 σI2) ++ WL kI2 15 G.2.1 b16 σI2) ++ WL kI2 15 G.2.1 b21 σI2) ++ [(q25, .inl (G.2.1.1, 12, .inl (fun _ => 0)))]) ++ (q29, .inl (G.2.1.2.2, 4, .inr (.inr (.inr (.inr (fun _ => none)))))) :: ([] : va_W)) H := hP
  have hD : va_D (AI 5 [.null, .null, .null, .null, .null, .null, .null, .null, .int 0] h0 s.heap.size) (((((([(h0, .inr (5, [.ref (b6 0), .ref (b11 0), .ref (b16 0), .ref (b21 0), .ref q25, .null, .null, .null, .int 0]))] ++ WL kI2 15 G.2.1 b6 σI2) ++ WL kI2 15 G.2.1 b11 σI2) ++ WL kI2 15 G.2.1 b16 σI2) ++ WL kI2 15 G.2.1 b21 σI2) ++ [(q25, .inl (G.2.1.1, 12, .inl (fun _ => 0)))]) ++ (q29, .inl (G.2.1.2.2, 4, .inr (.inr (.inr (.inr (fun _ => none)))))) :: ([] : va_W)) := hD
  refine lv_dup hx hb dX5_init_61 rfl ?_
  refine lv_iconst (v := 0) hx hb dX5_init_62 (by decide) ?_
  refine va_new (ci := 1) (fs := [.null, .int 0, .int 0]) (C := RX1) (T := TX1) (N := 3) hx hb hts inw_X1 tyX1 tyX1_ok hown (hts _ wcl_X5_29) (hts _ wn_X1) (hts _ win_X1) hK.1 hP hD hS hA rfl (fun j hj => by rcases (show j = 0 ∨ j = 1 ∨ j = 2 by omega) with rfl | rfl | rfl <;> rfl) (Nat.le_of_ble_eq_true rfl) (Nat.le_of_ble_eq_true rfl) dX5_init_63 (fun q32 H hP hD hS => ?_)
  refine lv_dup hx hb dX5_init_66 rfl ?_
  refine c_initN (F := (((((([(h0, .inr (5, [.ref (b6 0), .ref (b11 0), .ref (b16 0), .ref (b21 0), .ref q25, .null, .null, .null, .int 0]))] ++ WL kI2 15 G.2.1 b6 σI2) ++ WL kI2 15 G.2.1 b11 σI2) ++ WL kI2 15 G.2.1 b16 σI2) ++ WL kI2 15 G.2.1 b21 σI2) ++ [(q25, .inl (G.2.1.1, 12, .inl (fun _ => 0)))]) ++ (q29, .inl (G.2.1.2.2, 4, .inr (.inr (.inr (.inr (fun _ => none)))))) :: ([] : va_W))) (q := q32) (ci := 1) (fs := [.null, .int 0, .int 0]) C0 hb hml hl.1 hK (hK.2.2.2.2.1) wi_X1_init win_X1 wc_X1_init (by decide +kernel) (k_X1_init l G q32 H.size) rfl rfl ⟨(Nat.le_of_ble_eq_true rfl), (Nat.le_of_ble_eq_true rfl)⟩ hP hD hS hA (Nat.le_of_ble_eq_true rfl) dX5_init_67 ⟨(Nat.le_of_ble_eq_true rfl), (Nat.le_of_ble_eq_true rfl)⟩ (fun b34 H locs eb34 hP2 hD2 hS => ?_)
  clear hP hD
  subst eb34
  have hP := hP2
  have hD := hD2
  clear hP2 hD2
  rw [List.append_assoc, List.cons_append] at hP hD
  have hP : va_P G.1 vwCl (((((([(h0, .inr (5, [.ref (b6 0), .ref (b11 0), .ref (b16 0), .ref (b21 0), .ref q25, .null, .null, .null, .int 0]))] ++ WL kI2 15 G.2.1 b6 σI2) ++ WL kI2 15 G.2.1 b11 σI2) ++ WL kI2 15 G.2.1 b16 σI2) ++ WL kI2 15 G.2.1 b21 σI2) ++ [(q25, .inl (G.2.1.1, 12, .inl (fun _ => 0)))]) ++ (q29, .inl (G.2.1.2.2, 4, .inr (.inr (.inr (.inr (fun _ => none)))))) :: (([] : va_W) ++ WL kI1 2 G.2.1 b34 σI1)) H := hP
  have hD : va_D (AI 5 [.null, .null, .null, .null, .null, .null, .null, .null, .int 0] h0 s.heap.size) (((((([(h0, .inr (5, [.ref (b6 0), .ref (b11 0), .ref (b16 0), .ref (b21 0), .ref q25, .null, .null, .null, .int 0]))] ++ WL kI2 15 G.2.1 b6 σI2) ++ WL kI2 15 G.2.1 b11 σI2) ++ WL kI2 15 G.2.1 b16 σI2) ++ WL kI2 15 G.2.1 b21 σI2) ++ [(q25, .inl (G.2.1.1, 12, .inl (fun _ => 0)))]) ++ (q29, .inl (G.2.1.2.2, 4, .inr (.inr (.inr (.inr (fun _ => none)))))) :: (([] : va_W) ++ WL kI1 2 G.2.1 b34 σI1)) := hD
  refine c_astS (j := 0) (i := 0) C0 hb hK hP hD hS rfl (show vp_in 0 4 by unfold vp_in; decide) dX5_init_70 (fun H locs hP hD hS => ?_)
  have hP : va_P G.1 vwCl (((((([(h0, .inr (5, [.ref (b6 0), .ref (b11 0), .ref (b16 0), .ref (b21 0), .ref q25, .null, .null, .null, .int 0]))] ++ WL kI2 15 G.2.1 b6 σI2) ++ WL kI2 15 G.2.1 b11 σI2) ++ WL kI2 15 G.2.1 b16 σI2) ++ WL kI2 15 G.2.1 b21 σI2) ++ [(q25, .inl (G.2.1.1, 12, .inl (fun _ => 0)))]) ++ (q29, .inl (G.2.1.2.2, 4, .inr (.inr (.inr (.inr (va_up (fun _ => none) 0 (some (b34 0)))))))) :: (([] : va_W) ++ WL kI1 2 G.2.1 b34 σI1)) H := hP
  have hD : va_D (AI 5 [.null, .null, .null, .null, .null, .null, .null, .null, .int 0] h0 s.heap.size) (((((([(h0, .inr (5, [.ref (b6 0), .ref (b11 0), .ref (b16 0), .ref (b21 0), .ref q25, .null, .null, .null, .int 0]))] ++ WL kI2 15 G.2.1 b6 σI2) ++ WL kI2 15 G.2.1 b11 σI2) ++ WL kI2 15 G.2.1 b16 σI2) ++ WL kI2 15 G.2.1 b21 σI2) ++ [(q25, .inl (G.2.1.1, 12, .inl (fun _ => 0)))]) ++ (q29, .inl (G.2.1.2.2, 4, .inr (.inr (.inr (.inr (va_up (fun _ => none) 0 (some (b34 0)))))))) :: (([] : va_W) ++ WL kI1 2 G.2.1 b34 σI1)) := hD
  refine lv_dup hx hb dX5_init_71 rfl ?_
  refine lv_iconst (v := 1) hx hb dX5_init_72 (by decide) ?_
  refine va_new (ci := 1) (fs := [.null, .int 0, .int 0]) (C := RX1) (T := TX1) (N := 3) hx hb hts inw_X1 tyX1 tyX1_ok hown (hts _ wcl_X5_29) (hts _ wn_X1) (hts _ win_X1) hK.1 hP hD hS hA rfl (fun j hj => by rcases (show j = 0 ∨ j = 1 ∨ j = 2 by omega) with rfl | rfl | rfl <;> rfl) (Nat.le_of_ble_eq_true rfl) (Nat.le_of_ble_eq_true rfl) dX5_init_73 (fun q38 H hP hD hS => ?_)
  refine lv_dup hx hb dX5_init_76 rfl ?_
  refine c_initN (F := (((((([(h0, .inr (5, [.ref (b6 0), .ref (b11 0), .ref (b16 0), .ref (b21 0), .ref q25, .null, .null, .null, .int 0]))] ++ WL kI2 15 G.2.1 b6 σI2) ++ WL kI2 15 G.2.1 b11 σI2) ++ WL kI2 15 G.2.1 b16 σI2) ++ WL kI2 15 G.2.1 b21 σI2) ++ [(q25, .inl (G.2.1.1, 12, .inl (fun _ => 0)))]) ++ (q29, .inl (G.2.1.2.2, 4, .inr (.inr (.inr (.inr (va_up (fun _ => none) 0 (some (b34 0)))))))) :: (([] : va_W) ++ WL kI1 2 G.2.1 b34 σI1))) (q := q38) (ci := 1) (fs := [.null, .int 0, .int 0]) C0 hb hml hl.1 hK (hK.2.2.2.2.1) wi_X1_init win_X1 wc_X1_init (by decide +kernel) (k_X1_init l G q38 H.size) rfl rfl ⟨(Nat.le_of_ble_eq_true rfl), (Nat.le_of_ble_eq_true rfl)⟩ hP hD hS hA (Nat.le_of_ble_eq_true rfl) dX5_init_77 ⟨(Nat.le_of_ble_eq_true rfl), (Nat.le_of_ble_eq_true rfl)⟩ (fun b40 H locs eb40 hP2 hD2 hS => ?_)
  clear hP hD
  subst eb40
  have hP := hP2
  have hD := hD2
  clear hP2 hD2
  rw [List.append_assoc, List.cons_append] at hP hD
  have hP : va_P G.1 vwCl (((((([(h0, .inr (5, [.ref (b6 0), .ref (b11 0), .ref (b16 0), .ref (b21 0), .ref q25, .null, .null, .null, .int 0]))] ++ WL kI2 15 G.2.1 b6 σI2) ++ WL kI2 15 G.2.1 b11 σI2) ++ WL kI2 15 G.2.1 b16 σI2) ++ WL kI2 15 G.2.1 b21 σI2) ++ [(q25, .inl (G.2.1.1, 12, .inl (fun _ => 0)))]) ++ (q29, .inl (G.2.1.2.2, 4, .inr (.inr (.inr (.inr (va_up (fun _ => none) 0 (some (b34 0)))))))) :: ((([] : va_W) ++ WL kI1 2 G.2.1 b34 σI1) ++ WL kI1 2 G.2.1 b40 σI1)) H := hP
  have hD : va_D (AI 5 [.null, .null, .null, .null, .null, .null, .null, .null, .int 0] h0 s.heap.size) (((((([(h0, .inr (5, [.ref (b6 0), .ref (b11 0), .ref (b16 0), .ref (b21 0), .ref q25, .null, .null, .null, .int 0]))] ++ WL kI2 15 G.2.1 b6 σI2) ++ WL kI2 15 G.2.1 b11 σI2) ++ WL kI2 15 G.2.1 b16 σI2) ++ WL kI2 15 G.2.1 b21 σI2) ++ [(q25, .inl (G.2.1.1, 12, .inl (fun _ => 0)))]) ++ (q29, .inl (G.2.1.2.2, 4, .inr (.inr (.inr (.inr (va_up (fun _ => none) 0 (some (b34 0)))))))) :: ((([] : va_W) ++ WL kI1 2 G.2.1 b34 σI1) ++ WL kI1 2 G.2.1 b40 σI1)) := hD
  refine c_astS (j := 2) (i := 1) C0 hb hK hP hD hS rfl (show vp_in 1 4 by unfold vp_in; decide) dX5_init_80 (fun H locs hP hD hS => ?_)
  have hP : va_P G.1 vwCl (((((([(h0, .inr (5, [.ref (b6 0), .ref (b11 0), .ref (b16 0), .ref (b21 0), .ref q25, .null, .null, .null, .int 0]))] ++ WL kI2 15 G.2.1 b6 σI2) ++ WL kI2 15 G.2.1 b11 σI2) ++ WL kI2 15 G.2.1 b16 σI2) ++ WL kI2 15 G.2.1 b21 σI2) ++ [(q25, .inl (G.2.1.1, 12, .inl (fun _ => 0)))]) ++ (q29, .inl (G.2.1.2.2, 4, .inr (.inr (.inr (.inr (va_up (va_up (fun _ => none) 0 (some (b34 0))) 1 (some (b40 0)))))))) :: ((([] : va_W) ++ WL kI1 2 G.2.1 b34 σI1) ++ WL kI1 2 G.2.1 b40 σI1)) H := hP
  have hD : va_D (AI 5 [.null, .null, .null, .null, .null, .null, .null, .null, .int 0] h0 s.heap.size) (((((([(h0, .inr (5, [.ref (b6 0), .ref (b11 0), .ref (b16 0), .ref (b21 0), .ref q25, .null, .null, .null, .int 0]))] ++ WL kI2 15 G.2.1 b6 σI2) ++ WL kI2 15 G.2.1 b11 σI2) ++ WL kI2 15 G.2.1 b16 σI2) ++ WL kI2 15 G.2.1 b21 σI2) ++ [(q25, .inl (G.2.1.1, 12, .inl (fun _ => 0)))]) ++ (q29, .inl (G.2.1.2.2, 4, .inr (.inr (.inr (.inr (va_up (va_up (fun _ => none) 0 (some (b34 0))) 1 (some (b40 0)))))))) :: ((([] : va_W) ++ WL kI1 2 G.2.1 b34 σI1) ++ WL kI1 2 G.2.1 b40 σI1)) := hD
  refine lv_dup hx hb dX5_init_81 rfl ?_
  refine lv_iconst (v := 2) hx hb dX5_init_82 (by decide) ?_
  refine va_new (ci := 1) (fs := [.null, .int 0, .int 0]) (C := RX1) (T := TX1) (N := 3) hx hb hts inw_X1 tyX1 tyX1_ok hown (hts _ wcl_X5_29) (hts _ wn_X1) (hts _ win_X1) hK.1 hP hD hS hA rfl (fun j hj => by rcases (show j = 0 ∨ j = 1 ∨ j = 2 by omega) with rfl | rfl | rfl <;> rfl) (Nat.le_of_ble_eq_true rfl) (Nat.le_of_ble_eq_true rfl) dX5_init_83 (fun q44 H hP hD hS => ?_)
  refine lv_dup hx hb dX5_init_86 rfl ?_
  refine c_initN (F := (((((([(h0, .inr (5, [.ref (b6 0), .ref (b11 0), .ref (b16 0), .ref (b21 0), .ref q25, .null, .null, .null, .int 0]))] ++ WL kI2 15 G.2.1 b6 σI2) ++ WL kI2 15 G.2.1 b11 σI2) ++ WL kI2 15 G.2.1 b16 σI2) ++ WL kI2 15 G.2.1 b21 σI2) ++ [(q25, .inl (G.2.1.1, 12, .inl (fun _ => 0)))]) ++ (q29, .inl (G.2.1.2.2, 4, .inr (.inr (.inr (.inr (va_up (va_up (fun _ => none) 0 (some (b34 0))) 1 (some (b40 0)))))))) :: ((([] : va_W) ++ WL kI1 2 G.2.1 b34 σI1) ++ WL kI1 2 G.2.1 b40 σI1))) (q := q44) (ci := 1) (fs := [.null, .int 0, .int 0]) C0 hb hml hl.1 hK (hK.2.2.2.2.1) wi_X1_init win_X1 wc_X1_init (by decide +kernel) (k_X1_init l G q44 H.size) rfl rfl ⟨(Nat.le_of_ble_eq_true rfl), (Nat.le_of_ble_eq_true rfl)⟩ hP hD hS hA (Nat.le_of_ble_eq_true rfl) dX5_init_87 ⟨(Nat.le_of_ble_eq_true rfl), (Nat.le_of_ble_eq_true rfl)⟩ (fun b46 H locs eb46 hP2 hD2 hS => ?_)
  clear hP hD
  subst eb46
  have hP := hP2
  have hD := hD2
  clear hP2 hD2
  rw [List.append_assoc, List.cons_append] at hP hD
  have hP : va_P G.1 vwCl (((((([(h0, .inr (5, [.ref (b6 0), .ref (b11 0), .ref (b16 0), .ref (b21 0), .ref q25, .null, .null, .null, .int 0]))] ++ WL kI2 15 G.2.1 b6 σI2) ++ WL kI2 15 G.2.1 b11 σI2) ++ WL kI2 15 G.2.1 b16 σI2) ++ WL kI2 15 G.2.1 b21 σI2) ++ [(q25, .inl (G.2.1.1, 12, .inl (fun _ => 0)))]) ++ (q29, .inl (G.2.1.2.2, 4, .inr (.inr (.inr (.inr (va_up (va_up (fun _ => none) 0 (some (b34 0))) 1 (some (b40 0)))))))) :: (((([] : va_W) ++ WL kI1 2 G.2.1 b34 σI1) ++ WL kI1 2 G.2.1 b40 σI1) ++ WL kI1 2 G.2.1 b46 σI1)) H := hP
  have hD : va_D (AI 5 [.null, .null, .null, .null, .null, .null, .null, .null, .int 0] h0 s.heap.size) (((((([(h0, .inr (5, [.ref (b6 0), .ref (b11 0), .ref (b16 0), .ref (b21 0), .ref q25, .null, .null, .null, .int 0]))] ++ WL kI2 15 G.2.1 b6 σI2) ++ WL kI2 15 G.2.1 b11 σI2) ++ WL kI2 15 G.2.1 b16 σI2) ++ WL kI2 15 G.2.1 b21 σI2) ++ [(q25, .inl (G.2.1.1, 12, .inl (fun _ => 0)))]) ++ (q29, .inl (G.2.1.2.2, 4, .inr (.inr (.inr (.inr (va_up (va_up (fun _ => none) 0 (some (b34 0))) 1 (some (b40 0)))))))) :: (((([] : va_W) ++ WL kI1 2 G.2.1 b34 σI1) ++ WL kI1 2 G.2.1 b40 σI1) ++ WL kI1 2 G.2.1 b46 σI1)) := hD
  refine c_astS (j := 4) (i := 2) C0 hb hK hP hD hS rfl (show vp_in 2 4 by unfold vp_in; decide) dX5_init_90 (fun H locs hP hD hS => ?_)
  have hP : va_P G.1 vwCl (((((([(h0, .inr (5, [.ref (b6 0), .ref (b11 0), .ref (b16 0), .ref (b21 0), .ref q25, .null, .null, .null, .int 0]))] ++ WL kI2 15 G.2.1 b6 σI2) ++ WL kI2 15 G.2.1 b11 σI2) ++ WL kI2 15 G.2.1 b16 σI2) ++ WL kI2 15 G.2.1 b21 σI2) ++ [(q25, .inl (G.2.1.1, 12, .inl (fun _ => 0)))]) ++ (q29, .inl (G.2.1.2.2, 4, .inr (.inr (.inr (.inr (va_up (va_up (va_up (fun _ => none) 0 (some (b34 0))) 1 (some (b40 0))) 2 (some (b46 0)))))))) :: (((([] : va_W) ++ WL kI1 2 G.2.1 b34 σI1) ++ WL kI1 2 G.2.1 b40 σI1) ++ WL kI1 2 G.2.1 b46 σI1)) H := hP
  have hD : va_D (AI 5 [.null, .null, .null, .null, .null, .null, .null, .null, .int 0] h0 s.heap.size) (((((([(h0, .inr (5, [.ref (b6 0), .ref (b11 0), .ref (b16 0), .ref (b21 0), .ref q25, .null, .null, .null, .int 0]))] ++ WL kI2 15 G.2.1 b6 σI2) ++ WL kI2 15 G.2.1 b11 σI2) ++ WL kI2 15 G.2.1 b16 σI2) ++ WL kI2 15 G.2.1 b21 σI2) ++ [(q25, .inl (G.2.1.1, 12, .inl (fun _ => 0)))]) ++ (q29, .inl (G.2.1.2.2, 4, .inr (.inr (.inr (.inr (va_up (va_up (va_up (fun _ => none) 0 (some (b34 0))) 1 (some (b40 0))) 2 (some (b46 0)))))))) :: (((([] : va_W) ++ WL kI1 2 G.2.1 b34 σI1) ++ WL kI1 2 G.2.1 b40 σI1) ++ WL kI1 2 G.2.1 b46 σI1)) := hD
  refine lv_dup hx hb dX5_init_91 rfl ?_
  refine lv_iconst (v := 3) hx hb dX5_init_92 (by decide) ?_
  refine va_new (ci := 1) (fs := [.null, .int 0, .int 0]) (C := RX1) (T := TX1) (N := 3) hx hb hts inw_X1 tyX1 tyX1_ok hown (hts _ wcl_X5_29) (hts _ wn_X1) (hts _ win_X1) hK.1 hP hD hS hA rfl (fun j hj => by rcases (show j = 0 ∨ j = 1 ∨ j = 2 by omega) with rfl | rfl | rfl <;> rfl) (Nat.le_of_ble_eq_true rfl) (Nat.le_of_ble_eq_true rfl) dX5_init_93 (fun q50 H hP hD hS => ?_)
  refine lv_dup hx hb dX5_init_96 rfl ?_
  refine c_initN (F := (((((([(h0, .inr (5, [.ref (b6 0), .ref (b11 0), .ref (b16 0), .ref (b21 0), .ref q25, .null, .null, .null, .int 0]))] ++ WL kI2 15 G.2.1 b6 σI2) ++ WL kI2 15 G.2.1 b11 σI2) ++ WL kI2 15 G.2.1 b16 σI2) ++ WL kI2 15 G.2.1 b21 σI2) ++ [(q25, .inl (G.2.1.1, 12, .inl (fun _ => 0)))]) ++ (q29, .inl (G.2.1.2.2, 4, .inr (.inr (.inr (.inr (va_up (va_up (va_up (fun _ => none) 0 (some (b34 0))) 1 (some (b40 0))) 2 (some (b46 0)))))))) :: (((([] : va_W) ++ WL kI1 2 G.2.1 b34 σI1) ++ WL kI1 2 G.2.1 b40 σI1) ++ WL kI1 2 G.2.1 b46 σI1))) (q := q50) (ci := 1) (fs := [.null, .int 0, .int 0]) C0 hb hml hl.1 hK (hK.2.2.2.2.1) wi_X1_init win_X1 wc_X1_init (by decide +kernel) (k_X1_init l G q50 H.size) rfl rfl ⟨(Nat.le_of_ble_eq_true rfl), (Nat.le_of_ble_eq_true rfl)⟩ hP hD hS hA (Nat.le_of_ble_eq_true rfl) dX5_init_97 ⟨(Nat.le_of_ble_eq_true rfl), (Nat.le_of_ble_eq_true rfl)⟩ (fun b52 H locs eb52 hP2 hD2 hS => ?_)
  clear hP hD
  subst eb52
  have hP := hP2
  have hD := hD2
  clear hP2 hD2
  rw [List.append_assoc, List.cons_append] at hP hD
  have hP : va_P G.1 vwCl (((((([(h0, .inr (5, [.ref (b6 0), .ref (b11 0), .ref (b16 0), .ref (b21 0), .ref q25, .null, .null, .null, .int 0]))] ++ WL kI2 15 G.2.1 b6 σI2) ++ WL kI2 15 G.2.1 b11 σI2) ++ WL kI2 15 G.2.1 b16 σI2) ++ WL kI2 15 G.2.1 b21 σI2) ++ [(q25, .inl (G.2.1.1, 12, .inl (fun _ => 0)))]) ++ (q29, .inl (G.2.1.2.2, 4, .inr (.inr (.inr (.inr (va_up (va_up (va_up (fun _ => none) 0 (some (b34 0))) 1 (some (b40 0))) 2 (some (b46 0)))))))) :: ((((([] : va_W) ++ WL kI1 2 G.2.1 b34 σI1) ++ WL kI1 2 G.2.1 b40 σI1) ++ WL kI1 2 G.2.1 b46 σI1) ++ WL kI1 2 G.2.1 b52 σI1)) H := hP
  have hD : va_D (AI 5 [.null, .null, .null, .null, .null, .null, .null, .null, .int 0] h0 s.heap.size) (((((([(h0, .inr (5, [.ref (b6 0), .ref (b11 0), .ref (b16 0), .ref (b21 0), .ref q25, .null, .null, .null, .int 0]))] ++ WL kI2 15 G.2.1 b6 σI2) ++ WL kI2 15 G.2.1 b11 σI2) ++ WL kI2 15 G.2.1 b16 σI2) ++ WL kI2 15 G.2.1 b21 σI2) ++ [(q25, .inl (G.2.1.1, 12, .inl (fun _ => 0)))]) ++ (q29, .inl (G.2.1.2.2, 4, .inr (.inr (.inr (.inr (va_up (va_up (va_up (fun _ => none) 0 (some (b34 0))) 1 (some (b40 0))) 2 (some (b46 0)))))))) :: ((((([] : va_W) ++ WL kI1 2 G.2.1 b34 σI1) ++ WL kI1 2 G.2.1 b40 σI1) ++ WL kI1 2 G.2.1 b46 σI1) ++ WL kI1 2 G.2.1 b52 σI1)) := hD
  refine c_astS (j := 6) (i := 3) C0 hb hK hP hD hS rfl (show vp_in 3 4 by unfold vp_in; decide) dX5_init_100 (fun H locs hP hD hS => ?_)
  have hP : va_P G.1 vwCl (((((([(h0, .inr (5, [.ref (b6 0), .ref (b11 0), .ref (b16 0), .ref (b21 0), .ref q25, .null, .null, .null, .int 0]))] ++ WL kI2 15 G.2.1 b6 σI2) ++ WL kI2 15 G.2.1 b11 σI2) ++ WL kI2 15 G.2.1 b16 σI2) ++ WL kI2 15 G.2.1 b21 σI2) ++ [(q25, .inl (G.2.1.1, 12, .inl (fun _ => 0)))]) ++ (q29, .inl (G.2.1.2.2, 4, .inr (.inr (.inr (.inr (va_up (va_up (va_up (va_up (fun _ => none) 0 (some (b34 0))) 1 (some (b40 0))) 2 (some (b46 0))) 3 (some (b52 0)))))))) :: ((((([] : va_W) ++ WL kI1 2 G.2.1 b34 σI1) ++ WL kI1 2 G.2.1 b40 σI1) ++ WL kI1 2 G.2.1 b46 σI1) ++ WL kI1 2 G.2.1 b52 σI1)) H := hP
  have hD : va_D (AI 5 [.null, .null, .null, .null, .null, .null, .null, .null, .int 0] h0 s.heap.size) (((((([(h0, .inr (5, [.ref (b6 0), .ref (b11 0), .ref (b16 0), .ref (b21 0), .ref q25, .null, .null, .null, .int 0]))] ++ WL kI2 15 G.2.1 b6 σI2) ++ WL kI2 15 G.2.1 b11 σI2) ++ WL kI2 15 G.2.1 b16 σI2) ++ WL kI2 15 G.2.1 b21 σI2) ++ [(q25, .inl (G.2.1.1, 12, .inl (fun _ => 0)))]) ++ (q29, .inl (G.2.1.2.2, 4, .inr (.inr (.inr (.inr (va_up (va_up (va_up (va_up (fun _ => none) 0 (some (b34 0))) 1 (some (b40 0))) 2 (some (b46 0))) 3 (some (b52 0)))))))) :: ((((([] : va_W) ++ WL kI1 2 G.2.1 b34 σI1) ++ WL kI1 2 G.2.1 b40 σI1) ++ WL kI1 2 G.2.1 b46 σI1) ++ WL kI1 2 G.2.1 b52 σI1)) := hD
  refine va_putF (D := G.1) (ci := 5) (v := .ref q29) (ty := (.array (.object "ValveRiver$Sheet"))) (C := RX5) (T := TX5) (N := 9) hx hb hts inw_X5 tyX5 tyX5_ok nmX5 hown hK.1 hP hD hS 0 rfl rfl 5 (by decide) (hts _ wf_X5_32) (fun _ h9 => h9) rfl hin rfl (by decide +kernel) rfl rfl (Nat.le_of_ble_eq_true rfl) dX5_init_101 (fun H locs hP hD hS => ?_)
  have hP : va_P G.1 vwCl (((((([(h0, .inr (5, [.ref (b6 0), .ref (b11 0), .ref (b16 0), .ref (b21 0), .ref q25, .ref q29, .null, .null, .int 0]))] ++ WL kI2 15 G.2.1 b6 σI2) ++ WL kI2 15 G.2.1 b11 σI2) ++ WL kI2 15 G.2.1 b16 σI2) ++ WL kI2 15 G.2.1 b21 σI2) ++ [(q25, .inl (G.2.1.1, 12, .inl (fun _ => 0)))]) ++ (q29, .inl (G.2.1.2.2, 4, .inr (.inr (.inr (.inr (va_up (va_up (va_up (va_up (fun _ => none) 0 (some (b34 0))) 1 (some (b40 0))) 2 (some (b46 0))) 3 (some (b52 0)))))))) :: ((((([] : va_W) ++ WL kI1 2 G.2.1 b34 σI1) ++ WL kI1 2 G.2.1 b40 σI1) ++ WL kI1 2 G.2.1 b46 σI1) ++ WL kI1 2 G.2.1 b52 σI1)) H := hP
  have hD : va_D (AI 5 [.null, .null, .null, .null, .null, .null, .null, .null, .int 0] h0 s.heap.size) (((((([(h0, .inr (5, [.ref (b6 0), .ref (b11 0), .ref (b16 0), .ref (b21 0), .ref q25, .ref q29, .null, .null, .int 0]))] ++ WL kI2 15 G.2.1 b6 σI2) ++ WL kI2 15 G.2.1 b11 σI2) ++ WL kI2 15 G.2.1 b16 σI2) ++ WL kI2 15 G.2.1 b21 σI2) ++ [(q25, .inl (G.2.1.1, 12, .inl (fun _ => 0)))]) ++ (q29, .inl (G.2.1.2.2, 4, .inr (.inr (.inr (.inr (va_up (va_up (va_up (va_up (fun _ => none) 0 (some (b34 0))) 1 (some (b40 0))) 2 (some (b46 0))) 3 (some (b52 0)))))))) :: ((((([] : va_W) ++ WL kI1 2 G.2.1 b34 σI1) ++ WL kI1 2 G.2.1 b40 σI1) ++ WL kI1 2 G.2.1 b46 σI1) ++ WL kI1 2 G.2.1 b52 σI1)) := hD
  refine lv_aload_n hx hb dX5_init_104 rfl (lv_at hl 0 rfl) ?_
  refine va_new (ci := 0) (fs := [.null, .int 0, .int 0, .int 0, .int 0, .int 0]) (C := RX0) (T := TX0) (N := 6) hx hb hts inw_X0 tyX0 tyX0_ok hown (hts _ wcl_X5_36) (hts _ wn_X0) (hts _ win_X0) hK.1 hP hD hS hA rfl (fun j hj => by rcases (show j = 0 ∨ j = 1 ∨ j = 2 ∨ j = 3 ∨ j = 4 ∨ j = 5 by omega) with rfl | rfl | rfl | rfl | rfl | rfl <;> rfl) (Nat.le_of_ble_eq_true rfl) (Nat.le_of_ble_eq_true rfl) dX5_init_105 (fun q56 H hP hD hS => ?_)
  refine lv_dup hx hb dX5_init_108 rfl ?_
  refine c_initN (F := (((((([(h0, .inr (5, [.ref (b6 0), .ref (b11 0), .ref (b16 0), .ref (b21 0), .ref q25, .ref q29, .null, .null, .int 0]))] ++ WL kI2 15 G.2.1 b6 σI2) ++ WL kI2 15 G.2.1 b11 σI2) ++ WL kI2 15 G.2.1 b16 σI2) ++ WL kI2 15 G.2.1 b21 σI2) ++ [(q25, .inl (G.2.1.1, 12, .inl (fun _ => 0)))]) ++ (q29, .inl (G.2.1.2.2, 4, .inr (.inr (.inr (.inr (va_up (va_up (va_up (va_up (fun _ => none) 0 (some (b34 0))) 1 (some (b40 0))) 2 (some (b46 0))) 3 (some (b52 0)))))))) :: ((((([] : va_W) ++ WL kI1 2 G.2.1 b34 σI1) ++ WL kI1 2 G.2.1 b40 σI1) ++ WL kI1 2 G.2.1 b46 σI1) ++ WL kI1 2 G.2.1 b52 σI1))) (q := q56) (ci := 0) (fs := [.null, .int 0, .int 0, .int 0, .int 0, .int 0]) C0 hb hml hl.1 hK (hK.2.2.2.2.2.1) wi_X0_init win_X0 wc_X0_init (by decide +kernel) (k_X0_init l G q56 H.size) rfl rfl ⟨(Nat.le_of_ble_eq_true rfl), (Nat.le_of_ble_eq_true rfl)⟩ hP hD hS hA (Nat.le_of_ble_eq_true rfl) dX5_init_109 ⟨(Nat.le_of_ble_eq_true rfl), (Nat.le_of_ble_eq_true rfl)⟩ (fun b58 H locs eb58 hP2 hD2 hS => ?_)
  clear hP hD
  subst eb58
  have hP := hP2
  have hD := hD2
  clear hP2 hD2
  rw [List.append_assoc, List.cons_append] at hP hD
  have hP : va_P G.1 vwCl (((((([(h0, .inr (5, [.ref (b6 0), .ref (b11 0), .ref (b16 0), .ref (b21 0), .ref q25, .ref q29, .null, .null, .int 0]))] ++ WL kI2 15 G.2.1 b6 σI2) ++ WL kI2 15 G.2.1 b11 σI2) ++ WL kI2 15 G.2.1 b16 σI2) ++ WL kI2 15 G.2.1 b21 σI2) ++ [(q25, .inl (G.2.1.1, 12, .inl (fun _ => 0)))]) ++ (q29, .inl (G.2.1.2.2, 4, .inr (.inr (.inr (.inr (va_up (va_up (va_up (va_up (fun _ => none) 0 (some (b34 0))) 1 (some (b40 0))) 2 (some (b46 0))) 3 (some (b52 0)))))))) :: (((((([] : va_W) ++ WL kI1 2 G.2.1 b34 σI1) ++ WL kI1 2 G.2.1 b40 σI1) ++ WL kI1 2 G.2.1 b46 σI1) ++ WL kI1 2 G.2.1 b52 σI1) ++ WL kI0 2 G.2.1 b58 σI0)) H := hP
  have hD : va_D (AI 5 [.null, .null, .null, .null, .null, .null, .null, .null, .int 0] h0 s.heap.size) (((((([(h0, .inr (5, [.ref (b6 0), .ref (b11 0), .ref (b16 0), .ref (b21 0), .ref q25, .ref q29, .null, .null, .int 0]))] ++ WL kI2 15 G.2.1 b6 σI2) ++ WL kI2 15 G.2.1 b11 σI2) ++ WL kI2 15 G.2.1 b16 σI2) ++ WL kI2 15 G.2.1 b21 σI2) ++ [(q25, .inl (G.2.1.1, 12, .inl (fun _ => 0)))]) ++ (q29, .inl (G.2.1.2.2, 4, .inr (.inr (.inr (.inr (va_up (va_up (va_up (va_up (fun _ => none) 0 (some (b34 0))) 1 (some (b40 0))) 2 (some (b46 0))) 3 (some (b52 0)))))))) :: (((((([] : va_W) ++ WL kI1 2 G.2.1 b34 σI1) ++ WL kI1 2 G.2.1 b40 σI1) ++ WL kI1 2 G.2.1 b46 σI1) ++ WL kI1 2 G.2.1 b52 σI1) ++ WL kI0 2 G.2.1 b58 σI0)) := hD
  refine va_putF (D := G.1) (ci := 5) (v := .ref (b58 0)) (ty := (.object "ValveRiver$Reader")) (C := RX5) (T := TX5) (N := 9) hx hb hts inw_X5 tyX5 tyX5_ok nmX5 hown hK.1 hP hD hS 0 rfl rfl 6 (by decide) (hts _ wf_X5_39) (fun _ h9 => h9) rfl hin rfl (by decide +kernel) rfl rfl (Nat.le_of_ble_eq_true rfl) dX5_init_112 (fun H locs hP hD hS => ?_)
  have hP : va_P G.1 vwCl (((((([(h0, .inr (5, [.ref (b6 0), .ref (b11 0), .ref (b16 0), .ref (b21 0), .ref q25, .ref q29, .ref (b58 0), .null, .int 0]))] ++ WL kI2 15 G.2.1 b6 σI2) ++ WL kI2 15 G.2.1 b11 σI2) ++ WL kI2 15 G.2.1 b16 σI2) ++ WL kI2 15 G.2.1 b21 σI2) ++ [(q25, .inl (G.2.1.1, 12, .inl (fun _ => 0)))]) ++ (q29, .inl (G.2.1.2.2, 4, .inr (.inr (.inr (.inr (va_up (va_up (va_up (va_up (fun _ => none) 0 (some (b34 0))) 1 (some (b40 0))) 2 (some (b46 0))) 3 (some (b52 0)))))))) :: (((((([] : va_W) ++ WL kI1 2 G.2.1 b34 σI1) ++ WL kI1 2 G.2.1 b40 σI1) ++ WL kI1 2 G.2.1 b46 σI1) ++ WL kI1 2 G.2.1 b52 σI1) ++ WL kI0 2 G.2.1 b58 σI0)) H := hP
  have hD : va_D (AI 5 [.null, .null, .null, .null, .null, .null, .null, .null, .int 0] h0 s.heap.size) (((((([(h0, .inr (5, [.ref (b6 0), .ref (b11 0), .ref (b16 0), .ref (b21 0), .ref q25, .ref q29, .ref (b58 0), .null, .int 0]))] ++ WL kI2 15 G.2.1 b6 σI2) ++ WL kI2 15 G.2.1 b11 σI2) ++ WL kI2 15 G.2.1 b16 σI2) ++ WL kI2 15 G.2.1 b21 σI2) ++ [(q25, .inl (G.2.1.1, 12, .inl (fun _ => 0)))]) ++ (q29, .inl (G.2.1.2.2, 4, .inr (.inr (.inr (.inr (va_up (va_up (va_up (va_up (fun _ => none) 0 (some (b34 0))) 1 (some (b40 0))) 2 (some (b46 0))) 3 (some (b52 0)))))))) :: (((((([] : va_W) ++ WL kI1 2 G.2.1 b34 σI1) ++ WL kI1 2 G.2.1 b40 σI1) ++ WL kI1 2 G.2.1 b46 σI1) ++ WL kI1 2 G.2.1 b52 σI1) ++ WL kI0 2 G.2.1 b58 σI0)) := hD
  refine lv_aload_n hx hb dX5_init_115 rfl (lv_at hl 0 rfl) ?_
  refine lv_bipush (v := 7) hx hb dX5_init_116 (by decide) ?_
  refine c_newa (N := 7) C0 hb hK hP hD hS hA (by decide) (by decide) (by decide) (Nat.le_of_ble_eq_true rfl) (Nat.le_of_ble_eq_true rfl) dX5_init_118 (fun q62 H hP hD hS => ?_)
  rw [List.append_assoc, List.cons_append] at hP hD
  have hP : va_P G.1 vwCl (((((([(h0, .inr (5, [.ref (b6 0), .ref (b11 0), .ref (b16 0), .ref (b21 0), .ref q25, .ref q29, .ref (b58 0), .null, .int 0]))] ++ WL kI2 15 G.2.1 b6 σI2) ++ WL kI2 15 G.2.1 b11 σI2) ++ WL kI2 15 G.2.1 b16 σI2) ++ WL kI2 15 G.2.1 b21 σI2) ++ [(q25, .inl (G.2.1.1, 12, .inl (fun _ => 0)))]) ++ (q29, .inl (G.2.1.2.2, 4, .inr (.inr (.inr (.inr (va_up (va_up (va_up (va_up (fun _ => none) 0 (some (b34 0))) 1 (some (b40 0))) 2 (some (b46 0))) 3 (some (b52 0)))))))) :: ((((((([] : va_W) ++ WL kI1 2 G.2.1 b34 σI1) ++ WL kI1 2 G.2.1 b40 σI1) ++ WL kI1 2 G.2.1 b46 σI1) ++ WL kI1 2 G.2.1 b52 σI1) ++ WL kI0 2 G.2.1 b58 σI0) ++ [(q62, .inl (G.2.1.1, 7, .inl (fun _ => 0)))])) H := hP
  have hD : va_D (AI 5 [.null, .null, .null, .null, .null, .null, .null, .null, .int 0] h0 s.heap.size) (((((([(h0, .inr (5, [.ref (b6 0), .ref (b11 0), .ref (b16 0), .ref (b21 0), .ref q25, .ref q29, .ref (b58 0), .null, .int 0]))] ++ WL kI2 15 G.2.1 b6 σI2) ++ WL kI2 15 G.2.1 b11 σI2) ++ WL kI2 15 G.2.1 b16 σI2) ++ WL kI2 15 G.2.1 b21 σI2) ++ [(q25, .inl (G.2.1.1, 12, .inl (fun _ => 0)))]) ++ (q29, .inl (G.2.1.2.2, 4, .inr (.inr (.inr (.inr (va_up (va_up (va_up (va_up (fun _ => none) 0 (some (b34 0))) 1 (some (b40 0))) 2 (some (b46 0))) 3 (some (b52 0)))))))) :: ((((((([] : va_W) ++ WL kI1 2 G.2.1 b34 σI1) ++ WL kI1 2 G.2.1 b40 σI1) ++ WL kI1 2 G.2.1 b46 σI1) ++ WL kI1 2 G.2.1 b52 σI1) ++ WL kI0 2 G.2.1 b58 σI0) ++ [(q62, .inl (G.2.1.1, 7, .inl (fun _ => 0)))])) := hD
  refine va_putF (D := G.1) (ci := 5) (v := .ref q62) (ty := (.array .int)) (C := RX5) (T := TX5) (N := 9) hx hb hts inw_X5 tyX5 tyX5_ok nmX5 hown hK.1 hP hD hS 0 rfl rfl 7 (by decide) (hts _ wf_X5_43) (fun _ h9 => h9) rfl hin rfl (by decide +kernel) rfl rfl (Nat.le_of_ble_eq_true rfl) dX5_init_120 (fun H locs hP hD hS => ?_)
  have hP : va_P G.1 vwCl (((((([(h0, .inr (5, [.ref (b6 0), .ref (b11 0), .ref (b16 0), .ref (b21 0), .ref q25, .ref q29, .ref (b58 0), .ref q62, .int 0]))] ++ WL kI2 15 G.2.1 b6 σI2) ++ WL kI2 15 G.2.1 b11 σI2) ++ WL kI2 15 G.2.1 b16 σI2) ++ WL kI2 15 G.2.1 b21 σI2) ++ [(q25, .inl (G.2.1.1, 12, .inl (fun _ => 0)))]) ++ (q29, .inl (G.2.1.2.2, 4, .inr (.inr (.inr (.inr (va_up (va_up (va_up (va_up (fun _ => none) 0 (some (b34 0))) 1 (some (b40 0))) 2 (some (b46 0))) 3 (some (b52 0)))))))) :: ((((((([] : va_W) ++ WL kI1 2 G.2.1 b34 σI1) ++ WL kI1 2 G.2.1 b40 σI1) ++ WL kI1 2 G.2.1 b46 σI1) ++ WL kI1 2 G.2.1 b52 σI1) ++ WL kI0 2 G.2.1 b58 σI0) ++ [(q62, .inl (G.2.1.1, 7, .inl (fun _ => 0)))])) H := hP
  have hD : va_D (AI 5 [.null, .null, .null, .null, .null, .null, .null, .null, .int 0] h0 s.heap.size) (((((([(h0, .inr (5, [.ref (b6 0), .ref (b11 0), .ref (b16 0), .ref (b21 0), .ref q25, .ref q29, .ref (b58 0), .ref q62, .int 0]))] ++ WL kI2 15 G.2.1 b6 σI2) ++ WL kI2 15 G.2.1 b11 σI2) ++ WL kI2 15 G.2.1 b16 σI2) ++ WL kI2 15 G.2.1 b21 σI2) ++ [(q25, .inl (G.2.1.1, 12, .inl (fun _ => 0)))]) ++ (q29, .inl (G.2.1.2.2, 4, .inr (.inr (.inr (.inr (va_up (va_up (va_up (va_up (fun _ => none) 0 (some (b34 0))) 1 (some (b40 0))) 2 (some (b46 0))) 3 (some (b52 0)))))))) :: ((((((([] : va_W) ++ WL kI1 2 G.2.1 b34 σI1) ++ WL kI1 2 G.2.1 b40 σI1) ++ WL kI1 2 G.2.1 b46 σI1) ++ WL kI1 2 G.2.1 b52 σI1) ++ WL kI0 2 G.2.1 b58 σI0) ++ [(q62, .inl (G.2.1.1, 7, .inl (fun _ => 0)))])) := hD
  refine lv_aload_n hx hb dX5_init_123 rfl (lv_at hl 0 rfl) ?_
  refine lv_iconst (v := 0) hx hb dX5_init_124 (by decide) ?_
  refine va_put (D := G.1) (ci := 5) (v := .int 0) (ty := .boolean) (C := RX5) (T := TX5) (N := 9) hx hb hts inw_X5 tyX5 tyX5_ok nmX5 hown hK.1 hP hD hS 0 rfl rfl 8 (by decide) (hts _ wf_X5_46) (fun _ h9 => h9) rfl (by decide +kernel) rfl rfl (Nat.le_of_ble_eq_true rfl) dX5_init_125 (fun H locs hP hD hS => ?_)
  have hP : va_P G.1 vwCl (((((([(h0, .inr (5, [.ref (b6 0), .ref (b11 0), .ref (b16 0), .ref (b21 0), .ref q25, .ref q29, .ref (b58 0), .ref q62, .int 0]))] ++ WL kI2 15 G.2.1 b6 σI2) ++ WL kI2 15 G.2.1 b11 σI2) ++ WL kI2 15 G.2.1 b16 σI2) ++ WL kI2 15 G.2.1 b21 σI2) ++ [(q25, .inl (G.2.1.1, 12, .inl (fun _ => 0)))]) ++ (q29, .inl (G.2.1.2.2, 4, .inr (.inr (.inr (.inr (va_up (va_up (va_up (va_up (fun _ => none) 0 (some (b34 0))) 1 (some (b40 0))) 2 (some (b46 0))) 3 (some (b52 0)))))))) :: ((((((([] : va_W) ++ WL kI1 2 G.2.1 b34 σI1) ++ WL kI1 2 G.2.1 b40 σI1) ++ WL kI1 2 G.2.1 b46 σI1) ++ WL kI1 2 G.2.1 b52 σI1) ++ WL kI0 2 G.2.1 b58 σI0) ++ [(q62, .inl (G.2.1.1, 7, .inl (fun _ => 0)))])) H := hP
  have hD : va_D (AI 5 [.null, .null, .null, .null, .null, .null, .null, .null, .int 0] h0 s.heap.size) (((((([(h0, .inr (5, [.ref (b6 0), .ref (b11 0), .ref (b16 0), .ref (b21 0), .ref q25, .ref q29, .ref (b58 0), .ref q62, .int 0]))] ++ WL kI2 15 G.2.1 b6 σI2) ++ WL kI2 15 G.2.1 b11 σI2) ++ WL kI2 15 G.2.1 b16 σI2) ++ WL kI2 15 G.2.1 b21 σI2) ++ [(q25, .inl (G.2.1.1, 12, .inl (fun _ => 0)))]) ++ (q29, .inl (G.2.1.2.2, 4, .inr (.inr (.inr (.inr (va_up (va_up (va_up (va_up (fun _ => none) 0 (some (b34 0))) 1 (some (b40 0))) 2 (some (b46 0))) 3 (some (b52 0)))))))) :: ((((((([] : va_W) ++ WL kI1 2 G.2.1 b34 σI1) ++ WL kI1 2 G.2.1 b40 σI1) ++ WL kI1 2 G.2.1 b46 σI1) ++ WL kI1 2 G.2.1 b52 σI1) ++ WL kI0 2 G.2.1 b58 σI0) ++ [(q62, .inl (G.2.1.1, 7, .inl (fun _ => 0)))])) := hD
  obtain ⟨aa, haa⟩ : ∃ aa : Nat → Nat, aa = (fun i => if i = 0 then h0 else if i < 16 then b6 (i - 1) else if i < 31 then b11 (i - 16) else if i < 46 then b16 (i - 31) else if i < 61 then b21 (i - 46) else if i < 62 then (fun _ => q25) (i - 61) else if i < 63 then (fun _ => q29) (i - 62) else if i < 65 then b34 (i - 63) else if i < 67 then b40 (i - 65) else if i < 69 then b46 (i - 67) else if i < 71 then b52 (i - 69) else if i < 73 then b58 (i - 71) else if i < 74 then (fun _ => q62) (i - 73) else 0) := ⟨_, rfl⟩
  have key : ∀ i, i < 74 → ∃ x, (((((([(h0, .inr (5, [.ref (b6 0), .ref (b11 0), .ref (b16 0), .ref (b21 0), .ref q25, .ref q29, .ref (b58 0), .ref q62, .int 0]))] ++ WL kI2 15 G.2.1 b6 σI2) ++ WL kI2 15 G.2.1 b11 σI2) ++ WL kI2 15 G.2.1 b16 σI2) ++ WL kI2 15 G.2.1 b21 σI2) ++ [(q25, .inl (G.2.1.1, 12, .inl (fun _ => 0)))]) ++ (q29, .inl (G.2.1.2.2, 4, .inr (.inr (.inr (.inr (va_up (va_up (va_up (va_up (fun _ => none) 0 (some (b34 0))) 1 (some (b40 0))) 2 (some (b46 0))) 3 (some (b52 0)))))))) :: ((((((([] : va_W) ++ WL kI1 2 G.2.1 b34 σI1) ++ WL kI1 2 G.2.1 b40 σI1) ++ WL kI1 2 G.2.1 b46 σI1) ++ WL kI1 2 G.2.1 b52 σI1) ++ WL kI0 2 G.2.1 b58 σI0) ++ [(q62, .inl (G.2.1.1, 7, .inl (fun _ => 0)))]))[i]? = some (aa i, x) ∧ (va_at G.1 vwCl (aa i, x) H → va_at G.1 vwCl (aa i, mkE G.2.1 aa (kR i) i (σI5 i)) H) := by
    intro i hi
    subst haa
    rcases (show i = 0 ∨ i = 1 ∨ i = 2 ∨ i = 3 ∨ i = 4 ∨ i = 5 ∨ i = 6 ∨ i = 7 ∨ i = 8 ∨ i = 9 ∨ i = 10 ∨ i = 11 ∨ i = 12 ∨ i = 13 ∨ i = 14 ∨ i = 15 ∨ i = 16 ∨ i = 17 ∨ i = 18 ∨ i = 19 ∨ i = 20 ∨ i = 21 ∨ i = 22 ∨ i = 23 ∨ i = 24 ∨ i = 25 ∨ i = 26 ∨ i = 27 ∨ i = 28 ∨ i = 29 ∨ i = 30 ∨ i = 31 ∨ i = 32 ∨ i = 33 ∨ i = 34 ∨ i = 35 ∨ i = 36 ∨ i = 37 ∨ i = 38 ∨ i = 39 ∨ i = 40 ∨ i = 41 ∨ i = 42 ∨ i = 43 ∨ i = 44 ∨ i = 45 ∨ i = 46 ∨ i = 47 ∨ i = 48 ∨ i = 49 ∨ i = 50 ∨ i = 51 ∨ i = 52 ∨ i = 53 ∨ i = 54 ∨ i = 55 ∨ i = 56 ∨ i = 57 ∨ i = 58 ∨ i = 59 ∨ i = 60 ∨ i = 61 ∨ i = 62 ∨ i = 63 ∨ i = 64 ∨ i = 65 ∨ i = 66 ∨ i = 67 ∨ i = 68 ∨ i = 69 ∨ i = 70 ∨ i = 71 ∨ i = 72 ∨ i = 73 by omega) with rfl | rfl | rfl | rfl | rfl | rfl | rfl | rfl | rfl | rfl | rfl | rfl | rfl | rfl | rfl | rfl | rfl | rfl | rfl | rfl | rfl | rfl | rfl | rfl | rfl | rfl | rfl | rfl | rfl | rfl | rfl | rfl | rfl | rfl | rfl | rfl | rfl | rfl | rfl | rfl | rfl | rfl | rfl | rfl | rfl | rfl | rfl | rfl | rfl | rfl | rfl | rfl | rfl | rfl | rfl | rfl | rfl | rfl | rfl | rfl | rfl | rfl | rfl | rfl | rfl | rfl | rfl | rfl | rfl | rfl | rfl | rfl | rfl | rfl
    · exact ⟨_, rfl, fun h => h⟩
    · exact ⟨_, rfl, fun h => h⟩
    · exact ⟨_, rfl, fun h => h⟩
    · exact ⟨_, rfl, fun h => h⟩
    · exact ⟨_, rfl, fun h => h⟩
    · exact ⟨_, rfl, fun h => h⟩
    · exact ⟨_, rfl, fun h => at_refs h (fun j hj => by rcases (show j = 0 ∨ j = 1 ∨ j = 2 ∨ j = 3 ∨ j = 4 ∨ j = 5 ∨ j = 6 ∨ j = 7 by omega) with rfl | rfl | rfl | rfl | rfl | rfl | rfl | rfl <;> rfl)⟩
    · exact ⟨_, rfl, fun h => h⟩
    · exact ⟨_, rfl, fun h => h⟩
    · exact ⟨_, rfl, fun h => h⟩
    · exact ⟨_, rfl, fun h => h⟩
    · exact ⟨_, rfl, fun h => h⟩
    · exact ⟨_, rfl, fun h => h⟩
    · exact ⟨_, rfl, fun h => h⟩
    · exact ⟨_, rfl, fun h => h⟩
    · exact ⟨_, rfl, fun h => h⟩
    · exact ⟨_, rfl, fun h => h⟩
    · exact ⟨_, rfl, fun h => h⟩
    · exact ⟨_, rfl, fun h => h⟩
    · exact ⟨_, rfl, fun h => h⟩
    · exact ⟨_, rfl, fun h => h⟩
    · exact ⟨_, rfl, fun h => at_refs h (fun j hj => by rcases (show j = 0 ∨ j = 1 ∨ j = 2 ∨ j = 3 ∨ j = 4 ∨ j = 5 ∨ j = 6 ∨ j = 7 by omega) with rfl | rfl | rfl | rfl | rfl | rfl | rfl | rfl <;> rfl)⟩
    · exact ⟨_, rfl, fun h => h⟩
    · exact ⟨_, rfl, fun h => h⟩
    · exact ⟨_, rfl, fun h => h⟩
    · exact ⟨_, rfl, fun h => h⟩
    · exact ⟨_, rfl, fun h => h⟩
    · exact ⟨_, rfl, fun h => h⟩
    · exact ⟨_, rfl, fun h => h⟩
    · exact ⟨_, rfl, fun h => h⟩
    · exact ⟨_, rfl, fun h => h⟩
    · exact ⟨_, rfl, fun h => h⟩
    · exact ⟨_, rfl, fun h => h⟩
    · exact ⟨_, rfl, fun h => h⟩
    · exact ⟨_, rfl, fun h => h⟩
    · exact ⟨_, rfl, fun h => h⟩
    · exact ⟨_, rfl, fun h => at_refs h (fun j hj => by rcases (show j = 0 ∨ j = 1 ∨ j = 2 ∨ j = 3 ∨ j = 4 ∨ j = 5 ∨ j = 6 ∨ j = 7 by omega) with rfl | rfl | rfl | rfl | rfl | rfl | rfl | rfl <;> rfl)⟩
    · exact ⟨_, rfl, fun h => h⟩
    · exact ⟨_, rfl, fun h => h⟩
    · exact ⟨_, rfl, fun h => h⟩
    · exact ⟨_, rfl, fun h => h⟩
    · exact ⟨_, rfl, fun h => h⟩
    · exact ⟨_, rfl, fun h => h⟩
    · exact ⟨_, rfl, fun h => h⟩
    · exact ⟨_, rfl, fun h => h⟩
    · exact ⟨_, rfl, fun h => h⟩
    · exact ⟨_, rfl, fun h => h⟩
    · exact ⟨_, rfl, fun h => h⟩
    · exact ⟨_, rfl, fun h => h⟩
    · exact ⟨_, rfl, fun h => h⟩
    · exact ⟨_, rfl, fun h => h⟩
    · exact ⟨_, rfl, fun h => at_refs h (fun j hj => by rcases (show j = 0 ∨ j = 1 ∨ j = 2 ∨ j = 3 ∨ j = 4 ∨ j = 5 ∨ j = 6 ∨ j = 7 by omega) with rfl | rfl | rfl | rfl | rfl | rfl | rfl | rfl <;> rfl)⟩
    · exact ⟨_, rfl, fun h => h⟩
    · exact ⟨_, rfl, fun h => h⟩
    · exact ⟨_, rfl, fun h => h⟩
    · exact ⟨_, rfl, fun h => h⟩
    · exact ⟨_, rfl, fun h => h⟩
    · exact ⟨_, rfl, fun h => h⟩
    · exact ⟨_, rfl, fun h => h⟩
    · exact ⟨_, rfl, fun h => h⟩
    · exact ⟨_, rfl, fun h => h⟩
    · exact ⟨_, rfl, fun h => h⟩
    · exact ⟨_, rfl, fun h => at_refs h (fun j hj => by rcases (show j = 0 ∨ j = 1 ∨ j = 2 ∨ j = 3 by omega) with rfl | rfl | rfl | rfl <;> rfl)⟩
    · exact ⟨_, rfl, fun h => h⟩
    · exact ⟨_, rfl, fun h => h⟩
    · exact ⟨_, rfl, fun h => h⟩
    · exact ⟨_, rfl, fun h => h⟩
    · exact ⟨_, rfl, fun h => h⟩
    · exact ⟨_, rfl, fun h => h⟩
    · exact ⟨_, rfl, fun h => h⟩
    · exact ⟨_, rfl, fun h => h⟩
    · exact ⟨_, rfl, fun h => h⟩
    · exact ⟨_, rfl, fun h => h⟩
    · exact ⟨_, rfl, fun h => h⟩
  have h0a : aa 0 = h0 := by subst haa; rfl
  clear haa
  refine c_ret hx hb hr hlk aa h0a (fun k x hx => ?_) ⟨fun i j x y hi hj hxy => ?_, fun k x hx => ?_⟩ hS dX5_init_128
  · obtain ⟨hk, rfl⟩ := WL_at' hx
    obtain ⟨x0, h1, h2⟩ := key k hk
    exact h2 (hP k _ h1)
  · obtain ⟨hi1, rfl⟩ := WL_at' hi
    obtain ⟨hj1, rfl⟩ := WL_at' hj
    obtain ⟨x0, h1, -⟩ := key i hi1
    obtain ⟨y0, h2, -⟩ := key j hj1
    exact hD.1 i j _ _ h1 h2 hxy
  · obtain ⟨hk, rfl⟩ := WL_at' hx
    obtain ⟨x0, h1, -⟩ := key k hk
    exact hD.2 k (aa k, x0) h1

theorem lg_cmp_self (x : Int64) : lg_cmp x x = 0 := by
  unfold lg_cmp
  simp
set_option maxHeartbeats 4000000 in
set_option maxRecDepth 100000 in
theorem lc_0 {p : Program} {l : Launch} {e : Env} {s : State} {m : MethodId} {below : List Frame} {meth : Method} {c : Code} {H : Heap} {locs : List Loc} {cells slots : Nat} {Q : State → Prop} {ls : Array Slot} {b L : Nat} {xs : Nat → Int32} {G : GG} {a a2 : Nat → Nat} {σ μ : Mem} {x3 : Int32} (C : LC p s m c b L xs G a a2) (hLS : LWS s G a a2 σ μ H locs) (hf : cells ≤ room_1.cells ∧ slots ≤ room_1.slots) (hl : lv_has ls 4 [(3, .int x3), (2, .ref (a2 0)), (1, .ref (a 0)), (0, .ref b)]) (h1 : vp_in (x3 + 1) L) (h2 : vp_in (x3 + 2) L) (h3 : vp_in (x3 + 3) L) (h4 : vp_in (x3 + 4) L) (h5 : vp_in (x3 + 5) L) (q1 : Int32 × Mem) (e1 : f_X5_level ((xs (x3 + 1).toNatClampNeg)) ((xs (x3 + 2).toNatClampNeg)) σ = some q1) (q2 : Int32 × Mem) (e2 : f_X6_level ((xs (x3 + 1).toNatClampNeg)) ((xs (x3 + 2).toNatClampNeg)) μ = some q2) (he : q1.1 = q2.1)
    (kk : ∀ (H : Heap) (locs : List Loc), LWS s G a a2 (q1.2) (q2.2) H locs → W p l e room_1 s m #[Value.ref b] below meth c H locs cells slots Q (F0 m 1561 ls [])) : W p l e room_1 s m #[Value.ref b] below meth c H locs cells slots Q (F0 m 232 ls []) := by
  obtain ⟨C0, hb, hml, hXS, hX, hbl, hj1, hj2, hdis, hA1, hA2⟩ := C
  obtain ⟨hP, hP2, hS⟩ := hLS
  have hx := C0.1
  have hbA : ¬ A0 s b := Nat.not_le.mpr hbl
  refine lv_aload_n hx hb dL_law_232 rfl (lv_at hl 2 rfl) ?_
  refine lv_aload_n hx hb dL_law_233 rfl (lv_at hl 3 rfl) ?_
  refine lv_iload_n hx hb dL_law_234 rfl (lv_at hl 0 rfl) ?_
  refine lv_iconst (v := 1) hx hb dL_law_235 (by decide) ?_
  refine lv_iadd hx hb dL_law_236 ?_
  refine va_sld hx hb hX hbl hbA hS h1 dL_law_237 ?_
  refine lv_aload_n hx hb dL_law_238 rfl (lv_at hl 3 rfl) ?_
  refine lv_iload_n hx hb dL_law_239 rfl (lv_at hl 0 rfl) ?_
  refine lv_iconst (v := 2) hx hb dL_law_240 (by decide) ?_
  refine lv_iadd hx hb dL_law_241 ?_
  refine va_sld hx hb hX hbl hbA hS h2 dL_law_242 ?_
  refine l_cVi (ci := 5) (As := [.int (xs (x3 + 1).toNatClampNeg), .int (xs (x3 + 2).toNatClampNeg)]) (rest := []) C0 hb hml hl.1 hXS wm_L_13 md_X5_level (k_X5_level l G a σ hj1 ((xs (x3 + 1).toNatClampNeg)) ((xs (x3 + 2).toNatClampNeg)) q1 e1) rfl rfl ⟨(Nat.le_of_ble_eq_true rfl), (Nat.le_of_ble_eq_true rfl)⟩ hP hP2 hS (by decide) hA1 hdis rfl (by decide) rfl rfl rfl (Nat.le_of_ble_eq_true rfl) dL_law_243 hf (fun H locs hP hP2 hS => ?_)
  refine lv_aload_n hx hb dL_law_246 rfl (lv_at hl 1 rfl) ?_
  refine lv_aload_n hx hb dL_law_247 rfl (lv_at hl 3 rfl) ?_
  refine lv_iload_n hx hb dL_law_248 rfl (lv_at hl 0 rfl) ?_
  refine lv_iconst (v := 1) hx hb dL_law_249 (by decide) ?_
  refine lv_iadd hx hb dL_law_250 ?_
  refine va_sld hx hb hX hbl hbA hS h1 dL_law_251 ?_
  refine lv_aload_n hx hb dL_law_252 rfl (lv_at hl 3 rfl) ?_
  refine lv_iload_n hx hb dL_law_253 rfl (lv_at hl 0 rfl) ?_
  refine lv_iconst (v := 2) hx hb dL_law_254 (by decide) ?_
  refine lv_iadd hx hb dL_law_255 ?_
  refine va_sld hx hb hX hbl hbA hS h2 dL_law_256 ?_
  refine l_cVi (ci := 6) (As := [.int (xs (x3 + 1).toNatClampNeg), .int (xs (x3 + 2).toNatClampNeg)]) (rest := [.int q1.1]) C0 hb hml hl.1 hXS wm_L_17 md_X6_level (k_X6_level l G a2 μ hj2 ((xs (x3 + 1).toNatClampNeg)) ((xs (x3 + 2).toNatClampNeg)) q2 e2) rfl rfl ⟨(Nat.le_of_ble_eq_true rfl), (Nat.le_of_ble_eq_true rfl)⟩ hP2 hP hS (by decide) hA2 hdis.sy rfl (by decide) rfl rfl rfl (Nat.le_of_ble_eq_true rfl) dL_law_257 hf (fun H locs hP2 hP hS => ?_)
  refine lv_icmp_eq (tgt := 1561) hx hb dL_law_260 (by decide) (fun _ => ?_) (fun z => absurd he z)
  exact kk H locs ⟨hP, hP2, hS⟩
set_option maxHeartbeats 4000000 in
set_option maxRecDepth 100000 in
theorem lc_1 {p : Program} {l : Launch} {e : Env} {s : State} {m : MethodId} {below : List Frame} {meth : Method} {c : Code} {H : Heap} {locs : List Loc} {cells slots : Nat} {Q : State → Prop} {ls : Array Slot} {b L : Nat} {xs : Nat → Int32} {G : GG} {a a2 : Nat → Nat} {σ μ : Mem} {x3 : Int32} (C : LC p s m c b L xs G a a2) (hLS : LWS s G a a2 σ μ H locs) (hf : cells ≤ room_1.cells ∧ slots ≤ room_1.slots) (hl : lv_has ls 4 [(3, .int x3), (2, .ref (a2 0)), (1, .ref (a 0)), (0, .ref b)]) (h1 : vp_in (x3 + 1) L) (h2 : vp_in (x3 + 2) L) (h3 : vp_in (x3 + 3) L) (h4 : vp_in (x3 + 4) L) (h5 : vp_in (x3 + 5) L) (q1 : Int32 × Mem) (e1 : f_X5_stands ((xs (x3 + 1).toNatClampNeg)) σ = some q1) (q2 : Int32 × Mem) (e2 : f_X6_stands ((xs (x3 + 1).toNatClampNeg)) μ = some q2) (he : q1.1 = q2.1)
    (kk : ∀ (H : Heap) (locs : List Loc), LWS s G a a2 (q1.2) (q2.2) H locs → W p l e room_1 s m #[Value.ref b] below meth c H locs cells slots Q (F0 m 1561 ls [])) : W p l e room_1 s m #[Value.ref b] below meth c H locs cells slots Q (F0 m 265 ls []) := by
  obtain ⟨C0, hb, hml, hXS, hX, hbl, hj1, hj2, hdis, hA1, hA2⟩ := C
  obtain ⟨hP, hP2, hS⟩ := hLS
  have hx := C0.1
  have hbA : ¬ A0 s b := Nat.not_le.mpr hbl
  refine lv_aload_n hx hb dL_law_265 rfl (lv_at hl 2 rfl) ?_
  refine lv_aload_n hx hb dL_law_266 rfl (lv_at hl 3 rfl) ?_
  refine lv_iload_n hx hb dL_law_267 rfl (lv_at hl 0 rfl) ?_
  refine lv_iconst (v := 1) hx hb dL_law_268 (by decide) ?_
  refine lv_iadd hx hb dL_law_269 ?_
  refine va_sld hx hb hX hbl hbA hS h1 dL_law_270 ?_
  refine l_cVi (ci := 5) (As := [.int (xs (x3 + 1).toNatClampNeg)]) (rest := []) C0 hb hml hl.1 hXS wm_L_18 md_X5_stands (k_X5_stands l G a σ hj1 ((xs (x3 + 1).toNatClampNeg)) q1 e1) rfl rfl ⟨(Nat.le_of_ble_eq_true rfl), (Nat.le_of_ble_eq_true rfl)⟩ hP hP2 hS (by decide) hA1 hdis rfl (by decide) rfl rfl rfl (Nat.le_of_ble_eq_true rfl) dL_law_271 hf (fun H locs hP hP2 hS => ?_)
  refine lv_aload_n hx hb dL_law_274 rfl (lv_at hl 1 rfl) ?_
  refine lv_aload_n hx hb dL_law_275 rfl (lv_at hl 3 rfl) ?_
  refine lv_iload_n hx hb dL_law_276 rfl (lv_at hl 0 rfl) ?_
  refine lv_iconst (v := 1) hx hb dL_law_277 (by decide) ?_
  refine lv_iadd hx hb dL_law_278 ?_
  refine va_sld hx hb hX hbl hbA hS h1 dL_law_279 ?_
  refine l_cVi (ci := 6) (As := [.int (xs (x3 + 1).toNatClampNeg)]) (rest := [.int q1.1]) C0 hb hml hl.1 hXS wm_L_22 md_X6_stands (k_X6_stands l G a2 μ hj2 ((xs (x3 + 1).toNatClampNeg)) q2 e2) rfl rfl ⟨(Nat.le_of_ble_eq_true rfl), (Nat.le_of_ble_eq_true rfl)⟩ hP2 hP hS (by decide) hA2 hdis.sy rfl (by decide) rfl rfl rfl (Nat.le_of_ble_eq_true rfl) dL_law_280 hf (fun H locs hP2 hP hS => ?_)
  refine lv_icmp_eq (tgt := 1561) hx hb dL_law_283 (by decide) (fun _ => ?_) (fun z => absurd he z)
  exact kk H locs ⟨hP, hP2, hS⟩
set_option maxHeartbeats 4000000 in
set_option maxRecDepth 100000 in
theorem lc_2 {p : Program} {l : Launch} {e : Env} {s : State} {m : MethodId} {below : List Frame} {meth : Method} {c : Code} {H : Heap} {locs : List Loc} {cells slots : Nat} {Q : State → Prop} {ls : Array Slot} {b L : Nat} {xs : Nat → Int32} {G : GG} {a a2 : Nat → Nat} {σ μ : Mem} {x3 : Int32} (C : LC p s m c b L xs G a a2) (hLS : LWS s G a a2 σ μ H locs) (hf : cells ≤ room_1.cells ∧ slots ≤ room_1.slots) (hl : lv_has ls 4 [(3, .int x3), (2, .ref (a2 0)), (1, .ref (a 0)), (0, .ref b)]) (h1 : vp_in (x3 + 1) L) (h2 : vp_in (x3 + 2) L) (h3 : vp_in (x3 + 3) L) (h4 : vp_in (x3 + 4) L) (h5 : vp_in (x3 + 5) L) (q1 : Int32 × Mem) (e1 : f_X5_plan ((xs (x3 + 1).toNatClampNeg)) ((xs (x3 + 2).toNatClampNeg)) σ = some q1) (q2 : Int32 × Mem) (e2 : f_X6_plan ((xs (x3 + 1).toNatClampNeg)) ((xs (x3 + 2).toNatClampNeg)) μ = some q2) (he : q1.1 = q2.1)
    (kk : ∀ (H : Heap) (locs : List Loc), LWS s G a a2 (q1.2) (q2.2) H locs → W p l e room_1 s m #[Value.ref b] below meth c H locs cells slots Q (F0 m 1561 ls [])) : W p l e room_1 s m #[Value.ref b] below meth c H locs cells slots Q (F0 m 288 ls []) := by
  obtain ⟨C0, hb, hml, hXS, hX, hbl, hj1, hj2, hdis, hA1, hA2⟩ := C
  obtain ⟨hP, hP2, hS⟩ := hLS
  have hx := C0.1
  have hbA : ¬ A0 s b := Nat.not_le.mpr hbl
  refine lv_aload_n hx hb dL_law_288 rfl (lv_at hl 2 rfl) ?_
  refine lv_aload_n hx hb dL_law_289 rfl (lv_at hl 3 rfl) ?_
  refine lv_iload_n hx hb dL_law_290 rfl (lv_at hl 0 rfl) ?_
  refine lv_iconst (v := 1) hx hb dL_law_291 (by decide) ?_
  refine lv_iadd hx hb dL_law_292 ?_
  refine va_sld hx hb hX hbl hbA hS h1 dL_law_293 ?_
  refine lv_aload_n hx hb dL_law_294 rfl (lv_at hl 3 rfl) ?_
  refine lv_iload_n hx hb dL_law_295 rfl (lv_at hl 0 rfl) ?_
  refine lv_iconst (v := 2) hx hb dL_law_296 (by decide) ?_
  refine lv_iadd hx hb dL_law_297 ?_
  refine va_sld hx hb hX hbl hbA hS h2 dL_law_298 ?_
  refine l_cVi (ci := 5) (As := [.int (xs (x3 + 1).toNatClampNeg), .int (xs (x3 + 2).toNatClampNeg)]) (rest := []) C0 hb hml hl.1 hXS wm_L_23 md_X5_plan (k_X5_plan l G a σ hj1 ((xs (x3 + 1).toNatClampNeg)) ((xs (x3 + 2).toNatClampNeg)) q1 e1) rfl rfl ⟨(Nat.le_of_ble_eq_true rfl), (Nat.le_of_ble_eq_true rfl)⟩ hP hP2 hS (by decide) hA1 hdis rfl (by decide) rfl rfl rfl (Nat.le_of_ble_eq_true rfl) dL_law_299 hf (fun H locs hP hP2 hS => ?_)
  refine lv_aload_n hx hb dL_law_302 rfl (lv_at hl 1 rfl) ?_
  refine lv_aload_n hx hb dL_law_303 rfl (lv_at hl 3 rfl) ?_
  refine lv_iload_n hx hb dL_law_304 rfl (lv_at hl 0 rfl) ?_
  refine lv_iconst (v := 1) hx hb dL_law_305 (by decide) ?_
  refine lv_iadd hx hb dL_law_306 ?_
  refine va_sld hx hb hX hbl hbA hS h1 dL_law_307 ?_
  refine lv_aload_n hx hb dL_law_308 rfl (lv_at hl 3 rfl) ?_
  refine lv_iload_n hx hb dL_law_309 rfl (lv_at hl 0 rfl) ?_
  refine lv_iconst (v := 2) hx hb dL_law_310 (by decide) ?_
  refine lv_iadd hx hb dL_law_311 ?_
  refine va_sld hx hb hX hbl hbA hS h2 dL_law_312 ?_
  refine l_cVi (ci := 6) (As := [.int (xs (x3 + 1).toNatClampNeg), .int (xs (x3 + 2).toNatClampNeg)]) (rest := [.int q1.1]) C0 hb hml hl.1 hXS wm_L_26 md_X6_plan (k_X6_plan l G a2 μ hj2 ((xs (x3 + 1).toNatClampNeg)) ((xs (x3 + 2).toNatClampNeg)) q2 e2) rfl rfl ⟨(Nat.le_of_ble_eq_true rfl), (Nat.le_of_ble_eq_true rfl)⟩ hP2 hP hS (by decide) hA2 hdis.sy rfl (by decide) rfl rfl rfl (Nat.le_of_ble_eq_true rfl) dL_law_313 hf (fun H locs hP2 hP hS => ?_)
  refine lv_icmp_eq (tgt := 1561) hx hb dL_law_316 (by decide) (fun _ => ?_) (fun z => absurd he z)
  exact kk H locs ⟨hP, hP2, hS⟩
set_option maxHeartbeats 4000000 in
set_option maxRecDepth 100000 in
theorem lc_3 {p : Program} {l : Launch} {e : Env} {s : State} {m : MethodId} {below : List Frame} {meth : Method} {c : Code} {H : Heap} {locs : List Loc} {cells slots : Nat} {Q : State → Prop} {ls : Array Slot} {b L : Nat} {xs : Nat → Int32} {G : GG} {a a2 : Nat → Nat} {σ μ : Mem} {x3 : Int32} (C : LC p s m c b L xs G a a2) (hLS : LWS s G a a2 σ μ H locs) (hf : cells ≤ room_1.cells ∧ slots ≤ room_1.slots) (hl : lv_has ls 4 [(3, .int x3), (2, .ref (a2 0)), (1, .ref (a 0)), (0, .ref b)]) (h1 : vp_in (x3 + 1) L) (h2 : vp_in (x3 + 2) L) (h3 : vp_in (x3 + 3) L) (h4 : vp_in (x3 + 4) L) (h5 : vp_in (x3 + 5) L) (q1 : Int32 × Mem) (e1 : f_X5_opening ((xs (x3 + 1).toNatClampNeg)) σ = some q1) (q2 : Int32 × Mem) (e2 : f_X6_opening ((xs (x3 + 1).toNatClampNeg)) μ = some q2) (he : q1.1 = q2.1)
    (kk : ∀ (H : Heap) (locs : List Loc), LWS s G a a2 (q1.2) (q2.2) H locs → W p l e room_1 s m #[Value.ref b] below meth c H locs cells slots Q (F0 m 1561 ls [])) : W p l e room_1 s m #[Value.ref b] below meth c H locs cells slots Q (F0 m 321 ls []) := by
  obtain ⟨C0, hb, hml, hXS, hX, hbl, hj1, hj2, hdis, hA1, hA2⟩ := C
  obtain ⟨hP, hP2, hS⟩ := hLS
  have hx := C0.1
  have hbA : ¬ A0 s b := Nat.not_le.mpr hbl
  refine lv_aload_n hx hb dL_law_321 rfl (lv_at hl 2 rfl) ?_
  refine lv_aload_n hx hb dL_law_322 rfl (lv_at hl 3 rfl) ?_
  refine lv_iload_n hx hb dL_law_323 rfl (lv_at hl 0 rfl) ?_
  refine lv_iconst (v := 1) hx hb dL_law_324 (by decide) ?_
  refine lv_iadd hx hb dL_law_325 ?_
  refine va_sld hx hb hX hbl hbA hS h1 dL_law_326 ?_
  refine l_cVi (ci := 5) (As := [.int (xs (x3 + 1).toNatClampNeg)]) (rest := []) C0 hb hml hl.1 hXS wm_L_27 md_X5_opening (k_X5_opening l G a σ hj1 ((xs (x3 + 1).toNatClampNeg)) q1 e1) rfl rfl ⟨(Nat.le_of_ble_eq_true rfl), (Nat.le_of_ble_eq_true rfl)⟩ hP hP2 hS (by decide) hA1 hdis rfl (by decide) rfl rfl rfl (Nat.le_of_ble_eq_true rfl) dL_law_327 hf (fun H locs hP hP2 hS => ?_)
  refine lv_aload_n hx hb dL_law_330 rfl (lv_at hl 1 rfl) ?_
  refine lv_aload_n hx hb dL_law_331 rfl (lv_at hl 3 rfl) ?_
  refine lv_iload_n hx hb dL_law_332 rfl (lv_at hl 0 rfl) ?_
  refine lv_iconst (v := 1) hx hb dL_law_333 (by decide) ?_
  refine lv_iadd hx hb dL_law_334 ?_
  refine va_sld hx hb hX hbl hbA hS h1 dL_law_335 ?_
  refine l_cVi (ci := 6) (As := [.int (xs (x3 + 1).toNatClampNeg)]) (rest := [.int q1.1]) C0 hb hml hl.1 hXS wm_L_30 md_X6_opening (k_X6_opening l G a2 μ hj2 ((xs (x3 + 1).toNatClampNeg)) q2 e2) rfl rfl ⟨(Nat.le_of_ble_eq_true rfl), (Nat.le_of_ble_eq_true rfl)⟩ hP2 hP hS (by decide) hA2 hdis.sy rfl (by decide) rfl rfl rfl (Nat.le_of_ble_eq_true rfl) dL_law_336 hf (fun H locs hP2 hP hS => ?_)
  refine lv_icmp_eq (tgt := 1561) hx hb dL_law_339 (by decide) (fun _ => ?_) (fun z => absurd he z)
  exact kk H locs ⟨hP, hP2, hS⟩
set_option maxHeartbeats 4000000 in
set_option maxRecDepth 100000 in
theorem lc_4 {p : Program} {l : Launch} {e : Env} {s : State} {m : MethodId} {below : List Frame} {meth : Method} {c : Code} {H : Heap} {locs : List Loc} {cells slots : Nat} {Q : State → Prop} {ls : Array Slot} {b L : Nat} {xs : Nat → Int32} {G : GG} {a a2 : Nat → Nat} {σ μ : Mem} {x3 : Int32} (C : LC p s m c b L xs G a a2) (hLS : LWS s G a a2 σ μ H locs) (hf : cells ≤ room_1.cells ∧ slots ≤ room_1.slots) (hl : lv_has ls 4 [(3, .int x3), (2, .ref (a2 0)), (1, .ref (a 0)), (0, .ref b)]) (h1 : vp_in (x3 + 1) L) (h2 : vp_in (x3 + 2) L) (h3 : vp_in (x3 + 3) L) (h4 : vp_in (x3 + 4) L) (h5 : vp_in (x3 + 5) L) (q1 : Int32 × Mem) (e1 : f_X5_steady ((xs (x3 + 1).toNatClampNeg)) σ = some q1) (q2 : Int32 × Mem) (e2 : f_X6_steady ((xs (x3 + 1).toNatClampNeg)) μ = some q2) (he : q1.1 = q2.1)
    (kk : ∀ (H : Heap) (locs : List Loc), LWS s G a a2 (q1.2) (q2.2) H locs → W p l e room_1 s m #[Value.ref b] below meth c H locs cells slots Q (F0 m 1561 ls [])) : W p l e room_1 s m #[Value.ref b] below meth c H locs cells slots Q (F0 m 344 ls []) := by
  obtain ⟨C0, hb, hml, hXS, hX, hbl, hj1, hj2, hdis, hA1, hA2⟩ := C
  obtain ⟨hP, hP2, hS⟩ := hLS
  have hx := C0.1
  have hbA : ¬ A0 s b := Nat.not_le.mpr hbl
  refine lv_aload_n hx hb dL_law_344 rfl (lv_at hl 2 rfl) ?_
  refine lv_aload_n hx hb dL_law_345 rfl (lv_at hl 3 rfl) ?_
  refine lv_iload_n hx hb dL_law_346 rfl (lv_at hl 0 rfl) ?_
  refine lv_iconst (v := 1) hx hb dL_law_347 (by decide) ?_
  refine lv_iadd hx hb dL_law_348 ?_
  refine va_sld hx hb hX hbl hbA hS h1 dL_law_349 ?_
  refine l_cVi (ci := 5) (As := [.int (xs (x3 + 1).toNatClampNeg)]) (rest := []) C0 hb hml hl.1 hXS wm_L_31 md_X5_steady (k_X5_steady l G a σ hj1 ((xs (x3 + 1).toNatClampNeg)) q1 e1) rfl rfl ⟨(Nat.le_of_ble_eq_true rfl), (Nat.le_of_ble_eq_true rfl)⟩ hP hP2 hS (by decide) hA1 hdis rfl (by decide) rfl rfl rfl (Nat.le_of_ble_eq_true rfl) dL_law_350 hf (fun H locs hP hP2 hS => ?_)
  refine lv_aload_n hx hb dL_law_353 rfl (lv_at hl 1 rfl) ?_
  refine lv_aload_n hx hb dL_law_354 rfl (lv_at hl 3 rfl) ?_
  refine lv_iload_n hx hb dL_law_355 rfl (lv_at hl 0 rfl) ?_
  refine lv_iconst (v := 1) hx hb dL_law_356 (by decide) ?_
  refine lv_iadd hx hb dL_law_357 ?_
  refine va_sld hx hb hX hbl hbA hS h1 dL_law_358 ?_
  refine l_cVi (ci := 6) (As := [.int (xs (x3 + 1).toNatClampNeg)]) (rest := [.int q1.1]) C0 hb hml hl.1 hXS wm_L_34 md_X6_steady (k_X6_steady l G a2 μ hj2 ((xs (x3 + 1).toNatClampNeg)) q2 e2) rfl rfl ⟨(Nat.le_of_ble_eq_true rfl), (Nat.le_of_ble_eq_true rfl)⟩ hP2 hP hS (by decide) hA2 hdis.sy rfl (by decide) rfl rfl rfl (Nat.le_of_ble_eq_true rfl) dL_law_359 hf (fun H locs hP2 hP hS => ?_)
  refine lv_icmp_eq (tgt := 1561) hx hb dL_law_362 (by decide) (fun _ => ?_) (fun z => absurd he z)
  exact kk H locs ⟨hP, hP2, hS⟩
set_option maxHeartbeats 4000000 in
set_option maxRecDepth 100000 in
theorem lc_5 {p : Program} {l : Launch} {e : Env} {s : State} {m : MethodId} {below : List Frame} {meth : Method} {c : Code} {H : Heap} {locs : List Loc} {cells slots : Nat} {Q : State → Prop} {ls : Array Slot} {b L : Nat} {xs : Nat → Int32} {G : GG} {a a2 : Nat → Nat} {σ μ : Mem} {x3 : Int32} (C : LC p s m c b L xs G a a2) (hLS : LWS s G a a2 σ μ H locs) (hf : cells ≤ room_1.cells ∧ slots ≤ room_1.slots) (hl : lv_has ls 4 [(3, .int x3), (2, .ref (a2 0)), (1, .ref (a 0)), (0, .ref b)]) (h1 : vp_in (x3 + 1) L) (h2 : vp_in (x3 + 2) L) (h3 : vp_in (x3 + 3) L) (h4 : vp_in (x3 + 4) L) (h5 : vp_in (x3 + 5) L) (q1 : Int32 × Mem) (e1 : f_X5_watcher ((xs (x3 + 1).toNatClampNeg)) ((xs (x3 + 2).toNatClampNeg)) σ = some q1) (q2 : Int32 × Mem) (e2 : f_X6_watcher ((xs (x3 + 1).toNatClampNeg)) ((xs (x3 + 2).toNatClampNeg)) μ = some q2) (he : q1.1 = q2.1)
    (kk : ∀ (H : Heap) (locs : List Loc), LWS s G a a2 (q1.2) (q2.2) H locs → W p l e room_1 s m #[Value.ref b] below meth c H locs cells slots Q (F0 m 1561 ls [])) : W p l e room_1 s m #[Value.ref b] below meth c H locs cells slots Q (F0 m 367 ls []) := by
  obtain ⟨C0, hb, hml, hXS, hX, hbl, hj1, hj2, hdis, hA1, hA2⟩ := C
  obtain ⟨hP, hP2, hS⟩ := hLS
  have hx := C0.1
  have hbA : ¬ A0 s b := Nat.not_le.mpr hbl
  refine lv_aload_n hx hb dL_law_367 rfl (lv_at hl 2 rfl) ?_
  refine lv_aload_n hx hb dL_law_368 rfl (lv_at hl 3 rfl) ?_
  refine lv_iload_n hx hb dL_law_369 rfl (lv_at hl 0 rfl) ?_
  refine lv_iconst (v := 1) hx hb dL_law_370 (by decide) ?_
  refine lv_iadd hx hb dL_law_371 ?_
  refine va_sld hx hb hX hbl hbA hS h1 dL_law_372 ?_
  refine lv_aload_n hx hb dL_law_373 rfl (lv_at hl 3 rfl) ?_
  refine lv_iload_n hx hb dL_law_374 rfl (lv_at hl 0 rfl) ?_
  refine lv_iconst (v := 2) hx hb dL_law_375 (by decide) ?_
  refine lv_iadd hx hb dL_law_376 ?_
  refine va_sld hx hb hX hbl hbA hS h2 dL_law_377 ?_
  refine l_cVi (ci := 5) (As := [.int (xs (x3 + 1).toNatClampNeg), .int (xs (x3 + 2).toNatClampNeg)]) (rest := []) C0 hb hml hl.1 hXS wm_L_35 md_X5_watcher (k_X5_watcher l G a σ hj1 ((xs (x3 + 1).toNatClampNeg)) ((xs (x3 + 2).toNatClampNeg)) q1 e1) rfl rfl ⟨(Nat.le_of_ble_eq_true rfl), (Nat.le_of_ble_eq_true rfl)⟩ hP hP2 hS (by decide) hA1 hdis rfl (by decide) rfl rfl rfl (Nat.le_of_ble_eq_true rfl) dL_law_378 hf (fun H locs hP hP2 hS => ?_)
  refine lv_aload_n hx hb dL_law_381 rfl (lv_at hl 1 rfl) ?_
  refine lv_aload_n hx hb dL_law_382 rfl (lv_at hl 3 rfl) ?_
  refine lv_iload_n hx hb dL_law_383 rfl (lv_at hl 0 rfl) ?_
  refine lv_iconst (v := 1) hx hb dL_law_384 (by decide) ?_
  refine lv_iadd hx hb dL_law_385 ?_
  refine va_sld hx hb hX hbl hbA hS h1 dL_law_386 ?_
  refine lv_aload_n hx hb dL_law_387 rfl (lv_at hl 3 rfl) ?_
  refine lv_iload_n hx hb dL_law_388 rfl (lv_at hl 0 rfl) ?_
  refine lv_iconst (v := 2) hx hb dL_law_389 (by decide) ?_
  refine lv_iadd hx hb dL_law_390 ?_
  refine va_sld hx hb hX hbl hbA hS h2 dL_law_391 ?_
  refine l_cVi (ci := 6) (As := [.int (xs (x3 + 1).toNatClampNeg), .int (xs (x3 + 2).toNatClampNeg)]) (rest := [.int q1.1]) C0 hb hml hl.1 hXS wm_L_38 md_X6_watcher (k_X6_watcher l G a2 μ hj2 ((xs (x3 + 1).toNatClampNeg)) ((xs (x3 + 2).toNatClampNeg)) q2 e2) rfl rfl ⟨(Nat.le_of_ble_eq_true rfl), (Nat.le_of_ble_eq_true rfl)⟩ hP2 hP hS (by decide) hA2 hdis.sy rfl (by decide) rfl rfl rfl (Nat.le_of_ble_eq_true rfl) dL_law_392 hf (fun H locs hP2 hP hS => ?_)
  refine lv_icmp_eq (tgt := 1561) hx hb dL_law_395 (by decide) (fun _ => ?_) (fun z => absurd he z)
  exact kk H locs ⟨hP, hP2, hS⟩
set_option maxHeartbeats 4000000 in
set_option maxRecDepth 100000 in
theorem lc_6 {p : Program} {l : Launch} {e : Env} {s : State} {m : MethodId} {below : List Frame} {meth : Method} {c : Code} {H : Heap} {locs : List Loc} {cells slots : Nat} {Q : State → Prop} {ls : Array Slot} {b L : Nat} {xs : Nat → Int32} {G : GG} {a a2 : Nat → Nat} {σ μ : Mem} {x3 : Int32} (C : LC p s m c b L xs G a a2) (hLS : LWS s G a a2 σ μ H locs) (hf : cells ≤ room_1.cells ∧ slots ≤ room_1.slots) (hl : lv_has ls 4 [(3, .int x3), (2, .ref (a2 0)), (1, .ref (a 0)), (0, .ref b)]) (h1 : vp_in (x3 + 1) L) (h2 : vp_in (x3 + 2) L) (h3 : vp_in (x3 + 3) L) (h4 : vp_in (x3 + 4) L) (h5 : vp_in (x3 + 5) L) (q1 : Int32 × Mem) (e1 : f_X5_of ((xs (x3 + 1).toNatClampNeg)) ((xs (x3 + 2).toNatClampNeg)) σ = some q1) (q2 : Int32 × Mem) (e2 : f_X6_of ((xs (x3 + 1).toNatClampNeg)) ((xs (x3 + 2).toNatClampNeg)) μ = some q2) (he : q1.1 = q2.1)
    (kk : ∀ (H : Heap) (locs : List Loc), LWS s G a a2 (q1.2) (q2.2) H locs → W p l e room_1 s m #[Value.ref b] below meth c H locs cells slots Q (F0 m 1561 ls [])) : W p l e room_1 s m #[Value.ref b] below meth c H locs cells slots Q (F0 m 400 ls []) := by
  obtain ⟨C0, hb, hml, hXS, hX, hbl, hj1, hj2, hdis, hA1, hA2⟩ := C
  obtain ⟨hP, hP2, hS⟩ := hLS
  have hx := C0.1
  have hbA : ¬ A0 s b := Nat.not_le.mpr hbl
  refine lv_aload_n hx hb dL_law_400 rfl (lv_at hl 2 rfl) ?_
  refine lv_aload_n hx hb dL_law_401 rfl (lv_at hl 3 rfl) ?_
  refine lv_iload_n hx hb dL_law_402 rfl (lv_at hl 0 rfl) ?_
  refine lv_iconst (v := 1) hx hb dL_law_403 (by decide) ?_
  refine lv_iadd hx hb dL_law_404 ?_
  refine va_sld hx hb hX hbl hbA hS h1 dL_law_405 ?_
  refine lv_aload_n hx hb dL_law_406 rfl (lv_at hl 3 rfl) ?_
  refine lv_iload_n hx hb dL_law_407 rfl (lv_at hl 0 rfl) ?_
  refine lv_iconst (v := 2) hx hb dL_law_408 (by decide) ?_
  refine lv_iadd hx hb dL_law_409 ?_
  refine va_sld hx hb hX hbl hbA hS h2 dL_law_410 ?_
  refine l_cVi (ci := 5) (As := [.int (xs (x3 + 1).toNatClampNeg), .int (xs (x3 + 2).toNatClampNeg)]) (rest := []) C0 hb hml hl.1 hXS wm_L_39 md_X5_of (k_X5_of l G a σ hj1 ((xs (x3 + 1).toNatClampNeg)) ((xs (x3 + 2).toNatClampNeg)) q1 e1) rfl rfl ⟨(Nat.le_of_ble_eq_true rfl), (Nat.le_of_ble_eq_true rfl)⟩ hP hP2 hS (by decide) hA1 hdis rfl (by decide) rfl rfl rfl (Nat.le_of_ble_eq_true rfl) dL_law_411 hf (fun H locs hP hP2 hS => ?_)
  refine lv_aload_n hx hb dL_law_414 rfl (lv_at hl 1 rfl) ?_
  refine lv_aload_n hx hb dL_law_415 rfl (lv_at hl 3 rfl) ?_
  refine lv_iload_n hx hb dL_law_416 rfl (lv_at hl 0 rfl) ?_
  refine lv_iconst (v := 1) hx hb dL_law_417 (by decide) ?_
  refine lv_iadd hx hb dL_law_418 ?_
  refine va_sld hx hb hX hbl hbA hS h1 dL_law_419 ?_
  refine lv_aload_n hx hb dL_law_420 rfl (lv_at hl 3 rfl) ?_
  refine lv_iload_n hx hb dL_law_421 rfl (lv_at hl 0 rfl) ?_
  refine lv_iconst (v := 2) hx hb dL_law_422 (by decide) ?_
  refine lv_iadd hx hb dL_law_423 ?_
  refine va_sld hx hb hX hbl hbA hS h2 dL_law_424 ?_
  refine l_cVi (ci := 6) (As := [.int (xs (x3 + 1).toNatClampNeg), .int (xs (x3 + 2).toNatClampNeg)]) (rest := [.int q1.1]) C0 hb hml hl.1 hXS wm_L_42 md_X6_of (k_X6_of l G a2 μ hj2 ((xs (x3 + 1).toNatClampNeg)) ((xs (x3 + 2).toNatClampNeg)) q2 e2) rfl rfl ⟨(Nat.le_of_ble_eq_true rfl), (Nat.le_of_ble_eq_true rfl)⟩ hP2 hP hS (by decide) hA2 hdis.sy rfl (by decide) rfl rfl rfl (Nat.le_of_ble_eq_true rfl) dL_law_425 hf (fun H locs hP2 hP hS => ?_)
  refine lv_icmp_eq (tgt := 1561) hx hb dL_law_428 (by decide) (fun _ => ?_) (fun z => absurd he z)
  exact kk H locs ⟨hP, hP2, hS⟩
set_option maxHeartbeats 4000000 in
set_option maxRecDepth 100000 in
theorem lc_7 {p : Program} {l : Launch} {e : Env} {s : State} {m : MethodId} {below : List Frame} {meth : Method} {c : Code} {H : Heap} {locs : List Loc} {cells slots : Nat} {Q : State → Prop} {ls : Array Slot} {b L : Nat} {xs : Nat → Int32} {G : GG} {a a2 : Nat → Nat} {σ μ : Mem} {x3 : Int32} (C : LC p s m c b L xs G a a2) (hLS : LWS s G a a2 σ μ H locs) (hf : cells ≤ room_1.cells ∧ slots ≤ room_1.slots) (hl : lv_has ls 4 [(3, .int x3), (2, .ref (a2 0)), (1, .ref (a 0)), (0, .ref b)]) (h1 : vp_in (x3 + 1) L) (h2 : vp_in (x3 + 2) L) (h3 : vp_in (x3 + 3) L) (h4 : vp_in (x3 + 4) L) (h5 : vp_in (x3 + 5) L) (q1 : Int32 × Mem) (e1 : f_X5_change ((xs (x3 + 1).toNatClampNeg)) ((xs (x3 + 2).toNatClampNeg)) ((xs (x3 + 3).toNatClampNeg)) σ = some q1) (q2 : Int32 × Mem) (e2 : f_X6_change ((xs (x3 + 1).toNatClampNeg)) ((xs (x3 + 2).toNatClampNeg)) ((xs (x3 + 3).toNatClampNeg)) μ = some q2) (he : q1.1 = q2.1)
    (kk : ∀ (H : Heap) (locs : List Loc), LWS s G a a2 (q1.2) (q2.2) H locs → W p l e room_1 s m #[Value.ref b] below meth c H locs cells slots Q (F0 m 1561 ls [])) : W p l e room_1 s m #[Value.ref b] below meth c H locs cells slots Q (F0 m 433 ls []) := by
  obtain ⟨C0, hb, hml, hXS, hX, hbl, hj1, hj2, hdis, hA1, hA2⟩ := C
  obtain ⟨hP, hP2, hS⟩ := hLS
  have hx := C0.1
  have hbA : ¬ A0 s b := Nat.not_le.mpr hbl
  refine lv_aload_n hx hb dL_law_433 rfl (lv_at hl 2 rfl) ?_
  refine lv_aload_n hx hb dL_law_434 rfl (lv_at hl 3 rfl) ?_
  refine lv_iload_n hx hb dL_law_435 rfl (lv_at hl 0 rfl) ?_
  refine lv_iconst (v := 1) hx hb dL_law_436 (by decide) ?_
  refine lv_iadd hx hb dL_law_437 ?_
  refine va_sld hx hb hX hbl hbA hS h1 dL_law_438 ?_
  refine lv_aload_n hx hb dL_law_439 rfl (lv_at hl 3 rfl) ?_
  refine lv_iload_n hx hb dL_law_440 rfl (lv_at hl 0 rfl) ?_
  refine lv_iconst (v := 2) hx hb dL_law_441 (by decide) ?_
  refine lv_iadd hx hb dL_law_442 ?_
  refine va_sld hx hb hX hbl hbA hS h2 dL_law_443 ?_
  refine lv_aload_n hx hb dL_law_444 rfl (lv_at hl 3 rfl) ?_
  refine lv_iload_n hx hb dL_law_445 rfl (lv_at hl 0 rfl) ?_
  refine lv_iconst (v := 3) hx hb dL_law_446 (by decide) ?_
  refine lv_iadd hx hb dL_law_447 ?_
  refine va_sld hx hb hX hbl hbA hS h3 dL_law_448 ?_
  refine l_cVi (ci := 5) (As := [.int (xs (x3 + 1).toNatClampNeg), .int (xs (x3 + 2).toNatClampNeg), .int (xs (x3 + 3).toNatClampNeg)]) (rest := []) C0 hb hml hl.1 hXS wm_L_43 md_X5_change (k_X5_change l G a σ hj1 ((xs (x3 + 1).toNatClampNeg)) ((xs (x3 + 2).toNatClampNeg)) ((xs (x3 + 3).toNatClampNeg)) q1 e1) rfl rfl ⟨(Nat.le_of_ble_eq_true rfl), (Nat.le_of_ble_eq_true rfl)⟩ hP hP2 hS (by decide) hA1 hdis rfl (by decide) rfl rfl rfl (Nat.le_of_ble_eq_true rfl) dL_law_449 hf (fun H locs hP hP2 hS => ?_)
  refine lv_aload_n hx hb dL_law_452 rfl (lv_at hl 1 rfl) ?_
  refine lv_aload_n hx hb dL_law_453 rfl (lv_at hl 3 rfl) ?_
  refine lv_iload_n hx hb dL_law_454 rfl (lv_at hl 0 rfl) ?_
  refine lv_iconst (v := 1) hx hb dL_law_455 (by decide) ?_
  refine lv_iadd hx hb dL_law_456 ?_
  refine va_sld hx hb hX hbl hbA hS h1 dL_law_457 ?_
  refine lv_aload_n hx hb dL_law_458 rfl (lv_at hl 3 rfl) ?_
  refine lv_iload_n hx hb dL_law_459 rfl (lv_at hl 0 rfl) ?_
  refine lv_iconst (v := 2) hx hb dL_law_460 (by decide) ?_
  refine lv_iadd hx hb dL_law_461 ?_
  refine va_sld hx hb hX hbl hbA hS h2 dL_law_462 ?_
  refine lv_aload_n hx hb dL_law_463 rfl (lv_at hl 3 rfl) ?_
  refine lv_iload_n hx hb dL_law_464 rfl (lv_at hl 0 rfl) ?_
  refine lv_iconst (v := 3) hx hb dL_law_465 (by decide) ?_
  refine lv_iadd hx hb dL_law_466 ?_
  refine va_sld hx hb hX hbl hbA hS h3 dL_law_467 ?_
  refine l_cVi (ci := 6) (As := [.int (xs (x3 + 1).toNatClampNeg), .int (xs (x3 + 2).toNatClampNeg), .int (xs (x3 + 3).toNatClampNeg)]) (rest := [.int q1.1]) C0 hb hml hl.1 hXS wm_L_47 md_X6_change (k_X6_change l G a2 μ hj2 ((xs (x3 + 1).toNatClampNeg)) ((xs (x3 + 2).toNatClampNeg)) ((xs (x3 + 3).toNatClampNeg)) q2 e2) rfl rfl ⟨(Nat.le_of_ble_eq_true rfl), (Nat.le_of_ble_eq_true rfl)⟩ hP2 hP hS (by decide) hA2 hdis.sy rfl (by decide) rfl rfl rfl (Nat.le_of_ble_eq_true rfl) dL_law_468 hf (fun H locs hP2 hP hS => ?_)
  refine lv_icmp_eq (tgt := 1561) hx hb dL_law_471 (by decide) (fun _ => ?_) (fun z => absurd he z)
  exact kk H locs ⟨hP, hP2, hS⟩
set_option maxHeartbeats 4000000 in
set_option maxRecDepth 100000 in
theorem lc_8 {p : Program} {l : Launch} {e : Env} {s : State} {m : MethodId} {below : List Frame} {meth : Method} {c : Code} {H : Heap} {locs : List Loc} {cells slots : Nat} {Q : State → Prop} {ls : Array Slot} {b L : Nat} {xs : Nat → Int32} {G : GG} {a a2 : Nat → Nat} {σ μ : Mem} {x3 : Int32} (C : LC p s m c b L xs G a a2) (hLS : LWS s G a a2 σ μ H locs) (hf : cells ≤ room_1.cells ∧ slots ≤ room_1.slots) (hl : lv_has ls 4 [(3, .int x3), (2, .ref (a2 0)), (1, .ref (a 0)), (0, .ref b)]) (h1 : vp_in (x3 + 1) L) (h2 : vp_in (x3 + 2) L) (h3 : vp_in (x3 + 3) L) (h4 : vp_in (x3 + 4) L) (h5 : vp_in (x3 + 5) L) (q1 : Int32 × Mem) (e1 : f_X5_go ((xs (x3 + 1).toNatClampNeg)) σ = some q1) (q2 : Int32 × Mem) (e2 : f_X6_go ((xs (x3 + 1).toNatClampNeg)) μ = some q2) (he : q1.1 = q2.1)
    (kk : ∀ (H : Heap) (locs : List Loc), LWS s G a a2 (q1.2) (q2.2) H locs → W p l e room_1 s m #[Value.ref b] below meth c H locs cells slots Q (F0 m 1561 ls [])) : W p l e room_1 s m #[Value.ref b] below meth c H locs cells slots Q (F0 m 476 ls []) := by
  obtain ⟨C0, hb, hml, hXS, hX, hbl, hj1, hj2, hdis, hA1, hA2⟩ := C
  obtain ⟨hP, hP2, hS⟩ := hLS
  have hx := C0.1
  have hbA : ¬ A0 s b := Nat.not_le.mpr hbl
  refine lv_aload_n hx hb dL_law_476 rfl (lv_at hl 2 rfl) ?_
  refine lv_aload_n hx hb dL_law_477 rfl (lv_at hl 3 rfl) ?_
  refine lv_iload_n hx hb dL_law_478 rfl (lv_at hl 0 rfl) ?_
  refine lv_iconst (v := 1) hx hb dL_law_479 (by decide) ?_
  refine lv_iadd hx hb dL_law_480 ?_
  refine va_sld hx hb hX hbl hbA hS h1 dL_law_481 ?_
  refine l_cVi (ci := 5) (As := [.int (xs (x3 + 1).toNatClampNeg)]) (rest := []) C0 hb hml hl.1 hXS wm_L_48 md_X5_go (k_X5_go l G a σ hj1 ((xs (x3 + 1).toNatClampNeg)) q1 e1) rfl rfl ⟨(Nat.le_of_ble_eq_true rfl), (Nat.le_of_ble_eq_true rfl)⟩ hP hP2 hS (by decide) hA1 hdis rfl (by decide) rfl rfl rfl (Nat.le_of_ble_eq_true rfl) dL_law_482 hf (fun H locs hP hP2 hS => ?_)
  refine lv_aload_n hx hb dL_law_485 rfl (lv_at hl 1 rfl) ?_
  refine lv_aload_n hx hb dL_law_486 rfl (lv_at hl 3 rfl) ?_
  refine lv_iload_n hx hb dL_law_487 rfl (lv_at hl 0 rfl) ?_
  refine lv_iconst (v := 1) hx hb dL_law_488 (by decide) ?_
  refine lv_iadd hx hb dL_law_489 ?_
  refine va_sld hx hb hX hbl hbA hS h1 dL_law_490 ?_
  refine l_cVi (ci := 6) (As := [.int (xs (x3 + 1).toNatClampNeg)]) (rest := [.int q1.1]) C0 hb hml hl.1 hXS wm_L_51 md_X6_go (k_X6_go l G a2 μ hj2 ((xs (x3 + 1).toNatClampNeg)) q2 e2) rfl rfl ⟨(Nat.le_of_ble_eq_true rfl), (Nat.le_of_ble_eq_true rfl)⟩ hP2 hP hS (by decide) hA2 hdis.sy rfl (by decide) rfl rfl rfl (Nat.le_of_ble_eq_true rfl) dL_law_491 hf (fun H locs hP2 hP hS => ?_)
  refine lv_icmp_eq (tgt := 1561) hx hb dL_law_494 (by decide) (fun _ => ?_) (fun z => absurd he z)
  exact kk H locs ⟨hP, hP2, hS⟩
set_option maxHeartbeats 4000000 in
set_option maxRecDepth 100000 in
theorem lc_9 {p : Program} {l : Launch} {e : Env} {s : State} {m : MethodId} {below : List Frame} {meth : Method} {c : Code} {H : Heap} {locs : List Loc} {cells slots : Nat} {Q : State → Prop} {ls : Array Slot} {b L : Nat} {xs : Nat → Int32} {G : GG} {a a2 : Nat → Nat} {σ μ : Mem} {x3 : Int32} (C : LC p s m c b L xs G a a2) (hLS : LWS s G a a2 σ μ H locs) (hf : cells ≤ room_1.cells ∧ slots ≤ room_1.slots) (hl : lv_has ls 4 [(3, .int x3), (2, .ref (a2 0)), (1, .ref (a 0)), (0, .ref b)]) (h1 : vp_in (x3 + 1) L) (h2 : vp_in (x3 + 2) L) (h3 : vp_in (x3 + 3) L) (h4 : vp_in (x3 + 4) L) (h5 : vp_in (x3 + 5) L) (q1 : Int32 × Mem) (e1 : f_X5_now ((xs (x3 + 1).toNatClampNeg)) σ = some q1) (q2 : Int32 × Mem) (e2 : f_X6_now ((xs (x3 + 1).toNatClampNeg)) μ = some q2) (he : q1.1 = q2.1)
    (kk : ∀ (H : Heap) (locs : List Loc), LWS s G a a2 (q1.2) (q2.2) H locs → W p l e room_1 s m #[Value.ref b] below meth c H locs cells slots Q (F0 m 1561 ls [])) : W p l e room_1 s m #[Value.ref b] below meth c H locs cells slots Q (F0 m 499 ls []) := by
  obtain ⟨C0, hb, hml, hXS, hX, hbl, hj1, hj2, hdis, hA1, hA2⟩ := C
  obtain ⟨hP, hP2, hS⟩ := hLS
  have hx := C0.1
  have hbA : ¬ A0 s b := Nat.not_le.mpr hbl
  refine lv_aload_n hx hb dL_law_499 rfl (lv_at hl 2 rfl) ?_
  refine lv_aload_n hx hb dL_law_500 rfl (lv_at hl 3 rfl) ?_
  refine lv_iload_n hx hb dL_law_501 rfl (lv_at hl 0 rfl) ?_
  refine lv_iconst (v := 1) hx hb dL_law_502 (by decide) ?_
  refine lv_iadd hx hb dL_law_503 ?_
  refine va_sld hx hb hX hbl hbA hS h1 dL_law_504 ?_
  refine l_cVi (ci := 5) (As := [.int (xs (x3 + 1).toNatClampNeg)]) (rest := []) C0 hb hml hl.1 hXS wm_L_52 md_X5_now (k_X5_now l G a σ hj1 ((xs (x3 + 1).toNatClampNeg)) q1 e1) rfl rfl ⟨(Nat.le_of_ble_eq_true rfl), (Nat.le_of_ble_eq_true rfl)⟩ hP hP2 hS (by decide) hA1 hdis rfl (by decide) rfl rfl rfl (Nat.le_of_ble_eq_true rfl) dL_law_505 hf (fun H locs hP hP2 hS => ?_)
  refine lv_aload_n hx hb dL_law_508 rfl (lv_at hl 1 rfl) ?_
  refine lv_aload_n hx hb dL_law_509 rfl (lv_at hl 3 rfl) ?_
  refine lv_iload_n hx hb dL_law_510 rfl (lv_at hl 0 rfl) ?_
  refine lv_iconst (v := 1) hx hb dL_law_511 (by decide) ?_
  refine lv_iadd hx hb dL_law_512 ?_
  refine va_sld hx hb hX hbl hbA hS h1 dL_law_513 ?_
  refine l_cVi (ci := 6) (As := [.int (xs (x3 + 1).toNatClampNeg)]) (rest := [.int q1.1]) C0 hb hml hl.1 hXS wm_L_55 md_X6_now (k_X6_now l G a2 μ hj2 ((xs (x3 + 1).toNatClampNeg)) q2 e2) rfl rfl ⟨(Nat.le_of_ble_eq_true rfl), (Nat.le_of_ble_eq_true rfl)⟩ hP2 hP hS (by decide) hA2 hdis.sy rfl (by decide) rfl rfl rfl (Nat.le_of_ble_eq_true rfl) dL_law_514 hf (fun H locs hP2 hP hS => ?_)
  refine lv_icmp_eq (tgt := 1561) hx hb dL_law_517 (by decide) (fun _ => ?_) (fun z => absurd he z)
  exact kk H locs ⟨hP, hP2, hS⟩
set_option maxHeartbeats 4000000 in
set_option maxRecDepth 100000 in
theorem lc_10 {p : Program} {l : Launch} {e : Env} {s : State} {m : MethodId} {below : List Frame} {meth : Method} {c : Code} {H : Heap} {locs : List Loc} {cells slots : Nat} {Q : State → Prop} {ls : Array Slot} {b L : Nat} {xs : Nat → Int32} {G : GG} {a a2 : Nat → Nat} {σ μ : Mem} {x3 : Int32} (C : LC p s m c b L xs G a a2) (hLS : LWS s G a a2 σ μ H locs) (hf : cells ≤ room_1.cells ∧ slots ≤ room_1.slots) (hl : lv_has ls 4 [(3, .int x3), (2, .ref (a2 0)), (1, .ref (a 0)), (0, .ref b)]) (h1 : vp_in (x3 + 1) L) (h2 : vp_in (x3 + 2) L) (h3 : vp_in (x3 + 3) L) (h4 : vp_in (x3 + 4) L) (h5 : vp_in (x3 + 5) L) (q1 : Int32 × Mem) (e1 : f_X5_ahead ((xs (x3 + 1).toNatClampNeg)) ((xs (x3 + 2).toNatClampNeg)) σ = some q1) (q2 : Int32 × Mem) (e2 : f_X6_ahead ((xs (x3 + 1).toNatClampNeg)) ((xs (x3 + 2).toNatClampNeg)) μ = some q2) (he : q1.1 = q2.1)
    (kk : ∀ (H : Heap) (locs : List Loc), LWS s G a a2 (q1.2) (q2.2) H locs → W p l e room_1 s m #[Value.ref b] below meth c H locs cells slots Q (F0 m 1561 ls [])) : W p l e room_1 s m #[Value.ref b] below meth c H locs cells slots Q (F0 m 522 ls []) := by
  obtain ⟨C0, hb, hml, hXS, hX, hbl, hj1, hj2, hdis, hA1, hA2⟩ := C
  obtain ⟨hP, hP2, hS⟩ := hLS
  have hx := C0.1
  have hbA : ¬ A0 s b := Nat.not_le.mpr hbl
  refine lv_aload_n hx hb dL_law_522 rfl (lv_at hl 2 rfl) ?_
  refine lv_aload_n hx hb dL_law_523 rfl (lv_at hl 3 rfl) ?_
  refine lv_iload_n hx hb dL_law_524 rfl (lv_at hl 0 rfl) ?_
  refine lv_iconst (v := 1) hx hb dL_law_525 (by decide) ?_
  refine lv_iadd hx hb dL_law_526 ?_
  refine va_sld hx hb hX hbl hbA hS h1 dL_law_527 ?_
  refine lv_aload_n hx hb dL_law_528 rfl (lv_at hl 3 rfl) ?_
  refine lv_iload_n hx hb dL_law_529 rfl (lv_at hl 0 rfl) ?_
  refine lv_iconst (v := 2) hx hb dL_law_530 (by decide) ?_
  refine lv_iadd hx hb dL_law_531 ?_
  refine va_sld hx hb hX hbl hbA hS h2 dL_law_532 ?_
  refine l_cVi (ci := 5) (As := [.int (xs (x3 + 1).toNatClampNeg), .int (xs (x3 + 2).toNatClampNeg)]) (rest := []) C0 hb hml hl.1 hXS wm_L_56 md_X5_ahead (k_X5_ahead l G a σ hj1 ((xs (x3 + 1).toNatClampNeg)) ((xs (x3 + 2).toNatClampNeg)) q1 e1) rfl rfl ⟨(Nat.le_of_ble_eq_true rfl), (Nat.le_of_ble_eq_true rfl)⟩ hP hP2 hS (by decide) hA1 hdis rfl (by decide) rfl rfl rfl (Nat.le_of_ble_eq_true rfl) dL_law_533 hf (fun H locs hP hP2 hS => ?_)
  refine lv_aload_n hx hb dL_law_536 rfl (lv_at hl 1 rfl) ?_
  refine lv_aload_n hx hb dL_law_537 rfl (lv_at hl 3 rfl) ?_
  refine lv_iload_n hx hb dL_law_538 rfl (lv_at hl 0 rfl) ?_
  refine lv_iconst (v := 1) hx hb dL_law_539 (by decide) ?_
  refine lv_iadd hx hb dL_law_540 ?_
  refine va_sld hx hb hX hbl hbA hS h1 dL_law_541 ?_
  refine lv_aload_n hx hb dL_law_542 rfl (lv_at hl 3 rfl) ?_
  refine lv_iload_n hx hb dL_law_543 rfl (lv_at hl 0 rfl) ?_
  refine lv_iconst (v := 2) hx hb dL_law_544 (by decide) ?_
  refine lv_iadd hx hb dL_law_545 ?_
  refine va_sld hx hb hX hbl hbA hS h2 dL_law_546 ?_
  refine l_cVi (ci := 6) (As := [.int (xs (x3 + 1).toNatClampNeg), .int (xs (x3 + 2).toNatClampNeg)]) (rest := [.int q1.1]) C0 hb hml hl.1 hXS wm_L_59 md_X6_ahead (k_X6_ahead l G a2 μ hj2 ((xs (x3 + 1).toNatClampNeg)) ((xs (x3 + 2).toNatClampNeg)) q2 e2) rfl rfl ⟨(Nat.le_of_ble_eq_true rfl), (Nat.le_of_ble_eq_true rfl)⟩ hP2 hP hS (by decide) hA2 hdis.sy rfl (by decide) rfl rfl rfl (Nat.le_of_ble_eq_true rfl) dL_law_547 hf (fun H locs hP2 hP hS => ?_)
  refine lv_icmp_eq (tgt := 1561) hx hb dL_law_550 (by decide) (fun _ => ?_) (fun z => absurd he z)
  exact kk H locs ⟨hP, hP2, hS⟩
set_option maxHeartbeats 4000000 in
set_option maxRecDepth 100000 in
theorem lc_11 {p : Program} {l : Launch} {e : Env} {s : State} {m : MethodId} {below : List Frame} {meth : Method} {c : Code} {H : Heap} {locs : List Loc} {cells slots : Nat} {Q : State → Prop} {ls : Array Slot} {b L : Nat} {xs : Nat → Int32} {G : GG} {a a2 : Nat → Nat} {σ μ : Mem} {x3 : Int32} (C : LC p s m c b L xs G a a2) (hLS : LWS s G a a2 σ μ H locs) (hf : cells ≤ room_1.cells ∧ slots ≤ room_1.slots) (hl : lv_has ls 4 [(3, .int x3), (2, .ref (a2 0)), (1, .ref (a 0)), (0, .ref b)]) (h1 : vp_in (x3 + 1) L) (h2 : vp_in (x3 + 2) L) (h3 : vp_in (x3 + 3) L) (h4 : vp_in (x3 + 4) L) (h5 : vp_in (x3 + 5) L) (q1 : Int32 × Mem) (e1 : f_X5_belief ((xs (x3 + 1).toNatClampNeg)) ((xs (x3 + 2).toNatClampNeg)) ((xs (x3 + 3).toNatClampNeg)) σ = some q1) (q2 : Int32 × Mem) (e2 : f_X6_belief ((xs (x3 + 1).toNatClampNeg)) ((xs (x3 + 2).toNatClampNeg)) ((xs (x3 + 3).toNatClampNeg)) μ = some q2) (he : q1.1 = q2.1)
    (kk : ∀ (H : Heap) (locs : List Loc), LWS s G a a2 (q1.2) (q2.2) H locs → W p l e room_1 s m #[Value.ref b] below meth c H locs cells slots Q (F0 m 1561 ls [])) : W p l e room_1 s m #[Value.ref b] below meth c H locs cells slots Q (F0 m 555 ls []) := by
  obtain ⟨C0, hb, hml, hXS, hX, hbl, hj1, hj2, hdis, hA1, hA2⟩ := C
  obtain ⟨hP, hP2, hS⟩ := hLS
  have hx := C0.1
  have hbA : ¬ A0 s b := Nat.not_le.mpr hbl
  refine lv_aload_n hx hb dL_law_555 rfl (lv_at hl 2 rfl) ?_
  refine lv_aload_n hx hb dL_law_556 rfl (lv_at hl 3 rfl) ?_
  refine lv_iload_n hx hb dL_law_557 rfl (lv_at hl 0 rfl) ?_
  refine lv_iconst (v := 1) hx hb dL_law_558 (by decide) ?_
  refine lv_iadd hx hb dL_law_559 ?_
  refine va_sld hx hb hX hbl hbA hS h1 dL_law_560 ?_
  refine lv_aload_n hx hb dL_law_561 rfl (lv_at hl 3 rfl) ?_
  refine lv_iload_n hx hb dL_law_562 rfl (lv_at hl 0 rfl) ?_
  refine lv_iconst (v := 2) hx hb dL_law_563 (by decide) ?_
  refine lv_iadd hx hb dL_law_564 ?_
  refine va_sld hx hb hX hbl hbA hS h2 dL_law_565 ?_
  refine lv_aload_n hx hb dL_law_566 rfl (lv_at hl 3 rfl) ?_
  refine lv_iload_n hx hb dL_law_567 rfl (lv_at hl 0 rfl) ?_
  refine lv_iconst (v := 3) hx hb dL_law_568 (by decide) ?_
  refine lv_iadd hx hb dL_law_569 ?_
  refine va_sld hx hb hX hbl hbA hS h3 dL_law_570 ?_
  refine l_cVi (ci := 5) (As := [.int (xs (x3 + 1).toNatClampNeg), .int (xs (x3 + 2).toNatClampNeg), .int (xs (x3 + 3).toNatClampNeg)]) (rest := []) C0 hb hml hl.1 hXS wm_L_60 md_X5_belief (k_X5_belief l G a σ hj1 ((xs (x3 + 1).toNatClampNeg)) ((xs (x3 + 2).toNatClampNeg)) ((xs (x3 + 3).toNatClampNeg)) q1 e1) rfl rfl ⟨(Nat.le_of_ble_eq_true rfl), (Nat.le_of_ble_eq_true rfl)⟩ hP hP2 hS (by decide) hA1 hdis rfl (by decide) rfl rfl rfl (Nat.le_of_ble_eq_true rfl) dL_law_571 hf (fun H locs hP hP2 hS => ?_)
  refine lv_aload_n hx hb dL_law_574 rfl (lv_at hl 1 rfl) ?_
  refine lv_aload_n hx hb dL_law_575 rfl (lv_at hl 3 rfl) ?_
  refine lv_iload_n hx hb dL_law_576 rfl (lv_at hl 0 rfl) ?_
  refine lv_iconst (v := 1) hx hb dL_law_577 (by decide) ?_
  refine lv_iadd hx hb dL_law_578 ?_
  refine va_sld hx hb hX hbl hbA hS h1 dL_law_579 ?_
  refine lv_aload_n hx hb dL_law_580 rfl (lv_at hl 3 rfl) ?_
  refine lv_iload_n hx hb dL_law_581 rfl (lv_at hl 0 rfl) ?_
  refine lv_iconst (v := 2) hx hb dL_law_582 (by decide) ?_
  refine lv_iadd hx hb dL_law_583 ?_
  refine va_sld hx hb hX hbl hbA hS h2 dL_law_584 ?_
  refine lv_aload_n hx hb dL_law_585 rfl (lv_at hl 3 rfl) ?_
  refine lv_iload_n hx hb dL_law_586 rfl (lv_at hl 0 rfl) ?_
  refine lv_iconst (v := 3) hx hb dL_law_587 (by decide) ?_
  refine lv_iadd hx hb dL_law_588 ?_
  refine va_sld hx hb hX hbl hbA hS h3 dL_law_589 ?_
  refine l_cVi (ci := 6) (As := [.int (xs (x3 + 1).toNatClampNeg), .int (xs (x3 + 2).toNatClampNeg), .int (xs (x3 + 3).toNatClampNeg)]) (rest := [.int q1.1]) C0 hb hml hl.1 hXS wm_L_63 md_X6_belief (k_X6_belief l G a2 μ hj2 ((xs (x3 + 1).toNatClampNeg)) ((xs (x3 + 2).toNatClampNeg)) ((xs (x3 + 3).toNatClampNeg)) q2 e2) rfl rfl ⟨(Nat.le_of_ble_eq_true rfl), (Nat.le_of_ble_eq_true rfl)⟩ hP2 hP hS (by decide) hA2 hdis.sy rfl (by decide) rfl rfl rfl (Nat.le_of_ble_eq_true rfl) dL_law_590 hf (fun H locs hP2 hP hS => ?_)
  refine lv_icmp_eq (tgt := 1561) hx hb dL_law_593 (by decide) (fun _ => ?_) (fun z => absurd he z)
  exact kk H locs ⟨hP, hP2, hS⟩
set_option maxHeartbeats 4000000 in
set_option maxRecDepth 100000 in
theorem lc_12 {p : Program} {l : Launch} {e : Env} {s : State} {m : MethodId} {below : List Frame} {meth : Method} {c : Code} {H : Heap} {locs : List Loc} {cells slots : Nat} {Q : State → Prop} {ls : Array Slot} {b L : Nat} {xs : Nat → Int32} {G : GG} {a a2 : Nat → Nat} {σ μ : Mem} {x3 : Int32} (C : LC p s m c b L xs G a a2) (hLS : LWS s G a a2 σ μ H locs) (hf : cells ≤ room_1.cells ∧ slots ≤ room_1.slots) (hl : lv_has ls 4 [(3, .int x3), (2, .ref (a2 0)), (1, .ref (a 0)), (0, .ref b)]) (h1 : vp_in (x3 + 1) L) (h2 : vp_in (x3 + 2) L) (h3 : vp_in (x3 + 3) L) (h4 : vp_in (x3 + 4) L) (h5 : vp_in (x3 + 5) L) (q1 : Int32 × Mem) (e1 : f_X5_when ((xs (x3 + 1).toNatClampNeg)) σ = some q1) (q2 : Int32 × Mem) (e2 : f_X6_when ((xs (x3 + 1).toNatClampNeg)) μ = some q2) (he : q1.1 = q2.1)
    (kk : ∀ (H : Heap) (locs : List Loc), LWS s G a a2 (q1.2) (q2.2) H locs → W p l e room_1 s m #[Value.ref b] below meth c H locs cells slots Q (F0 m 1561 ls [])) : W p l e room_1 s m #[Value.ref b] below meth c H locs cells slots Q (F0 m 598 ls []) := by
  obtain ⟨C0, hb, hml, hXS, hX, hbl, hj1, hj2, hdis, hA1, hA2⟩ := C
  obtain ⟨hP, hP2, hS⟩ := hLS
  have hx := C0.1
  have hbA : ¬ A0 s b := Nat.not_le.mpr hbl
  refine lv_aload_n hx hb dL_law_598 rfl (lv_at hl 2 rfl) ?_
  refine lv_aload_n hx hb dL_law_599 rfl (lv_at hl 3 rfl) ?_
  refine lv_iload_n hx hb dL_law_600 rfl (lv_at hl 0 rfl) ?_
  refine lv_iconst (v := 1) hx hb dL_law_601 (by decide) ?_
  refine lv_iadd hx hb dL_law_602 ?_
  refine va_sld hx hb hX hbl hbA hS h1 dL_law_603 ?_
  refine l_cVi (ci := 5) (As := [.int (xs (x3 + 1).toNatClampNeg)]) (rest := []) C0 hb hml hl.1 hXS wm_L_64 md_X5_when (k_X5_when l G a σ hj1 ((xs (x3 + 1).toNatClampNeg)) q1 e1) rfl rfl ⟨(Nat.le_of_ble_eq_true rfl), (Nat.le_of_ble_eq_true rfl)⟩ hP hP2 hS (by decide) hA1 hdis rfl (by decide) rfl rfl rfl (Nat.le_of_ble_eq_true rfl) dL_law_604 hf (fun H locs hP hP2 hS => ?_)
  refine lv_aload_n hx hb dL_law_607 rfl (lv_at hl 1 rfl) ?_
  refine lv_aload_n hx hb dL_law_608 rfl (lv_at hl 3 rfl) ?_
  refine lv_iload_n hx hb dL_law_609 rfl (lv_at hl 0 rfl) ?_
  refine lv_iconst (v := 1) hx hb dL_law_610 (by decide) ?_
  refine lv_iadd hx hb dL_law_611 ?_
  refine va_sld hx hb hX hbl hbA hS h1 dL_law_612 ?_
  refine l_cVi (ci := 6) (As := [.int (xs (x3 + 1).toNatClampNeg)]) (rest := [.int q1.1]) C0 hb hml hl.1 hXS wm_L_67 md_X6_when (k_X6_when l G a2 μ hj2 ((xs (x3 + 1).toNatClampNeg)) q2 e2) rfl rfl ⟨(Nat.le_of_ble_eq_true rfl), (Nat.le_of_ble_eq_true rfl)⟩ hP2 hP hS (by decide) hA2 hdis.sy rfl (by decide) rfl rfl rfl (Nat.le_of_ble_eq_true rfl) dL_law_613 hf (fun H locs hP2 hP hS => ?_)
  refine lv_icmp_eq (tgt := 1561) hx hb dL_law_616 (by decide) (fun _ => ?_) (fun z => absurd he z)
  exact kk H locs ⟨hP, hP2, hS⟩
set_option maxHeartbeats 4000000 in
set_option maxRecDepth 100000 in
theorem lc_13 {p : Program} {l : Launch} {e : Env} {s : State} {m : MethodId} {below : List Frame} {meth : Method} {c : Code} {H : Heap} {locs : List Loc} {cells slots : Nat} {Q : State → Prop} {ls : Array Slot} {b L : Nat} {xs : Nat → Int32} {G : GG} {a a2 : Nat → Nat} {σ μ : Mem} {x3 : Int32} (C : LC p s m c b L xs G a a2) (hLS : LWS s G a a2 σ μ H locs) (hf : cells ≤ room_1.cells ∧ slots ≤ room_1.slots) (hl : lv_has ls 4 [(3, .int x3), (2, .ref (a2 0)), (1, .ref (a 0)), (0, .ref b)]) (h1 : vp_in (x3 + 1) L) (h2 : vp_in (x3 + 2) L) (h3 : vp_in (x3 + 3) L) (h4 : vp_in (x3 + 4) L) (h5 : vp_in (x3 + 5) L) (q1 : Int32 × Mem) (e1 : f_X5_first σ = some q1) (q2 : Int32 × Mem) (e2 : f_X6_first μ = some q2) (he : q1.1 = q2.1)
    (kk : ∀ (H : Heap) (locs : List Loc), LWS s G a a2 (q1.2) (q2.2) H locs → W p l e room_1 s m #[Value.ref b] below meth c H locs cells slots Q (F0 m 1561 ls [])) : W p l e room_1 s m #[Value.ref b] below meth c H locs cells slots Q (F0 m 621 ls []) := by
  obtain ⟨C0, hb, hml, hXS, hX, hbl, hj1, hj2, hdis, hA1, hA2⟩ := C
  obtain ⟨hP, hP2, hS⟩ := hLS
  have hx := C0.1
  have hbA : ¬ A0 s b := Nat.not_le.mpr hbl
  refine lv_aload_n hx hb dL_law_621 rfl (lv_at hl 2 rfl) ?_
  refine l_cVi (ci := 5) (As := []) (rest := []) C0 hb hml hl.1 hXS wm_L_68 md_X5_first (k_X5_first l G a σ hj1  q1 e1) rfl rfl ⟨(Nat.le_of_ble_eq_true rfl), (Nat.le_of_ble_eq_true rfl)⟩ hP hP2 hS (by decide) hA1 hdis rfl (by decide) rfl rfl rfl (Nat.le_of_ble_eq_true rfl) dL_law_622 hf (fun H locs hP hP2 hS => ?_)
  refine lv_aload_n hx hb dL_law_625 rfl (lv_at hl 1 rfl) ?_
  refine l_cVi (ci := 6) (As := []) (rest := [.int q1.1]) C0 hb hml hl.1 hXS wm_L_72 md_X6_first (k_X6_first l G a2 μ hj2  q2 e2) rfl rfl ⟨(Nat.le_of_ble_eq_true rfl), (Nat.le_of_ble_eq_true rfl)⟩ hP2 hP hS (by decide) hA2 hdis.sy rfl (by decide) rfl rfl rfl (Nat.le_of_ble_eq_true rfl) dL_law_626 hf (fun H locs hP2 hP hS => ?_)
  refine lv_icmp_eq (tgt := 1561) hx hb dL_law_629 (by decide) (fun _ => ?_) (fun z => absurd he z)
  exact kk H locs ⟨hP, hP2, hS⟩
set_option maxHeartbeats 4000000 in
set_option maxRecDepth 100000 in
theorem lc_14 {p : Program} {l : Launch} {e : Env} {s : State} {m : MethodId} {below : List Frame} {meth : Method} {c : Code} {H : Heap} {locs : List Loc} {cells slots : Nat} {Q : State → Prop} {ls : Array Slot} {b L : Nat} {xs : Nat → Int32} {G : GG} {a a2 : Nat → Nat} {σ μ : Mem} {x3 : Int32} (C : LC p s m c b L xs G a a2) (hLS : LWS s G a a2 σ μ H locs) (hf : cells ≤ room_1.cells ∧ slots ≤ room_1.slots) (hl : lv_has ls 4 [(3, .int x3), (2, .ref (a2 0)), (1, .ref (a 0)), (0, .ref b)]) (h1 : vp_in (x3 + 1) L) (h2 : vp_in (x3 + 2) L) (h3 : vp_in (x3 + 3) L) (h4 : vp_in (x3 + 4) L) (h5 : vp_in (x3 + 5) L) (q1 : Int32 × Mem) (e1 : f_X5_reaches ((xs (x3 + 1).toNatClampNeg)) ((xs (x3 + 2).toNatClampNeg)) σ = some q1) (q2 : Int32 × Mem) (e2 : f_X6_reaches ((xs (x3 + 1).toNatClampNeg)) ((xs (x3 + 2).toNatClampNeg)) μ = some q2) (he : q1.1 = q2.1)
    (kk : ∀ (H : Heap) (locs : List Loc), LWS s G a a2 (q1.2) (q2.2) H locs → W p l e room_1 s m #[Value.ref b] below meth c H locs cells slots Q (F0 m 1561 ls [])) : W p l e room_1 s m #[Value.ref b] below meth c H locs cells slots Q (F0 m 634 ls []) := by
  obtain ⟨C0, hb, hml, hXS, hX, hbl, hj1, hj2, hdis, hA1, hA2⟩ := C
  obtain ⟨hP, hP2, hS⟩ := hLS
  have hx := C0.1
  have hbA : ¬ A0 s b := Nat.not_le.mpr hbl
  refine lv_aload_n hx hb dL_law_634 rfl (lv_at hl 2 rfl) ?_
  refine lv_aload_n hx hb dL_law_635 rfl (lv_at hl 3 rfl) ?_
  refine lv_iload_n hx hb dL_law_636 rfl (lv_at hl 0 rfl) ?_
  refine lv_iconst (v := 1) hx hb dL_law_637 (by decide) ?_
  refine lv_iadd hx hb dL_law_638 ?_
  refine va_sld hx hb hX hbl hbA hS h1 dL_law_639 ?_
  refine lv_aload_n hx hb dL_law_640 rfl (lv_at hl 3 rfl) ?_
  refine lv_iload_n hx hb dL_law_641 rfl (lv_at hl 0 rfl) ?_
  refine lv_iconst (v := 2) hx hb dL_law_642 (by decide) ?_
  refine lv_iadd hx hb dL_law_643 ?_
  refine va_sld hx hb hX hbl hbA hS h2 dL_law_644 ?_
  refine l_cVi (ci := 5) (As := [.int (xs (x3 + 1).toNatClampNeg), .int (xs (x3 + 2).toNatClampNeg)]) (rest := []) C0 hb hml hl.1 hXS wm_L_73 md_X5_reaches (k_X5_reaches l G a σ hj1 ((xs (x3 + 1).toNatClampNeg)) ((xs (x3 + 2).toNatClampNeg)) q1 e1) rfl rfl ⟨(Nat.le_of_ble_eq_true rfl), (Nat.le_of_ble_eq_true rfl)⟩ hP hP2 hS (by decide) hA1 hdis rfl (by decide) rfl rfl rfl (Nat.le_of_ble_eq_true rfl) dL_law_645 hf (fun H locs hP hP2 hS => ?_)
  refine lv_aload_n hx hb dL_law_648 rfl (lv_at hl 1 rfl) ?_
  refine lv_aload_n hx hb dL_law_649 rfl (lv_at hl 3 rfl) ?_
  refine lv_iload_n hx hb dL_law_650 rfl (lv_at hl 0 rfl) ?_
  refine lv_iconst (v := 1) hx hb dL_law_651 (by decide) ?_
  refine lv_iadd hx hb dL_law_652 ?_
  refine va_sld hx hb hX hbl hbA hS h1 dL_law_653 ?_
  refine lv_aload_n hx hb dL_law_654 rfl (lv_at hl 3 rfl) ?_
  refine lv_iload_n hx hb dL_law_655 rfl (lv_at hl 0 rfl) ?_
  refine lv_iconst (v := 2) hx hb dL_law_656 (by decide) ?_
  refine lv_iadd hx hb dL_law_657 ?_
  refine va_sld hx hb hX hbl hbA hS h2 dL_law_658 ?_
  refine l_cVi (ci := 6) (As := [.int (xs (x3 + 1).toNatClampNeg), .int (xs (x3 + 2).toNatClampNeg)]) (rest := [.int q1.1]) C0 hb hml hl.1 hXS wm_L_76 md_X6_reaches (k_X6_reaches l G a2 μ hj2 ((xs (x3 + 1).toNatClampNeg)) ((xs (x3 + 2).toNatClampNeg)) q2 e2) rfl rfl ⟨(Nat.le_of_ble_eq_true rfl), (Nat.le_of_ble_eq_true rfl)⟩ hP2 hP hS (by decide) hA2 hdis.sy rfl (by decide) rfl rfl rfl (Nat.le_of_ble_eq_true rfl) dL_law_659 hf (fun H locs hP2 hP hS => ?_)
  refine lv_icmp_eq (tgt := 1561) hx hb dL_law_662 (by decide) (fun _ => ?_) (fun z => absurd he z)
  exact kk H locs ⟨hP, hP2, hS⟩
set_option maxHeartbeats 4000000 in
set_option maxRecDepth 100000 in
theorem lc_15 {p : Program} {l : Launch} {e : Env} {s : State} {m : MethodId} {below : List Frame} {meth : Method} {c : Code} {H : Heap} {locs : List Loc} {cells slots : Nat} {Q : State → Prop} {ls : Array Slot} {b L : Nat} {xs : Nat → Int32} {G : GG} {a a2 : Nat → Nat} {σ μ : Mem} {x3 : Int32} (C : LC p s m c b L xs G a a2) (hLS : LWS s G a a2 σ μ H locs) (hf : cells ≤ room_1.cells ∧ slots ≤ room_1.slots) (hl : lv_has ls 4 [(3, .int x3), (2, .ref (a2 0)), (1, .ref (a 0)), (0, .ref b)]) (h1 : vp_in (x3 + 1) L) (h2 : vp_in (x3 + 2) L) (h3 : vp_in (x3 + 3) L) (h4 : vp_in (x3 + 4) L) (h5 : vp_in (x3 + 5) L) (q1 : Int32 × Mem) (e1 : f_X5_range ((xs (x3 + 1).toNatClampNeg)) ((xs (x3 + 2).toNatClampNeg)) ((xs (x3 + 3).toNatClampNeg)) σ = some q1) (q2 : Int32 × Mem) (e2 : f_X6_range ((xs (x3 + 1).toNatClampNeg)) ((xs (x3 + 2).toNatClampNeg)) ((xs (x3 + 3).toNatClampNeg)) μ = some q2) (he : q1.1 = q2.1)
    (kk : ∀ (H : Heap) (locs : List Loc), LWS s G a a2 (q1.2) (q2.2) H locs → W p l e room_1 s m #[Value.ref b] below meth c H locs cells slots Q (F0 m 1561 ls [])) : W p l e room_1 s m #[Value.ref b] below meth c H locs cells slots Q (F0 m 667 ls []) := by
  obtain ⟨C0, hb, hml, hXS, hX, hbl, hj1, hj2, hdis, hA1, hA2⟩ := C
  obtain ⟨hP, hP2, hS⟩ := hLS
  have hx := C0.1
  have hbA : ¬ A0 s b := Nat.not_le.mpr hbl
  refine lv_aload_n hx hb dL_law_667 rfl (lv_at hl 2 rfl) ?_
  refine lv_aload_n hx hb dL_law_668 rfl (lv_at hl 3 rfl) ?_
  refine lv_iload_n hx hb dL_law_669 rfl (lv_at hl 0 rfl) ?_
  refine lv_iconst (v := 1) hx hb dL_law_670 (by decide) ?_
  refine lv_iadd hx hb dL_law_671 ?_
  refine va_sld hx hb hX hbl hbA hS h1 dL_law_672 ?_
  refine lv_aload_n hx hb dL_law_673 rfl (lv_at hl 3 rfl) ?_
  refine lv_iload_n hx hb dL_law_674 rfl (lv_at hl 0 rfl) ?_
  refine lv_iconst (v := 2) hx hb dL_law_675 (by decide) ?_
  refine lv_iadd hx hb dL_law_676 ?_
  refine va_sld hx hb hX hbl hbA hS h2 dL_law_677 ?_
  refine lv_aload_n hx hb dL_law_678 rfl (lv_at hl 3 rfl) ?_
  refine lv_iload_n hx hb dL_law_679 rfl (lv_at hl 0 rfl) ?_
  refine lv_iconst (v := 3) hx hb dL_law_680 (by decide) ?_
  refine lv_iadd hx hb dL_law_681 ?_
  refine va_sld hx hb hX hbl hbA hS h3 dL_law_682 ?_
  refine l_cVi (ci := 5) (As := [.int (xs (x3 + 1).toNatClampNeg), .int (xs (x3 + 2).toNatClampNeg), .int (xs (x3 + 3).toNatClampNeg)]) (rest := []) C0 hb hml hl.1 hXS wm_L_77 md_X5_range (k_X5_range l G a σ hj1 ((xs (x3 + 1).toNatClampNeg)) ((xs (x3 + 2).toNatClampNeg)) ((xs (x3 + 3).toNatClampNeg)) q1 e1) rfl rfl ⟨(Nat.le_of_ble_eq_true rfl), (Nat.le_of_ble_eq_true rfl)⟩ hP hP2 hS (by decide) hA1 hdis rfl (by decide) rfl rfl rfl (Nat.le_of_ble_eq_true rfl) dL_law_683 hf (fun H locs hP hP2 hS => ?_)
  refine lv_aload_n hx hb dL_law_686 rfl (lv_at hl 1 rfl) ?_
  refine lv_aload_n hx hb dL_law_687 rfl (lv_at hl 3 rfl) ?_
  refine lv_iload_n hx hb dL_law_688 rfl (lv_at hl 0 rfl) ?_
  refine lv_iconst (v := 1) hx hb dL_law_689 (by decide) ?_
  refine lv_iadd hx hb dL_law_690 ?_
  refine va_sld hx hb hX hbl hbA hS h1 dL_law_691 ?_
  refine lv_aload_n hx hb dL_law_692 rfl (lv_at hl 3 rfl) ?_
  refine lv_iload_n hx hb dL_law_693 rfl (lv_at hl 0 rfl) ?_
  refine lv_iconst (v := 2) hx hb dL_law_694 (by decide) ?_
  refine lv_iadd hx hb dL_law_695 ?_
  refine va_sld hx hb hX hbl hbA hS h2 dL_law_696 ?_
  refine lv_aload_n hx hb dL_law_697 rfl (lv_at hl 3 rfl) ?_
  refine lv_iload_n hx hb dL_law_698 rfl (lv_at hl 0 rfl) ?_
  refine lv_iconst (v := 3) hx hb dL_law_699 (by decide) ?_
  refine lv_iadd hx hb dL_law_700 ?_
  refine va_sld hx hb hX hbl hbA hS h3 dL_law_701 ?_
  refine l_cVi (ci := 6) (As := [.int (xs (x3 + 1).toNatClampNeg), .int (xs (x3 + 2).toNatClampNeg), .int (xs (x3 + 3).toNatClampNeg)]) (rest := [.int q1.1]) C0 hb hml hl.1 hXS wm_L_80 md_X6_range (k_X6_range l G a2 μ hj2 ((xs (x3 + 1).toNatClampNeg)) ((xs (x3 + 2).toNatClampNeg)) ((xs (x3 + 3).toNatClampNeg)) q2 e2) rfl rfl ⟨(Nat.le_of_ble_eq_true rfl), (Nat.le_of_ble_eq_true rfl)⟩ hP2 hP hS (by decide) hA2 hdis.sy rfl (by decide) rfl rfl rfl (Nat.le_of_ble_eq_true rfl) dL_law_702 hf (fun H locs hP2 hP hS => ?_)
  refine lv_icmp_eq (tgt := 1561) hx hb dL_law_705 (by decide) (fun _ => ?_) (fun z => absurd he z)
  exact kk H locs ⟨hP, hP2, hS⟩
set_option maxHeartbeats 4000000 in
set_option maxRecDepth 100000 in
theorem lc_16 {p : Program} {l : Launch} {e : Env} {s : State} {m : MethodId} {below : List Frame} {meth : Method} {c : Code} {H : Heap} {locs : List Loc} {cells slots : Nat} {Q : State → Prop} {ls : Array Slot} {b L : Nat} {xs : Nat → Int32} {G : GG} {a a2 : Nat → Nat} {σ μ : Mem} {x3 : Int32} (C : LC p s m c b L xs G a a2) (hLS : LWS s G a a2 σ μ H locs) (hf : cells ≤ room_1.cells ∧ slots ≤ room_1.slots) (hl : lv_has ls 4 [(3, .int x3), (2, .ref (a2 0)), (1, .ref (a 0)), (0, .ref b)]) (h1 : vp_in (x3 + 1) L) (h2 : vp_in (x3 + 2) L) (h3 : vp_in (x3 + 3) L) (h4 : vp_in (x3 + 4) L) (h5 : vp_in (x3 + 5) L) (q1 : Int32 × Mem) (e1 : f_X5_enough ((xs (x3 + 1).toNatClampNeg)) σ = some q1) (q2 : Int32 × Mem) (e2 : f_X6_enough ((xs (x3 + 1).toNatClampNeg)) μ = some q2) (he : q1.1 = q2.1)
    (kk : ∀ (H : Heap) (locs : List Loc), LWS s G a a2 (q1.2) (q2.2) H locs → W p l e room_1 s m #[Value.ref b] below meth c H locs cells slots Q (F0 m 1561 ls [])) : W p l e room_1 s m #[Value.ref b] below meth c H locs cells slots Q (F0 m 710 ls []) := by
  obtain ⟨C0, hb, hml, hXS, hX, hbl, hj1, hj2, hdis, hA1, hA2⟩ := C
  obtain ⟨hP, hP2, hS⟩ := hLS
  have hx := C0.1
  have hbA : ¬ A0 s b := Nat.not_le.mpr hbl
  refine lv_aload_n hx hb dL_law_710 rfl (lv_at hl 2 rfl) ?_
  refine lv_aload_n hx hb dL_law_711 rfl (lv_at hl 3 rfl) ?_
  refine lv_iload_n hx hb dL_law_712 rfl (lv_at hl 0 rfl) ?_
  refine lv_iconst (v := 1) hx hb dL_law_713 (by decide) ?_
  refine lv_iadd hx hb dL_law_714 ?_
  refine va_sld hx hb hX hbl hbA hS h1 dL_law_715 ?_
  refine l_cVi (ci := 5) (As := [.int (xs (x3 + 1).toNatClampNeg)]) (rest := []) C0 hb hml hl.1 hXS wm_L_81 md_X5_enough (k_X5_enough l G a σ hj1 ((xs (x3 + 1).toNatClampNeg)) q1 e1) rfl rfl ⟨(Nat.le_of_ble_eq_true rfl), (Nat.le_of_ble_eq_true rfl)⟩ hP hP2 hS (by decide) hA1 hdis rfl (by decide) rfl rfl rfl (Nat.le_of_ble_eq_true rfl) dL_law_716 hf (fun H locs hP hP2 hS => ?_)
  refine lv_aload_n hx hb dL_law_719 rfl (lv_at hl 1 rfl) ?_
  refine lv_aload_n hx hb dL_law_720 rfl (lv_at hl 3 rfl) ?_
  refine lv_iload_n hx hb dL_law_721 rfl (lv_at hl 0 rfl) ?_
  refine lv_iconst (v := 1) hx hb dL_law_722 (by decide) ?_
  refine lv_iadd hx hb dL_law_723 ?_
  refine va_sld hx hb hX hbl hbA hS h1 dL_law_724 ?_
  refine l_cVi (ci := 6) (As := [.int (xs (x3 + 1).toNatClampNeg)]) (rest := [.int q1.1]) C0 hb hml hl.1 hXS wm_L_84 md_X6_enough (k_X6_enough l G a2 μ hj2 ((xs (x3 + 1).toNatClampNeg)) q2 e2) rfl rfl ⟨(Nat.le_of_ble_eq_true rfl), (Nat.le_of_ble_eq_true rfl)⟩ hP2 hP hS (by decide) hA2 hdis.sy rfl (by decide) rfl rfl rfl (Nat.le_of_ble_eq_true rfl) dL_law_725 hf (fun H locs hP2 hP hS => ?_)
  refine lv_icmp_eq (tgt := 1561) hx hb dL_law_728 (by decide) (fun _ => ?_) (fun z => absurd he z)
  exact kk H locs ⟨hP, hP2, hS⟩
set_option maxHeartbeats 4000000 in
set_option maxRecDepth 100000 in
theorem lc_17 {p : Program} {l : Launch} {e : Env} {s : State} {m : MethodId} {below : List Frame} {meth : Method} {c : Code} {H : Heap} {locs : List Loc} {cells slots : Nat} {Q : State → Prop} {ls : Array Slot} {b L : Nat} {xs : Nat → Int32} {G : GG} {a a2 : Nat → Nat} {σ μ : Mem} {x3 : Int32} (C : LC p s m c b L xs G a a2) (hLS : LWS s G a a2 σ μ H locs) (hf : cells ≤ room_1.cells ∧ slots ≤ room_1.slots) (hl : lv_has ls 4 [(3, .int x3), (2, .ref (a2 0)), (1, .ref (a 0)), (0, .ref b)]) (h1 : vp_in (x3 + 1) L) (h2 : vp_in (x3 + 2) L) (h3 : vp_in (x3 + 3) L) (h4 : vp_in (x3 + 4) L) (h5 : vp_in (x3 + 5) L) (q1 : Int32 × Mem) (e1 : f_X5_hide ((xs (x3 + 1).toNatClampNeg)) ((xs (x3 + 2).toNatClampNeg)) σ = some q1) (q2 : Int32 × Mem) (e2 : f_X6_hide ((xs (x3 + 1).toNatClampNeg)) ((xs (x3 + 2).toNatClampNeg)) μ = some q2) (he : q1.1 = q2.1)
    (kk : ∀ (H : Heap) (locs : List Loc), LWS s G a a2 (q1.2) (q2.2) H locs → W p l e room_1 s m #[Value.ref b] below meth c H locs cells slots Q (F0 m 1561 ls [])) : W p l e room_1 s m #[Value.ref b] below meth c H locs cells slots Q (F0 m 733 ls []) := by
  obtain ⟨C0, hb, hml, hXS, hX, hbl, hj1, hj2, hdis, hA1, hA2⟩ := C
  obtain ⟨hP, hP2, hS⟩ := hLS
  have hx := C0.1
  have hbA : ¬ A0 s b := Nat.not_le.mpr hbl
  refine lv_aload_n hx hb dL_law_733 rfl (lv_at hl 2 rfl) ?_
  refine lv_aload_n hx hb dL_law_734 rfl (lv_at hl 3 rfl) ?_
  refine lv_iload_n hx hb dL_law_735 rfl (lv_at hl 0 rfl) ?_
  refine lv_iconst (v := 1) hx hb dL_law_736 (by decide) ?_
  refine lv_iadd hx hb dL_law_737 ?_
  refine va_sld hx hb hX hbl hbA hS h1 dL_law_738 ?_
  refine lv_aload_n hx hb dL_law_739 rfl (lv_at hl 3 rfl) ?_
  refine lv_iload_n hx hb dL_law_740 rfl (lv_at hl 0 rfl) ?_
  refine lv_iconst (v := 2) hx hb dL_law_741 (by decide) ?_
  refine lv_iadd hx hb dL_law_742 ?_
  refine va_sld hx hb hX hbl hbA hS h2 dL_law_743 ?_
  refine l_cVi (ci := 5) (As := [.int (xs (x3 + 1).toNatClampNeg), .int (xs (x3 + 2).toNatClampNeg)]) (rest := []) C0 hb hml hl.1 hXS wm_L_85 md_X5_hide (k_X5_hide l G a σ hj1 ((xs (x3 + 1).toNatClampNeg)) ((xs (x3 + 2).toNatClampNeg)) q1 e1) rfl rfl ⟨(Nat.le_of_ble_eq_true rfl), (Nat.le_of_ble_eq_true rfl)⟩ hP hP2 hS (by decide) hA1 hdis rfl (by decide) rfl rfl rfl (Nat.le_of_ble_eq_true rfl) dL_law_744 hf (fun H locs hP hP2 hS => ?_)
  refine lv_aload_n hx hb dL_law_747 rfl (lv_at hl 1 rfl) ?_
  refine lv_aload_n hx hb dL_law_748 rfl (lv_at hl 3 rfl) ?_
  refine lv_iload_n hx hb dL_law_749 rfl (lv_at hl 0 rfl) ?_
  refine lv_iconst (v := 1) hx hb dL_law_750 (by decide) ?_
  refine lv_iadd hx hb dL_law_751 ?_
  refine va_sld hx hb hX hbl hbA hS h1 dL_law_752 ?_
  refine lv_aload_n hx hb dL_law_753 rfl (lv_at hl 3 rfl) ?_
  refine lv_iload_n hx hb dL_law_754 rfl (lv_at hl 0 rfl) ?_
  refine lv_iconst (v := 2) hx hb dL_law_755 (by decide) ?_
  refine lv_iadd hx hb dL_law_756 ?_
  refine va_sld hx hb hX hbl hbA hS h2 dL_law_757 ?_
  refine l_cVi (ci := 6) (As := [.int (xs (x3 + 1).toNatClampNeg), .int (xs (x3 + 2).toNatClampNeg)]) (rest := [.int q1.1]) C0 hb hml hl.1 hXS wm_L_88 md_X6_hide (k_X6_hide l G a2 μ hj2 ((xs (x3 + 1).toNatClampNeg)) ((xs (x3 + 2).toNatClampNeg)) q2 e2) rfl rfl ⟨(Nat.le_of_ble_eq_true rfl), (Nat.le_of_ble_eq_true rfl)⟩ hP2 hP hS (by decide) hA2 hdis.sy rfl (by decide) rfl rfl rfl (Nat.le_of_ble_eq_true rfl) dL_law_758 hf (fun H locs hP2 hP hS => ?_)
  refine lv_icmp_eq (tgt := 1561) hx hb dL_law_761 (by decide) (fun _ => ?_) (fun z => absurd he z)
  exact kk H locs ⟨hP, hP2, hS⟩
set_option maxHeartbeats 4000000 in
set_option maxRecDepth 100000 in
theorem lc_18 {p : Program} {l : Launch} {e : Env} {s : State} {m : MethodId} {below : List Frame} {meth : Method} {c : Code} {H : Heap} {locs : List Loc} {cells slots : Nat} {Q : State → Prop} {ls : Array Slot} {b L : Nat} {xs : Nat → Int32} {G : GG} {a a2 : Nat → Nat} {σ μ : Mem} {x3 : Int32} (C : LC p s m c b L xs G a a2) (hLS : LWS s G a a2 σ μ H locs) (hf : cells ≤ room_1.cells ∧ slots ≤ room_1.slots) (hl : lv_has ls 4 [(3, .int x3), (2, .ref (a2 0)), (1, .ref (a 0)), (0, .ref b)]) (h1 : vp_in (x3 + 1) L) (h2 : vp_in (x3 + 2) L) (h3 : vp_in (x3 + 3) L) (h4 : vp_in (x3 + 4) L) (h5 : vp_in (x3 + 5) L) (q1 : Int32 × Mem) (e1 : f_X5_safe ((xs (x3 + 1).toNatClampNeg)) ((xs (x3 + 2).toNatClampNeg)) σ = some q1) (q2 : Int32 × Mem) (e2 : f_X6_safe ((xs (x3 + 1).toNatClampNeg)) ((xs (x3 + 2).toNatClampNeg)) μ = some q2) (he : q1.1 = q2.1)
    (kk : ∀ (H : Heap) (locs : List Loc), LWS s G a a2 (q1.2) (q2.2) H locs → W p l e room_1 s m #[Value.ref b] below meth c H locs cells slots Q (F0 m 1561 ls [])) : W p l e room_1 s m #[Value.ref b] below meth c H locs cells slots Q (F0 m 766 ls []) := by
  obtain ⟨C0, hb, hml, hXS, hX, hbl, hj1, hj2, hdis, hA1, hA2⟩ := C
  obtain ⟨hP, hP2, hS⟩ := hLS
  have hx := C0.1
  have hbA : ¬ A0 s b := Nat.not_le.mpr hbl
  refine lv_aload_n hx hb dL_law_766 rfl (lv_at hl 2 rfl) ?_
  refine lv_aload_n hx hb dL_law_767 rfl (lv_at hl 3 rfl) ?_
  refine lv_iload_n hx hb dL_law_768 rfl (lv_at hl 0 rfl) ?_
  refine lv_iconst (v := 1) hx hb dL_law_769 (by decide) ?_
  refine lv_iadd hx hb dL_law_770 ?_
  refine va_sld hx hb hX hbl hbA hS h1 dL_law_771 ?_
  refine lv_aload_n hx hb dL_law_772 rfl (lv_at hl 3 rfl) ?_
  refine lv_iload_n hx hb dL_law_773 rfl (lv_at hl 0 rfl) ?_
  refine lv_iconst (v := 2) hx hb dL_law_774 (by decide) ?_
  refine lv_iadd hx hb dL_law_775 ?_
  refine va_sld hx hb hX hbl hbA hS h2 dL_law_776 ?_
  refine l_cVi (ci := 5) (As := [.int (xs (x3 + 1).toNatClampNeg), .int (xs (x3 + 2).toNatClampNeg)]) (rest := []) C0 hb hml hl.1 hXS wm_L_89 md_X5_safe (k_X5_safe l G a σ hj1 ((xs (x3 + 1).toNatClampNeg)) ((xs (x3 + 2).toNatClampNeg)) q1 e1) rfl rfl ⟨(Nat.le_of_ble_eq_true rfl), (Nat.le_of_ble_eq_true rfl)⟩ hP hP2 hS (by decide) hA1 hdis rfl (by decide) rfl rfl rfl (Nat.le_of_ble_eq_true rfl) dL_law_777 hf (fun H locs hP hP2 hS => ?_)
  refine lv_aload_n hx hb dL_law_780 rfl (lv_at hl 1 rfl) ?_
  refine lv_aload_n hx hb dL_law_781 rfl (lv_at hl 3 rfl) ?_
  refine lv_iload_n hx hb dL_law_782 rfl (lv_at hl 0 rfl) ?_
  refine lv_iconst (v := 1) hx hb dL_law_783 (by decide) ?_
  refine lv_iadd hx hb dL_law_784 ?_
  refine va_sld hx hb hX hbl hbA hS h1 dL_law_785 ?_
  refine lv_aload_n hx hb dL_law_786 rfl (lv_at hl 3 rfl) ?_
  refine lv_iload_n hx hb dL_law_787 rfl (lv_at hl 0 rfl) ?_
  refine lv_iconst (v := 2) hx hb dL_law_788 (by decide) ?_
  refine lv_iadd hx hb dL_law_789 ?_
  refine va_sld hx hb hX hbl hbA hS h2 dL_law_790 ?_
  refine l_cVi (ci := 6) (As := [.int (xs (x3 + 1).toNatClampNeg), .int (xs (x3 + 2).toNatClampNeg)]) (rest := [.int q1.1]) C0 hb hml hl.1 hXS wm_L_92 md_X6_safe (k_X6_safe l G a2 μ hj2 ((xs (x3 + 1).toNatClampNeg)) ((xs (x3 + 2).toNatClampNeg)) q2 e2) rfl rfl ⟨(Nat.le_of_ble_eq_true rfl), (Nat.le_of_ble_eq_true rfl)⟩ hP2 hP hS (by decide) hA2 hdis.sy rfl (by decide) rfl rfl rfl (Nat.le_of_ble_eq_true rfl) dL_law_791 hf (fun H locs hP2 hP hS => ?_)
  refine lv_icmp_eq (tgt := 1561) hx hb dL_law_794 (by decide) (fun _ => ?_) (fun z => absurd he z)
  exact kk H locs ⟨hP, hP2, hS⟩
set_option maxHeartbeats 4000000 in
set_option maxRecDepth 100000 in
theorem lc_19 {p : Program} {l : Launch} {e : Env} {s : State} {m : MethodId} {below : List Frame} {meth : Method} {c : Code} {H : Heap} {locs : List Loc} {cells slots : Nat} {Q : State → Prop} {ls : Array Slot} {b L : Nat} {xs : Nat → Int32} {G : GG} {a a2 : Nat → Nat} {σ μ : Mem} {x3 : Int32} (C : LC p s m c b L xs G a a2) (hLS : LWS s G a a2 σ μ H locs) (hf : cells ≤ room_1.cells ∧ slots ≤ room_1.slots) (hl : lv_has ls 4 [(3, .int x3), (2, .ref (a2 0)), (1, .ref (a 0)), (0, .ref b)]) (h1 : vp_in (x3 + 1) L) (h2 : vp_in (x3 + 2) L) (h3 : vp_in (x3 + 3) L) (h4 : vp_in (x3 + 4) L) (h5 : vp_in (x3 + 5) L) (q1 : Int32 × Mem) (e1 : f_X5_sleep ((xs (x3 + 1).toNatClampNeg)) σ = some q1) (q2 : Int32 × Mem) (e2 : f_X6_sleep ((xs (x3 + 1).toNatClampNeg)) μ = some q2) (he : q1.1 = q2.1)
    (kk : ∀ (H : Heap) (locs : List Loc), LWS s G a a2 (q1.2) (q2.2) H locs → W p l e room_1 s m #[Value.ref b] below meth c H locs cells slots Q (F0 m 1561 ls [])) : W p l e room_1 s m #[Value.ref b] below meth c H locs cells slots Q (F0 m 799 ls []) := by
  obtain ⟨C0, hb, hml, hXS, hX, hbl, hj1, hj2, hdis, hA1, hA2⟩ := C
  obtain ⟨hP, hP2, hS⟩ := hLS
  have hx := C0.1
  have hbA : ¬ A0 s b := Nat.not_le.mpr hbl
  refine lv_aload_n hx hb dL_law_799 rfl (lv_at hl 2 rfl) ?_
  refine lv_aload_n hx hb dL_law_800 rfl (lv_at hl 3 rfl) ?_
  refine lv_iload_n hx hb dL_law_801 rfl (lv_at hl 0 rfl) ?_
  refine lv_iconst (v := 1) hx hb dL_law_802 (by decide) ?_
  refine lv_iadd hx hb dL_law_803 ?_
  refine va_sld hx hb hX hbl hbA hS h1 dL_law_804 ?_
  refine l_cVi (ci := 5) (As := [.int (xs (x3 + 1).toNatClampNeg)]) (rest := []) C0 hb hml hl.1 hXS wm_L_93 md_X5_sleep (k_X5_sleep l G a σ hj1 ((xs (x3 + 1).toNatClampNeg)) q1 e1) rfl rfl ⟨(Nat.le_of_ble_eq_true rfl), (Nat.le_of_ble_eq_true rfl)⟩ hP hP2 hS (by decide) hA1 hdis rfl (by decide) rfl rfl rfl (Nat.le_of_ble_eq_true rfl) dL_law_805 hf (fun H locs hP hP2 hS => ?_)
  refine lv_aload_n hx hb dL_law_808 rfl (lv_at hl 1 rfl) ?_
  refine lv_aload_n hx hb dL_law_809 rfl (lv_at hl 3 rfl) ?_
  refine lv_iload_n hx hb dL_law_810 rfl (lv_at hl 0 rfl) ?_
  refine lv_iconst (v := 1) hx hb dL_law_811 (by decide) ?_
  refine lv_iadd hx hb dL_law_812 ?_
  refine va_sld hx hb hX hbl hbA hS h1 dL_law_813 ?_
  refine l_cVi (ci := 6) (As := [.int (xs (x3 + 1).toNatClampNeg)]) (rest := [.int q1.1]) C0 hb hml hl.1 hXS wm_L_96 md_X6_sleep (k_X6_sleep l G a2 μ hj2 ((xs (x3 + 1).toNatClampNeg)) q2 e2) rfl rfl ⟨(Nat.le_of_ble_eq_true rfl), (Nat.le_of_ble_eq_true rfl)⟩ hP2 hP hS (by decide) hA2 hdis.sy rfl (by decide) rfl rfl rfl (Nat.le_of_ble_eq_true rfl) dL_law_814 hf (fun H locs hP2 hP hS => ?_)
  refine lv_icmp_eq (tgt := 1561) hx hb dL_law_817 (by decide) (fun _ => ?_) (fun z => absurd he z)
  exact kk H locs ⟨hP, hP2, hS⟩
set_option maxHeartbeats 4000000 in
set_option maxRecDepth 100000 in
theorem lc_20 {p : Program} {l : Launch} {e : Env} {s : State} {m : MethodId} {below : List Frame} {meth : Method} {c : Code} {H : Heap} {locs : List Loc} {cells slots : Nat} {Q : State → Prop} {ls : Array Slot} {b L : Nat} {xs : Nat → Int32} {G : GG} {a a2 : Nat → Nat} {σ μ : Mem} {x3 : Int32} (C : LC p s m c b L xs G a a2) (hLS : LWS s G a a2 σ μ H locs) (hf : cells ≤ room_1.cells ∧ slots ≤ room_1.slots) (hl : lv_has ls 4 [(3, .int x3), (2, .ref (a2 0)), (1, .ref (a 0)), (0, .ref b)]) (h1 : vp_in (x3 + 1) L) (h2 : vp_in (x3 + 2) L) (h3 : vp_in (x3 + 3) L) (h4 : vp_in (x3 + 4) L) (h5 : vp_in (x3 + 5) L) (q1 : Int32) (e1 : f_X5_turns σ = some q1) (q2 : Int32) (e2 : f_X6_turns μ = some q2) (he : q1 = q2)
    (kk : ∀ (H : Heap) (locs : List Loc), LWS s G a a2 (σ) (μ) H locs → W p l e room_1 s m #[Value.ref b] below meth c H locs cells slots Q (F0 m 1561 ls [])) : W p l e room_1 s m #[Value.ref b] below meth c H locs cells slots Q (F0 m 822 ls []) := by
  obtain ⟨C0, hb, hml, hXS, hX, hbl, hj1, hj2, hdis, hA1, hA2⟩ := C
  obtain ⟨hP, hP2, hS⟩ := hLS
  have hx := C0.1
  have hbA : ¬ A0 s b := Nat.not_le.mpr hbl
  refine lv_aload_n hx hb dL_law_822 rfl (lv_at hl 2 rfl) ?_
  refine l_rVi (ci := 5) (As := []) (rest := []) C0 hb hml hl.1 hXS wm_L_97 md_X5_turns (k_X5_turns l G a σ hj1  q1 e1) rfl rfl ⟨(Nat.le_of_ble_eq_true rfl), (Nat.le_of_ble_eq_true rfl)⟩ hP hS (by decide) hA1 rfl (by decide) rfl rfl rfl (Nat.le_of_ble_eq_true rfl) dL_law_823 hf ?_
  refine lv_aload_n hx hb dL_law_826 rfl (lv_at hl 1 rfl) ?_
  refine l_rVi (ci := 6) (As := []) (rest := [.int q1]) C0 hb hml hl.1 hXS wm_L_100 md_X6_turns (k_X6_turns l G a2 μ hj2  q2 e2) rfl rfl ⟨(Nat.le_of_ble_eq_true rfl), (Nat.le_of_ble_eq_true rfl)⟩ hP2 hS (by decide) hA2 rfl (by decide) rfl rfl rfl (Nat.le_of_ble_eq_true rfl) dL_law_827 hf ?_
  refine lv_icmp_eq (tgt := 1561) hx hb dL_law_830 (by decide) (fun _ => ?_) (fun z => absurd he z)
  exact kk H locs ⟨hP, hP2, hS⟩
set_option maxHeartbeats 4000000 in
set_option maxRecDepth 100000 in
theorem lc_21 {p : Program} {l : Launch} {e : Env} {s : State} {m : MethodId} {below : List Frame} {meth : Method} {c : Code} {H : Heap} {locs : List Loc} {cells slots : Nat} {Q : State → Prop} {ls : Array Slot} {b L : Nat} {xs : Nat → Int32} {G : GG} {a a2 : Nat → Nat} {σ μ : Mem} {x3 : Int32} (C : LC p s m c b L xs G a a2) (hLS : LWS s G a a2 σ μ H locs) (hf : cells ≤ room_1.cells ∧ slots ≤ room_1.slots) (hl : lv_has ls 4 [(3, .int x3), (2, .ref (a2 0)), (1, .ref (a 0)), (0, .ref b)]) (h1 : vp_in (x3 + 1) L) (h2 : vp_in (x3 + 2) L) (h3 : vp_in (x3 + 3) L) (h4 : vp_in (x3 + 4) L) (h5 : vp_in (x3 + 5) L) (q1 : Int32 × Mem) (e1 : f_X5_seat ((xs (x3 + 1).toNatClampNeg)) ((xs (x3 + 2).toNatClampNeg)) σ = some q1) (q2 : Int32 × Mem) (e2 : f_X6_seat ((xs (x3 + 1).toNatClampNeg)) ((xs (x3 + 2).toNatClampNeg)) μ = some q2) (he : q1.1 = q2.1)
    (kk : ∀ (H : Heap) (locs : List Loc), LWS s G a a2 (q1.2) (q2.2) H locs → W p l e room_1 s m #[Value.ref b] below meth c H locs cells slots Q (F0 m 1561 ls [])) : W p l e room_1 s m #[Value.ref b] below meth c H locs cells slots Q (F0 m 835 ls []) := by
  obtain ⟨C0, hb, hml, hXS, hX, hbl, hj1, hj2, hdis, hA1, hA2⟩ := C
  obtain ⟨hP, hP2, hS⟩ := hLS
  have hx := C0.1
  have hbA : ¬ A0 s b := Nat.not_le.mpr hbl
  refine lv_aload_n hx hb dL_law_835 rfl (lv_at hl 2 rfl) ?_
  refine lv_aload_n hx hb dL_law_836 rfl (lv_at hl 3 rfl) ?_
  refine lv_iload_n hx hb dL_law_837 rfl (lv_at hl 0 rfl) ?_
  refine lv_iconst (v := 1) hx hb dL_law_838 (by decide) ?_
  refine lv_iadd hx hb dL_law_839 ?_
  refine va_sld hx hb hX hbl hbA hS h1 dL_law_840 ?_
  refine lv_aload_n hx hb dL_law_841 rfl (lv_at hl 3 rfl) ?_
  refine lv_iload_n hx hb dL_law_842 rfl (lv_at hl 0 rfl) ?_
  refine lv_iconst (v := 2) hx hb dL_law_843 (by decide) ?_
  refine lv_iadd hx hb dL_law_844 ?_
  refine va_sld hx hb hX hbl hbA hS h2 dL_law_845 ?_
  refine l_cVi (ci := 5) (As := [.int (xs (x3 + 1).toNatClampNeg), .int (xs (x3 + 2).toNatClampNeg)]) (rest := []) C0 hb hml hl.1 hXS wm_L_101 md_X5_seat (k_X5_seat l G a σ hj1 ((xs (x3 + 1).toNatClampNeg)) ((xs (x3 + 2).toNatClampNeg)) q1 e1) rfl rfl ⟨(Nat.le_of_ble_eq_true rfl), (Nat.le_of_ble_eq_true rfl)⟩ hP hP2 hS (by decide) hA1 hdis rfl (by decide) rfl rfl rfl (Nat.le_of_ble_eq_true rfl) dL_law_846 hf (fun H locs hP hP2 hS => ?_)
  refine lv_aload_n hx hb dL_law_849 rfl (lv_at hl 1 rfl) ?_
  refine lv_aload_n hx hb dL_law_850 rfl (lv_at hl 3 rfl) ?_
  refine lv_iload_n hx hb dL_law_851 rfl (lv_at hl 0 rfl) ?_
  refine lv_iconst (v := 1) hx hb dL_law_852 (by decide) ?_
  refine lv_iadd hx hb dL_law_853 ?_
  refine va_sld hx hb hX hbl hbA hS h1 dL_law_854 ?_
  refine lv_aload_n hx hb dL_law_855 rfl (lv_at hl 3 rfl) ?_
  refine lv_iload_n hx hb dL_law_856 rfl (lv_at hl 0 rfl) ?_
  refine lv_iconst (v := 2) hx hb dL_law_857 (by decide) ?_
  refine lv_iadd hx hb dL_law_858 ?_
  refine va_sld hx hb hX hbl hbA hS h2 dL_law_859 ?_
  refine l_cVi (ci := 6) (As := [.int (xs (x3 + 1).toNatClampNeg), .int (xs (x3 + 2).toNatClampNeg)]) (rest := [.int q1.1]) C0 hb hml hl.1 hXS wm_L_104 md_X6_seat (k_X6_seat l G a2 μ hj2 ((xs (x3 + 1).toNatClampNeg)) ((xs (x3 + 2).toNatClampNeg)) q2 e2) rfl rfl ⟨(Nat.le_of_ble_eq_true rfl), (Nat.le_of_ble_eq_true rfl)⟩ hP2 hP hS (by decide) hA2 hdis.sy rfl (by decide) rfl rfl rfl (Nat.le_of_ble_eq_true rfl) dL_law_860 hf (fun H locs hP2 hP hS => ?_)
  refine lv_icmp_eq (tgt := 1561) hx hb dL_law_863 (by decide) (fun _ => ?_) (fun z => absurd he z)
  exact kk H locs ⟨hP, hP2, hS⟩
set_option maxHeartbeats 4000000 in
set_option maxRecDepth 100000 in
theorem lc_22 {p : Program} {l : Launch} {e : Env} {s : State} {m : MethodId} {below : List Frame} {meth : Method} {c : Code} {H : Heap} {locs : List Loc} {cells slots : Nat} {Q : State → Prop} {ls : Array Slot} {b L : Nat} {xs : Nat → Int32} {G : GG} {a a2 : Nat → Nat} {σ μ : Mem} {x3 : Int32} (C : LC p s m c b L xs G a a2) (hLS : LWS s G a a2 σ μ H locs) (hf : cells ≤ room_1.cells ∧ slots ≤ room_1.slots) (hl : lv_has ls 4 [(3, .int x3), (2, .ref (a2 0)), (1, .ref (a 0)), (0, .ref b)]) (h1 : vp_in (x3 + 1) L) (h2 : vp_in (x3 + 2) L) (h3 : vp_in (x3 + 3) L) (h4 : vp_in (x3 + 4) L) (h5 : vp_in (x3 + 5) L) (q1 : Int32 × Mem) (e1 : f_X5_kindFor ((xs (x3 + 1).toNatClampNeg)) ((xs (x3 + 2).toNatClampNeg)) σ = some q1) (q2 : Int32 × Mem) (e2 : f_X6_kindFor ((xs (x3 + 1).toNatClampNeg)) ((xs (x3 + 2).toNatClampNeg)) μ = some q2) (he : q1.1 = q2.1)
    (kk : ∀ (H : Heap) (locs : List Loc), LWS s G a a2 (q1.2) (q2.2) H locs → W p l e room_1 s m #[Value.ref b] below meth c H locs cells slots Q (F0 m 1561 ls [])) : W p l e room_1 s m #[Value.ref b] below meth c H locs cells slots Q (F0 m 868 ls []) := by
  obtain ⟨C0, hb, hml, hXS, hX, hbl, hj1, hj2, hdis, hA1, hA2⟩ := C
  obtain ⟨hP, hP2, hS⟩ := hLS
  have hx := C0.1
  have hbA : ¬ A0 s b := Nat.not_le.mpr hbl
  refine lv_aload_n hx hb dL_law_868 rfl (lv_at hl 2 rfl) ?_
  refine lv_aload_n hx hb dL_law_869 rfl (lv_at hl 3 rfl) ?_
  refine lv_iload_n hx hb dL_law_870 rfl (lv_at hl 0 rfl) ?_
  refine lv_iconst (v := 1) hx hb dL_law_871 (by decide) ?_
  refine lv_iadd hx hb dL_law_872 ?_
  refine va_sld hx hb hX hbl hbA hS h1 dL_law_873 ?_
  refine lv_aload_n hx hb dL_law_874 rfl (lv_at hl 3 rfl) ?_
  refine lv_iload_n hx hb dL_law_875 rfl (lv_at hl 0 rfl) ?_
  refine lv_iconst (v := 2) hx hb dL_law_876 (by decide) ?_
  refine lv_iadd hx hb dL_law_877 ?_
  refine va_sld hx hb hX hbl hbA hS h2 dL_law_878 ?_
  refine l_cVi (ci := 5) (As := [.int (xs (x3 + 1).toNatClampNeg), .int (xs (x3 + 2).toNatClampNeg)]) (rest := []) C0 hb hml hl.1 hXS wm_L_105 md_X5_kindFor (k_X5_kindFor l G a σ hj1 ((xs (x3 + 1).toNatClampNeg)) ((xs (x3 + 2).toNatClampNeg)) q1 e1) rfl rfl ⟨(Nat.le_of_ble_eq_true rfl), (Nat.le_of_ble_eq_true rfl)⟩ hP hP2 hS (by decide) hA1 hdis rfl (by decide) rfl rfl rfl (Nat.le_of_ble_eq_true rfl) dL_law_879 hf (fun H locs hP hP2 hS => ?_)
  refine lv_aload_n hx hb dL_law_882 rfl (lv_at hl 1 rfl) ?_
  refine lv_aload_n hx hb dL_law_883 rfl (lv_at hl 3 rfl) ?_
  refine lv_iload_n hx hb dL_law_884 rfl (lv_at hl 0 rfl) ?_
  refine lv_iconst (v := 1) hx hb dL_law_885 (by decide) ?_
  refine lv_iadd hx hb dL_law_886 ?_
  refine va_sld hx hb hX hbl hbA hS h1 dL_law_887 ?_
  refine lv_aload_n hx hb dL_law_888 rfl (lv_at hl 3 rfl) ?_
  refine lv_iload_n hx hb dL_law_889 rfl (lv_at hl 0 rfl) ?_
  refine lv_iconst (v := 2) hx hb dL_law_890 (by decide) ?_
  refine lv_iadd hx hb dL_law_891 ?_
  refine va_sld hx hb hX hbl hbA hS h2 dL_law_892 ?_
  refine l_cVi (ci := 6) (As := [.int (xs (x3 + 1).toNatClampNeg), .int (xs (x3 + 2).toNatClampNeg)]) (rest := [.int q1.1]) C0 hb hml hl.1 hXS wm_L_108 md_X6_kindFor (k_X6_kindFor l G a2 μ hj2 ((xs (x3 + 1).toNatClampNeg)) ((xs (x3 + 2).toNatClampNeg)) q2 e2) rfl rfl ⟨(Nat.le_of_ble_eq_true rfl), (Nat.le_of_ble_eq_true rfl)⟩ hP2 hP hS (by decide) hA2 hdis.sy rfl (by decide) rfl rfl rfl (Nat.le_of_ble_eq_true rfl) dL_law_893 hf (fun H locs hP2 hP hS => ?_)
  refine lv_icmp_eq (tgt := 1561) hx hb dL_law_896 (by decide) (fun _ => ?_) (fun z => absurd he z)
  exact kk H locs ⟨hP, hP2, hS⟩
set_option maxHeartbeats 4000000 in
set_option maxRecDepth 100000 in
theorem lc_23 {p : Program} {l : Launch} {e : Env} {s : State} {m : MethodId} {below : List Frame} {meth : Method} {c : Code} {H : Heap} {locs : List Loc} {cells slots : Nat} {Q : State → Prop} {ls : Array Slot} {b L : Nat} {xs : Nat → Int32} {G : GG} {a a2 : Nat → Nat} {σ μ : Mem} {x3 : Int32} (C : LC p s m c b L xs G a a2) (hLS : LWS s G a a2 σ μ H locs) (hf : cells ≤ room_1.cells ∧ slots ≤ room_1.slots) (hl : lv_has ls 4 [(3, .int x3), (2, .ref (a2 0)), (1, .ref (a 0)), (0, .ref b)]) (h1 : vp_in (x3 + 1) L) (h2 : vp_in (x3 + 2) L) (h3 : vp_in (x3 + 3) L) (h4 : vp_in (x3 + 4) L) (h5 : vp_in (x3 + 5) L) (q1 : Int32 × Mem) (e1 : f_X5_wantFor ((xs (x3 + 1).toNatClampNeg)) ((xs (x3 + 2).toNatClampNeg)) σ = some q1) (q2 : Int32 × Mem) (e2 : f_X6_wantFor ((xs (x3 + 1).toNatClampNeg)) ((xs (x3 + 2).toNatClampNeg)) μ = some q2) (he : q1.1 = q2.1)
    (kk : ∀ (H : Heap) (locs : List Loc), LWS s G a a2 (q1.2) (q2.2) H locs → W p l e room_1 s m #[Value.ref b] below meth c H locs cells slots Q (F0 m 1561 ls [])) : W p l e room_1 s m #[Value.ref b] below meth c H locs cells slots Q (F0 m 901 ls []) := by
  obtain ⟨C0, hb, hml, hXS, hX, hbl, hj1, hj2, hdis, hA1, hA2⟩ := C
  obtain ⟨hP, hP2, hS⟩ := hLS
  have hx := C0.1
  have hbA : ¬ A0 s b := Nat.not_le.mpr hbl
  refine lv_aload_n hx hb dL_law_901 rfl (lv_at hl 2 rfl) ?_
  refine lv_aload_n hx hb dL_law_902 rfl (lv_at hl 3 rfl) ?_
  refine lv_iload_n hx hb dL_law_903 rfl (lv_at hl 0 rfl) ?_
  refine lv_iconst (v := 1) hx hb dL_law_904 (by decide) ?_
  refine lv_iadd hx hb dL_law_905 ?_
  refine va_sld hx hb hX hbl hbA hS h1 dL_law_906 ?_
  refine lv_aload_n hx hb dL_law_907 rfl (lv_at hl 3 rfl) ?_
  refine lv_iload_n hx hb dL_law_908 rfl (lv_at hl 0 rfl) ?_
  refine lv_iconst (v := 2) hx hb dL_law_909 (by decide) ?_
  refine lv_iadd hx hb dL_law_910 ?_
  refine va_sld hx hb hX hbl hbA hS h2 dL_law_911 ?_
  refine l_cVi (ci := 5) (As := [.int (xs (x3 + 1).toNatClampNeg), .int (xs (x3 + 2).toNatClampNeg)]) (rest := []) C0 hb hml hl.1 hXS wm_L_109 md_X5_wantFor (k_X5_wantFor l G a σ hj1 ((xs (x3 + 1).toNatClampNeg)) ((xs (x3 + 2).toNatClampNeg)) q1 e1) rfl rfl ⟨(Nat.le_of_ble_eq_true rfl), (Nat.le_of_ble_eq_true rfl)⟩ hP hP2 hS (by decide) hA1 hdis rfl (by decide) rfl rfl rfl (Nat.le_of_ble_eq_true rfl) dL_law_912 hf (fun H locs hP hP2 hS => ?_)
  refine lv_aload_n hx hb dL_law_915 rfl (lv_at hl 1 rfl) ?_
  refine lv_aload_n hx hb dL_law_916 rfl (lv_at hl 3 rfl) ?_
  refine lv_iload_n hx hb dL_law_917 rfl (lv_at hl 0 rfl) ?_
  refine lv_iconst (v := 1) hx hb dL_law_918 (by decide) ?_
  refine lv_iadd hx hb dL_law_919 ?_
  refine va_sld hx hb hX hbl hbA hS h1 dL_law_920 ?_
  refine lv_aload_n hx hb dL_law_921 rfl (lv_at hl 3 rfl) ?_
  refine lv_iload_n hx hb dL_law_922 rfl (lv_at hl 0 rfl) ?_
  refine lv_iconst (v := 2) hx hb dL_law_923 (by decide) ?_
  refine lv_iadd hx hb dL_law_924 ?_
  refine va_sld hx hb hX hbl hbA hS h2 dL_law_925 ?_
  refine l_cVi (ci := 6) (As := [.int (xs (x3 + 1).toNatClampNeg), .int (xs (x3 + 2).toNatClampNeg)]) (rest := [.int q1.1]) C0 hb hml hl.1 hXS wm_L_112 md_X6_wantFor (k_X6_wantFor l G a2 μ hj2 ((xs (x3 + 1).toNatClampNeg)) ((xs (x3 + 2).toNatClampNeg)) q2 e2) rfl rfl ⟨(Nat.le_of_ble_eq_true rfl), (Nat.le_of_ble_eq_true rfl)⟩ hP2 hP hS (by decide) hA2 hdis.sy rfl (by decide) rfl rfl rfl (Nat.le_of_ble_eq_true rfl) dL_law_926 hf (fun H locs hP2 hP hS => ?_)
  refine lv_icmp_eq (tgt := 1561) hx hb dL_law_929 (by decide) (fun _ => ?_) (fun z => absurd he z)
  exact kk H locs ⟨hP, hP2, hS⟩
set_option maxHeartbeats 4000000 in
set_option maxRecDepth 100000 in
theorem lc_24 {p : Program} {l : Launch} {e : Env} {s : State} {m : MethodId} {below : List Frame} {meth : Method} {c : Code} {H : Heap} {locs : List Loc} {cells slots : Nat} {Q : State → Prop} {ls : Array Slot} {b L : Nat} {xs : Nat → Int32} {G : GG} {a a2 : Nat → Nat} {σ μ : Mem} {x3 : Int32} (C : LC p s m c b L xs G a a2) (hLS : LWS s G a a2 σ μ H locs) (hf : cells ≤ room_1.cells ∧ slots ≤ room_1.slots) (hl : lv_has ls 4 [(3, .int x3), (2, .ref (a2 0)), (1, .ref (a 0)), (0, .ref b)]) (h1 : vp_in (x3 + 1) L) (h2 : vp_in (x3 + 2) L) (h3 : vp_in (x3 + 3) L) (h4 : vp_in (x3 + 4) L) (h5 : vp_in (x3 + 5) L) (q1 : Int32 × Mem) (e1 : f_X5_watch ((xs (x3 + 1).toNatClampNeg)) σ = some q1) (q2 : Int32 × Mem) (e2 : f_X6_watch ((xs (x3 + 1).toNatClampNeg)) μ = some q2) (he : q1.1 = q2.1)
    (kk : ∀ (H : Heap) (locs : List Loc), LWS s G a a2 (q1.2) (q2.2) H locs → W p l e room_1 s m #[Value.ref b] below meth c H locs cells slots Q (F0 m 1561 ls [])) : W p l e room_1 s m #[Value.ref b] below meth c H locs cells slots Q (F0 m 934 ls []) := by
  obtain ⟨C0, hb, hml, hXS, hX, hbl, hj1, hj2, hdis, hA1, hA2⟩ := C
  obtain ⟨hP, hP2, hS⟩ := hLS
  have hx := C0.1
  have hbA : ¬ A0 s b := Nat.not_le.mpr hbl
  refine lv_aload_n hx hb dL_law_934 rfl (lv_at hl 2 rfl) ?_
  refine lv_aload_n hx hb dL_law_935 rfl (lv_at hl 3 rfl) ?_
  refine lv_iload_n hx hb dL_law_936 rfl (lv_at hl 0 rfl) ?_
  refine lv_iconst (v := 1) hx hb dL_law_937 (by decide) ?_
  refine lv_iadd hx hb dL_law_938 ?_
  refine va_sld hx hb hX hbl hbA hS h1 dL_law_939 ?_
  refine l_cVi (ci := 5) (As := [.int (xs (x3 + 1).toNatClampNeg)]) (rest := []) C0 hb hml hl.1 hXS wm_L_113 md_X5_watch (k_X5_watch l G a σ hj1 ((xs (x3 + 1).toNatClampNeg)) q1 e1) rfl rfl ⟨(Nat.le_of_ble_eq_true rfl), (Nat.le_of_ble_eq_true rfl)⟩ hP hP2 hS (by decide) hA1 hdis rfl (by decide) rfl rfl rfl (Nat.le_of_ble_eq_true rfl) dL_law_940 hf (fun H locs hP hP2 hS => ?_)
  refine lv_aload_n hx hb dL_law_943 rfl (lv_at hl 1 rfl) ?_
  refine lv_aload_n hx hb dL_law_944 rfl (lv_at hl 3 rfl) ?_
  refine lv_iload_n hx hb dL_law_945 rfl (lv_at hl 0 rfl) ?_
  refine lv_iconst (v := 1) hx hb dL_law_946 (by decide) ?_
  refine lv_iadd hx hb dL_law_947 ?_
  refine va_sld hx hb hX hbl hbA hS h1 dL_law_948 ?_
  refine l_cVi (ci := 6) (As := [.int (xs (x3 + 1).toNatClampNeg)]) (rest := [.int q1.1]) C0 hb hml hl.1 hXS wm_L_116 md_X6_watch (k_X6_watch l G a2 μ hj2 ((xs (x3 + 1).toNatClampNeg)) q2 e2) rfl rfl ⟨(Nat.le_of_ble_eq_true rfl), (Nat.le_of_ble_eq_true rfl)⟩ hP2 hP hS (by decide) hA2 hdis.sy rfl (by decide) rfl rfl rfl (Nat.le_of_ble_eq_true rfl) dL_law_949 hf (fun H locs hP2 hP hS => ?_)
  refine lv_icmp_eq (tgt := 1561) hx hb dL_law_952 (by decide) (fun _ => ?_) (fun z => absurd he z)
  exact kk H locs ⟨hP, hP2, hS⟩
set_option maxHeartbeats 4000000 in
set_option maxRecDepth 100000 in
theorem lc_25 {p : Program} {l : Launch} {e : Env} {s : State} {m : MethodId} {below : List Frame} {meth : Method} {c : Code} {H : Heap} {locs : List Loc} {cells slots : Nat} {Q : State → Prop} {ls : Array Slot} {b L : Nat} {xs : Nat → Int32} {G : GG} {a a2 : Nat → Nat} {σ μ : Mem} {x3 : Int32} (C : LC p s m c b L xs G a a2) (hLS : LWS s G a a2 σ μ H locs) (hf : cells ≤ room_1.cells ∧ slots ≤ room_1.slots) (hl : lv_has ls 4 [(3, .int x3), (2, .ref (a2 0)), (1, .ref (a 0)), (0, .ref b)]) (h1 : vp_in (x3 + 1) L) (h2 : vp_in (x3 + 2) L) (h3 : vp_in (x3 + 3) L) (h4 : vp_in (x3 + 4) L) (h5 : vp_in (x3 + 5) L) (q1 : Int32 × Mem) (e1 : f_X5_fits ((xs (x3 + 1).toNatClampNeg)) ((xs (x3 + 2).toNatClampNeg)) ((xs (x3 + 3).toNatClampNeg)) σ = some q1) (q2 : Int32 × Mem) (e2 : f_X6_fits ((xs (x3 + 1).toNatClampNeg)) ((xs (x3 + 2).toNatClampNeg)) ((xs (x3 + 3).toNatClampNeg)) μ = some q2) (he : q1.1 = q2.1)
    (kk : ∀ (H : Heap) (locs : List Loc), LWS s G a a2 (q1.2) (q2.2) H locs → W p l e room_1 s m #[Value.ref b] below meth c H locs cells slots Q (F0 m 1561 ls [])) : W p l e room_1 s m #[Value.ref b] below meth c H locs cells slots Q (F0 m 957 ls []) := by
  obtain ⟨C0, hb, hml, hXS, hX, hbl, hj1, hj2, hdis, hA1, hA2⟩ := C
  obtain ⟨hP, hP2, hS⟩ := hLS
  have hx := C0.1
  have hbA : ¬ A0 s b := Nat.not_le.mpr hbl
  refine lv_aload_n hx hb dL_law_957 rfl (lv_at hl 2 rfl) ?_
  refine lv_aload_n hx hb dL_law_958 rfl (lv_at hl 3 rfl) ?_
  refine lv_iload_n hx hb dL_law_959 rfl (lv_at hl 0 rfl) ?_
  refine lv_iconst (v := 1) hx hb dL_law_960 (by decide) ?_
  refine lv_iadd hx hb dL_law_961 ?_
  refine va_sld hx hb hX hbl hbA hS h1 dL_law_962 ?_
  refine lv_aload_n hx hb dL_law_963 rfl (lv_at hl 3 rfl) ?_
  refine lv_iload_n hx hb dL_law_964 rfl (lv_at hl 0 rfl) ?_
  refine lv_iconst (v := 2) hx hb dL_law_965 (by decide) ?_
  refine lv_iadd hx hb dL_law_966 ?_
  refine va_sld hx hb hX hbl hbA hS h2 dL_law_967 ?_
  refine lv_aload_n hx hb dL_law_968 rfl (lv_at hl 3 rfl) ?_
  refine lv_iload_n hx hb dL_law_969 rfl (lv_at hl 0 rfl) ?_
  refine lv_iconst (v := 3) hx hb dL_law_970 (by decide) ?_
  refine lv_iadd hx hb dL_law_971 ?_
  refine va_sld hx hb hX hbl hbA hS h3 dL_law_972 ?_
  refine l_cVi (ci := 5) (As := [.int (xs (x3 + 1).toNatClampNeg), .int (xs (x3 + 2).toNatClampNeg), .int (xs (x3 + 3).toNatClampNeg)]) (rest := []) C0 hb hml hl.1 hXS wm_L_117 md_X5_fits (k_X5_fits l G a σ hj1 ((xs (x3 + 1).toNatClampNeg)) ((xs (x3 + 2).toNatClampNeg)) ((xs (x3 + 3).toNatClampNeg)) q1 e1) rfl rfl ⟨(Nat.le_of_ble_eq_true rfl), (Nat.le_of_ble_eq_true rfl)⟩ hP hP2 hS (by decide) hA1 hdis rfl (by decide) rfl rfl rfl (Nat.le_of_ble_eq_true rfl) dL_law_973 hf (fun H locs hP hP2 hS => ?_)
  refine lv_aload_n hx hb dL_law_976 rfl (lv_at hl 1 rfl) ?_
  refine lv_aload_n hx hb dL_law_977 rfl (lv_at hl 3 rfl) ?_
  refine lv_iload_n hx hb dL_law_978 rfl (lv_at hl 0 rfl) ?_
  refine lv_iconst (v := 1) hx hb dL_law_979 (by decide) ?_
  refine lv_iadd hx hb dL_law_980 ?_
  refine va_sld hx hb hX hbl hbA hS h1 dL_law_981 ?_
  refine lv_aload_n hx hb dL_law_982 rfl (lv_at hl 3 rfl) ?_
  refine lv_iload_n hx hb dL_law_983 rfl (lv_at hl 0 rfl) ?_
  refine lv_iconst (v := 2) hx hb dL_law_984 (by decide) ?_
  refine lv_iadd hx hb dL_law_985 ?_
  refine va_sld hx hb hX hbl hbA hS h2 dL_law_986 ?_
  refine lv_aload_n hx hb dL_law_987 rfl (lv_at hl 3 rfl) ?_
  refine lv_iload_n hx hb dL_law_988 rfl (lv_at hl 0 rfl) ?_
  refine lv_iconst (v := 3) hx hb dL_law_989 (by decide) ?_
  refine lv_iadd hx hb dL_law_990 ?_
  refine va_sld hx hb hX hbl hbA hS h3 dL_law_991 ?_
  refine l_cVi (ci := 6) (As := [.int (xs (x3 + 1).toNatClampNeg), .int (xs (x3 + 2).toNatClampNeg), .int (xs (x3 + 3).toNatClampNeg)]) (rest := [.int q1.1]) C0 hb hml hl.1 hXS wm_L_120 md_X6_fits (k_X6_fits l G a2 μ hj2 ((xs (x3 + 1).toNatClampNeg)) ((xs (x3 + 2).toNatClampNeg)) ((xs (x3 + 3).toNatClampNeg)) q2 e2) rfl rfl ⟨(Nat.le_of_ble_eq_true rfl), (Nat.le_of_ble_eq_true rfl)⟩ hP2 hP hS (by decide) hA2 hdis.sy rfl (by decide) rfl rfl rfl (Nat.le_of_ble_eq_true rfl) dL_law_992 hf (fun H locs hP2 hP hS => ?_)
  refine lv_icmp_eq (tgt := 1561) hx hb dL_law_995 (by decide) (fun _ => ?_) (fun z => absurd he z)
  exact kk H locs ⟨hP, hP2, hS⟩
set_option maxHeartbeats 4000000 in
set_option maxRecDepth 100000 in
theorem lc_26 {p : Program} {l : Launch} {e : Env} {s : State} {m : MethodId} {below : List Frame} {meth : Method} {c : Code} {H : Heap} {locs : List Loc} {cells slots : Nat} {Q : State → Prop} {ls : Array Slot} {b L : Nat} {xs : Nat → Int32} {G : GG} {a a2 : Nat → Nat} {σ μ : Mem} {x3 : Int32} (C : LC p s m c b L xs G a a2) (hLS : LWS s G a a2 σ μ H locs) (hf : cells ≤ room_1.cells ∧ slots ≤ room_1.slots) (hl : lv_has ls 4 [(3, .int x3), (2, .ref (a2 0)), (1, .ref (a 0)), (0, .ref b)]) (h1 : vp_in (x3 + 1) L) (h2 : vp_in (x3 + 2) L) (h3 : vp_in (x3 + 3) L) (h4 : vp_in (x3 + 4) L) (h5 : vp_in (x3 + 5) L) (q1 : Int32 × Mem) (e1 : f_X5_opened ((xs (x3 + 1).toNatClampNeg)) ((xs (x3 + 2).toNatClampNeg)) ((xs (x3 + 3).toNatClampNeg)) σ = some q1) (q2 : Int32 × Mem) (e2 : f_X6_opened ((xs (x3 + 1).toNatClampNeg)) ((xs (x3 + 2).toNatClampNeg)) ((xs (x3 + 3).toNatClampNeg)) μ = some q2) (he : q1.1 = q2.1)
    (kk : ∀ (H : Heap) (locs : List Loc), LWS s G a a2 (q1.2) (q2.2) H locs → W p l e room_1 s m #[Value.ref b] below meth c H locs cells slots Q (F0 m 1561 ls [])) : W p l e room_1 s m #[Value.ref b] below meth c H locs cells slots Q (F0 m 1000 ls []) := by
  obtain ⟨C0, hb, hml, hXS, hX, hbl, hj1, hj2, hdis, hA1, hA2⟩ := C
  obtain ⟨hP, hP2, hS⟩ := hLS
  have hx := C0.1
  have hbA : ¬ A0 s b := Nat.not_le.mpr hbl
  refine lv_aload_n hx hb dL_law_1000 rfl (lv_at hl 2 rfl) ?_
  refine lv_aload_n hx hb dL_law_1001 rfl (lv_at hl 3 rfl) ?_
  refine lv_iload_n hx hb dL_law_1002 rfl (lv_at hl 0 rfl) ?_
  refine lv_iconst (v := 1) hx hb dL_law_1003 (by decide) ?_
  refine lv_iadd hx hb dL_law_1004 ?_
  refine va_sld hx hb hX hbl hbA hS h1 dL_law_1005 ?_
  refine lv_aload_n hx hb dL_law_1006 rfl (lv_at hl 3 rfl) ?_
  refine lv_iload_n hx hb dL_law_1007 rfl (lv_at hl 0 rfl) ?_
  refine lv_iconst (v := 2) hx hb dL_law_1008 (by decide) ?_
  refine lv_iadd hx hb dL_law_1009 ?_
  refine va_sld hx hb hX hbl hbA hS h2 dL_law_1010 ?_
  refine lv_aload_n hx hb dL_law_1011 rfl (lv_at hl 3 rfl) ?_
  refine lv_iload_n hx hb dL_law_1012 rfl (lv_at hl 0 rfl) ?_
  refine lv_iconst (v := 3) hx hb dL_law_1013 (by decide) ?_
  refine lv_iadd hx hb dL_law_1014 ?_
  refine va_sld hx hb hX hbl hbA hS h3 dL_law_1015 ?_
  refine l_cVi (ci := 5) (As := [.int (xs (x3 + 1).toNatClampNeg), .int (xs (x3 + 2).toNatClampNeg), .int (xs (x3 + 3).toNatClampNeg)]) (rest := []) C0 hb hml hl.1 hXS wm_L_121 md_X5_opened (k_X5_opened l G a σ hj1 ((xs (x3 + 1).toNatClampNeg)) ((xs (x3 + 2).toNatClampNeg)) ((xs (x3 + 3).toNatClampNeg)) q1 e1) rfl rfl ⟨(Nat.le_of_ble_eq_true rfl), (Nat.le_of_ble_eq_true rfl)⟩ hP hP2 hS (by decide) hA1 hdis rfl (by decide) rfl rfl rfl (Nat.le_of_ble_eq_true rfl) dL_law_1016 hf (fun H locs hP hP2 hS => ?_)
  refine lv_aload_n hx hb dL_law_1019 rfl (lv_at hl 1 rfl) ?_
  refine lv_aload_n hx hb dL_law_1020 rfl (lv_at hl 3 rfl) ?_
  refine lv_iload_n hx hb dL_law_1021 rfl (lv_at hl 0 rfl) ?_
  refine lv_iconst (v := 1) hx hb dL_law_1022 (by decide) ?_
  refine lv_iadd hx hb dL_law_1023 ?_
  refine va_sld hx hb hX hbl hbA hS h1 dL_law_1024 ?_
  refine lv_aload_n hx hb dL_law_1025 rfl (lv_at hl 3 rfl) ?_
  refine lv_iload_n hx hb dL_law_1026 rfl (lv_at hl 0 rfl) ?_
  refine lv_iconst (v := 2) hx hb dL_law_1027 (by decide) ?_
  refine lv_iadd hx hb dL_law_1028 ?_
  refine va_sld hx hb hX hbl hbA hS h2 dL_law_1029 ?_
  refine lv_aload_n hx hb dL_law_1030 rfl (lv_at hl 3 rfl) ?_
  refine lv_iload_n hx hb dL_law_1031 rfl (lv_at hl 0 rfl) ?_
  refine lv_iconst (v := 3) hx hb dL_law_1032 (by decide) ?_
  refine lv_iadd hx hb dL_law_1033 ?_
  refine va_sld hx hb hX hbl hbA hS h3 dL_law_1034 ?_
  refine l_cVi (ci := 6) (As := [.int (xs (x3 + 1).toNatClampNeg), .int (xs (x3 + 2).toNatClampNeg), .int (xs (x3 + 3).toNatClampNeg)]) (rest := [.int q1.1]) C0 hb hml hl.1 hXS wm_L_124 md_X6_opened (k_X6_opened l G a2 μ hj2 ((xs (x3 + 1).toNatClampNeg)) ((xs (x3 + 2).toNatClampNeg)) ((xs (x3 + 3).toNatClampNeg)) q2 e2) rfl rfl ⟨(Nat.le_of_ble_eq_true rfl), (Nat.le_of_ble_eq_true rfl)⟩ hP2 hP hS (by decide) hA2 hdis.sy rfl (by decide) rfl rfl rfl (Nat.le_of_ble_eq_true rfl) dL_law_1035 hf (fun H locs hP2 hP hS => ?_)
  refine lv_icmp_eq (tgt := 1561) hx hb dL_law_1038 (by decide) (fun _ => ?_) (fun z => absurd he z)
  exact kk H locs ⟨hP, hP2, hS⟩
set_option maxHeartbeats 4000000 in
set_option maxRecDepth 100000 in
theorem lc_27 {p : Program} {l : Launch} {e : Env} {s : State} {m : MethodId} {below : List Frame} {meth : Method} {c : Code} {H : Heap} {locs : List Loc} {cells slots : Nat} {Q : State → Prop} {ls : Array Slot} {b L : Nat} {xs : Nat → Int32} {G : GG} {a a2 : Nat → Nat} {σ μ : Mem} {x3 : Int32} (C : LC p s m c b L xs G a a2) (hLS : LWS s G a a2 σ μ H locs) (hf : cells ≤ room_1.cells ∧ slots ≤ room_1.slots) (hl : lv_has ls 4 [(3, .int x3), (2, .ref (a2 0)), (1, .ref (a 0)), (0, .ref b)]) (h1 : vp_in (x3 + 1) L) (h2 : vp_in (x3 + 2) L) (h3 : vp_in (x3 + 3) L) (h4 : vp_in (x3 + 4) L) (h5 : vp_in (x3 + 5) L) (q1 : Int32 × Mem) (e1 : f_X5_kinds ((xs (x3 + 1).toNatClampNeg)) ((xs (x3 + 2).toNatClampNeg)) σ = some q1) (q2 : Int32 × Mem) (e2 : f_X6_kinds ((xs (x3 + 1).toNatClampNeg)) ((xs (x3 + 2).toNatClampNeg)) μ = some q2) (he : q1.1 = q2.1)
    (kk : ∀ (H : Heap) (locs : List Loc), LWS s G a a2 (q1.2) (q2.2) H locs → W p l e room_1 s m #[Value.ref b] below meth c H locs cells slots Q (F0 m 1561 ls [])) : W p l e room_1 s m #[Value.ref b] below meth c H locs cells slots Q (F0 m 1043 ls []) := by
  obtain ⟨C0, hb, hml, hXS, hX, hbl, hj1, hj2, hdis, hA1, hA2⟩ := C
  obtain ⟨hP, hP2, hS⟩ := hLS
  have hx := C0.1
  have hbA : ¬ A0 s b := Nat.not_le.mpr hbl
  refine lv_aload_n hx hb dL_law_1043 rfl (lv_at hl 2 rfl) ?_
  refine lv_aload_n hx hb dL_law_1044 rfl (lv_at hl 3 rfl) ?_
  refine lv_iload_n hx hb dL_law_1045 rfl (lv_at hl 0 rfl) ?_
  refine lv_iconst (v := 1) hx hb dL_law_1046 (by decide) ?_
  refine lv_iadd hx hb dL_law_1047 ?_
  refine va_sld hx hb hX hbl hbA hS h1 dL_law_1048 ?_
  refine lv_aload_n hx hb dL_law_1049 rfl (lv_at hl 3 rfl) ?_
  refine lv_iload_n hx hb dL_law_1050 rfl (lv_at hl 0 rfl) ?_
  refine lv_iconst (v := 2) hx hb dL_law_1051 (by decide) ?_
  refine lv_iadd hx hb dL_law_1052 ?_
  refine va_sld hx hb hX hbl hbA hS h2 dL_law_1053 ?_
  refine l_cVi (ci := 5) (As := [.int (xs (x3 + 1).toNatClampNeg), .int (xs (x3 + 2).toNatClampNeg)]) (rest := []) C0 hb hml hl.1 hXS wm_L_125 md_X5_kinds (k_X5_kinds l G a σ hj1 ((xs (x3 + 1).toNatClampNeg)) ((xs (x3 + 2).toNatClampNeg)) q1 e1) rfl rfl ⟨(Nat.le_of_ble_eq_true rfl), (Nat.le_of_ble_eq_true rfl)⟩ hP hP2 hS (by decide) hA1 hdis rfl (by decide) rfl rfl rfl (Nat.le_of_ble_eq_true rfl) dL_law_1054 hf (fun H locs hP hP2 hS => ?_)
  refine lv_aload_n hx hb dL_law_1057 rfl (lv_at hl 1 rfl) ?_
  refine lv_aload_n hx hb dL_law_1058 rfl (lv_at hl 3 rfl) ?_
  refine lv_iload_n hx hb dL_law_1059 rfl (lv_at hl 0 rfl) ?_
  refine lv_iconst (v := 1) hx hb dL_law_1060 (by decide) ?_
  refine lv_iadd hx hb dL_law_1061 ?_
  refine va_sld hx hb hX hbl hbA hS h1 dL_law_1062 ?_
  refine lv_aload_n hx hb dL_law_1063 rfl (lv_at hl 3 rfl) ?_
  refine lv_iload_n hx hb dL_law_1064 rfl (lv_at hl 0 rfl) ?_
  refine lv_iconst (v := 2) hx hb dL_law_1065 (by decide) ?_
  refine lv_iadd hx hb dL_law_1066 ?_
  refine va_sld hx hb hX hbl hbA hS h2 dL_law_1067 ?_
  refine l_cVi (ci := 6) (As := [.int (xs (x3 + 1).toNatClampNeg), .int (xs (x3 + 2).toNatClampNeg)]) (rest := [.int q1.1]) C0 hb hml hl.1 hXS wm_L_128 md_X6_kinds (k_X6_kinds l G a2 μ hj2 ((xs (x3 + 1).toNatClampNeg)) ((xs (x3 + 2).toNatClampNeg)) q2 e2) rfl rfl ⟨(Nat.le_of_ble_eq_true rfl), (Nat.le_of_ble_eq_true rfl)⟩ hP2 hP hS (by decide) hA2 hdis.sy rfl (by decide) rfl rfl rfl (Nat.le_of_ble_eq_true rfl) dL_law_1068 hf (fun H locs hP2 hP hS => ?_)
  refine lv_icmp_eq (tgt := 1561) hx hb dL_law_1071 (by decide) (fun _ => ?_) (fun z => absurd he z)
  exact kk H locs ⟨hP, hP2, hS⟩
set_option maxHeartbeats 4000000 in
set_option maxRecDepth 100000 in
theorem lc_28 {p : Program} {l : Launch} {e : Env} {s : State} {m : MethodId} {below : List Frame} {meth : Method} {c : Code} {H : Heap} {locs : List Loc} {cells slots : Nat} {Q : State → Prop} {ls : Array Slot} {b L : Nat} {xs : Nat → Int32} {G : GG} {a a2 : Nat → Nat} {σ μ : Mem} {x3 : Int32} (C : LC p s m c b L xs G a a2) (hLS : LWS s G a a2 σ μ H locs) (hf : cells ≤ room_1.cells ∧ slots ≤ room_1.slots) (hl : lv_has ls 4 [(3, .int x3), (2, .ref (a2 0)), (1, .ref (a 0)), (0, .ref b)]) (h1 : vp_in (x3 + 1) L) (h2 : vp_in (x3 + 2) L) (h3 : vp_in (x3 + 3) L) (h4 : vp_in (x3 + 4) L) (h5 : vp_in (x3 + 5) L) (q1 : Int32 × Mem) (e1 : f_X5_nights ((xs (x3 + 1).toNatClampNeg)) σ = some q1) (q2 : Int32 × Mem) (e2 : f_X6_nights ((xs (x3 + 1).toNatClampNeg)) μ = some q2) (he : q1.1 = q2.1)
    (kk : ∀ (H : Heap) (locs : List Loc), LWS s G a a2 (q1.2) (q2.2) H locs → W p l e room_1 s m #[Value.ref b] below meth c H locs cells slots Q (F0 m 1561 ls [])) : W p l e room_1 s m #[Value.ref b] below meth c H locs cells slots Q (F0 m 1076 ls []) := by
  obtain ⟨C0, hb, hml, hXS, hX, hbl, hj1, hj2, hdis, hA1, hA2⟩ := C
  obtain ⟨hP, hP2, hS⟩ := hLS
  have hx := C0.1
  have hbA : ¬ A0 s b := Nat.not_le.mpr hbl
  refine lv_aload_n hx hb dL_law_1076 rfl (lv_at hl 2 rfl) ?_
  refine lv_aload_n hx hb dL_law_1077 rfl (lv_at hl 3 rfl) ?_
  refine lv_iload_n hx hb dL_law_1078 rfl (lv_at hl 0 rfl) ?_
  refine lv_iconst (v := 1) hx hb dL_law_1079 (by decide) ?_
  refine lv_iadd hx hb dL_law_1080 ?_
  refine va_sld hx hb hX hbl hbA hS h1 dL_law_1081 ?_
  refine l_cVi (ci := 5) (As := [.int (xs (x3 + 1).toNatClampNeg)]) (rest := []) C0 hb hml hl.1 hXS wm_L_129 md_X5_nights (k_X5_nights l G a σ hj1 ((xs (x3 + 1).toNatClampNeg)) q1 e1) rfl rfl ⟨(Nat.le_of_ble_eq_true rfl), (Nat.le_of_ble_eq_true rfl)⟩ hP hP2 hS (by decide) hA1 hdis rfl (by decide) rfl rfl rfl (Nat.le_of_ble_eq_true rfl) dL_law_1082 hf (fun H locs hP hP2 hS => ?_)
  refine lv_aload_n hx hb dL_law_1085 rfl (lv_at hl 1 rfl) ?_
  refine lv_aload_n hx hb dL_law_1086 rfl (lv_at hl 3 rfl) ?_
  refine lv_iload_n hx hb dL_law_1087 rfl (lv_at hl 0 rfl) ?_
  refine lv_iconst (v := 1) hx hb dL_law_1088 (by decide) ?_
  refine lv_iadd hx hb dL_law_1089 ?_
  refine va_sld hx hb hX hbl hbA hS h1 dL_law_1090 ?_
  refine l_cVi (ci := 6) (As := [.int (xs (x3 + 1).toNatClampNeg)]) (rest := [.int q1.1]) C0 hb hml hl.1 hXS wm_L_132 md_X6_nights (k_X6_nights l G a2 μ hj2 ((xs (x3 + 1).toNatClampNeg)) q2 e2) rfl rfl ⟨(Nat.le_of_ble_eq_true rfl), (Nat.le_of_ble_eq_true rfl)⟩ hP2 hP hS (by decide) hA2 hdis.sy rfl (by decide) rfl rfl rfl (Nat.le_of_ble_eq_true rfl) dL_law_1091 hf (fun H locs hP2 hP hS => ?_)
  refine lv_icmp_eq (tgt := 1561) hx hb dL_law_1094 (by decide) (fun _ => ?_) (fun z => absurd he z)
  exact kk H locs ⟨hP, hP2, hS⟩
set_option maxHeartbeats 4000000 in
set_option maxRecDepth 100000 in
theorem lc_29 {p : Program} {l : Launch} {e : Env} {s : State} {m : MethodId} {below : List Frame} {meth : Method} {c : Code} {H : Heap} {locs : List Loc} {cells slots : Nat} {Q : State → Prop} {ls : Array Slot} {b L : Nat} {xs : Nat → Int32} {G : GG} {a a2 : Nat → Nat} {σ μ : Mem} {x3 : Int32} (C : LC p s m c b L xs G a a2) (hLS : LWS s G a a2 σ μ H locs) (hf : cells ≤ room_1.cells ∧ slots ≤ room_1.slots) (hl : lv_has ls 4 [(3, .int x3), (2, .ref (a2 0)), (1, .ref (a 0)), (0, .ref b)]) (h1 : vp_in (x3 + 1) L) (h2 : vp_in (x3 + 2) L) (h3 : vp_in (x3 + 3) L) (h4 : vp_in (x3 + 4) L) (h5 : vp_in (x3 + 5) L) (q1 : Int64 × Mem) (e1 : f_X5_odds ((xs (x3 + 1).toNatClampNeg)) ((xs (x3 + 2).toNatClampNeg)) σ = some q1) (q2 : Int64 × Mem) (e2 : f_X6_odds ((xs (x3 + 1).toNatClampNeg)) ((xs (x3 + 2).toNatClampNeg)) μ = some q2) (he : q1.1 = q2.1)
    (kk : ∀ (H : Heap) (locs : List Loc), LWS s G a a2 (q1.2) (q2.2) H locs → W p l e room_1 s m #[Value.ref b] below meth c H locs cells slots Q (F0 m 1561 ls [])) : W p l e room_1 s m #[Value.ref b] below meth c H locs cells slots Q (F0 m 1099 ls []) := by
  obtain ⟨C0, hb, hml, hXS, hX, hbl, hj1, hj2, hdis, hA1, hA2⟩ := C
  obtain ⟨hP, hP2, hS⟩ := hLS
  have hx := C0.1
  have hbA : ¬ A0 s b := Nat.not_le.mpr hbl
  refine lv_aload_n hx hb dL_law_1099 rfl (lv_at hl 2 rfl) ?_
  refine lv_aload_n hx hb dL_law_1100 rfl (lv_at hl 3 rfl) ?_
  refine lv_iload_n hx hb dL_law_1101 rfl (lv_at hl 0 rfl) ?_
  refine lv_iconst (v := 1) hx hb dL_law_1102 (by decide) ?_
  refine lv_iadd hx hb dL_law_1103 ?_
  refine va_sld hx hb hX hbl hbA hS h1 dL_law_1104 ?_
  refine lv_aload_n hx hb dL_law_1105 rfl (lv_at hl 3 rfl) ?_
  refine lv_iload_n hx hb dL_law_1106 rfl (lv_at hl 0 rfl) ?_
  refine lv_iconst (v := 2) hx hb dL_law_1107 (by decide) ?_
  refine lv_iadd hx hb dL_law_1108 ?_
  refine va_sld hx hb hX hbl hbA hS h2 dL_law_1109 ?_
  refine l_cVl (ci := 5) (As := [.int (xs (x3 + 1).toNatClampNeg), .int (xs (x3 + 2).toNatClampNeg)]) (rest := []) C0 hb hml hl.1 hXS wm_L_133 md_X5_odds (k_X5_odds l G a σ hj1 ((xs (x3 + 1).toNatClampNeg)) ((xs (x3 + 2).toNatClampNeg)) q1 e1) rfl rfl ⟨(Nat.le_of_ble_eq_true rfl), (Nat.le_of_ble_eq_true rfl)⟩ hP hP2 hS (by decide) hA1 hdis rfl (by decide) rfl rfl rfl (Nat.le_of_ble_eq_true rfl) dL_law_1110 hf (fun H locs hP hP2 hS => ?_)
  refine lv_aload_n hx hb dL_law_1113 rfl (lv_at hl 1 rfl) ?_
  refine lv_aload_n hx hb dL_law_1114 rfl (lv_at hl 3 rfl) ?_
  refine lv_iload_n hx hb dL_law_1115 rfl (lv_at hl 0 rfl) ?_
  refine lv_iconst (v := 1) hx hb dL_law_1116 (by decide) ?_
  refine lv_iadd hx hb dL_law_1117 ?_
  refine va_sld hx hb hX hbl hbA hS h1 dL_law_1118 ?_
  refine lv_aload_n hx hb dL_law_1119 rfl (lv_at hl 3 rfl) ?_
  refine lv_iload_n hx hb dL_law_1120 rfl (lv_at hl 0 rfl) ?_
  refine lv_iconst (v := 2) hx hb dL_law_1121 (by decide) ?_
  refine lv_iadd hx hb dL_law_1122 ?_
  refine va_sld hx hb hX hbl hbA hS h2 dL_law_1123 ?_
  refine l_cVl (ci := 6) (As := [.int (xs (x3 + 1).toNatClampNeg), .int (xs (x3 + 2).toNatClampNeg)]) (rest := [.long q1.1]) C0 hb hml hl.1 hXS wm_L_137 md_X6_odds (k_X6_odds l G a2 μ hj2 ((xs (x3 + 1).toNatClampNeg)) ((xs (x3 + 2).toNatClampNeg)) q2 e2) rfl rfl ⟨(Nat.le_of_ble_eq_true rfl), (Nat.le_of_ble_eq_true rfl)⟩ hP2 hP hS (by decide) hA2 hdis.sy rfl (by decide) rfl rfl rfl (Nat.le_of_ble_eq_true rfl) dL_law_1124 hf (fun H locs hP2 hP hS => ?_)
  refine W.lcmp hx hb dL_law_1127 ?_
  refine lv_if_eq (tgt := 1561) hx hb dL_law_1128 (by decide) (fun _ => ?_) (fun z => absurd (by rw [he]; exact lg_cmp_self _) z)
  exact kk H locs ⟨hP, hP2, hS⟩
set_option maxHeartbeats 4000000 in
set_option maxRecDepth 100000 in
theorem lc_30 {p : Program} {l : Launch} {e : Env} {s : State} {m : MethodId} {below : List Frame} {meth : Method} {c : Code} {H : Heap} {locs : List Loc} {cells slots : Nat} {Q : State → Prop} {ls : Array Slot} {b L : Nat} {xs : Nat → Int32} {G : GG} {a a2 : Nat → Nat} {σ μ : Mem} {x3 : Int32} (C : LC p s m c b L xs G a a2) (hLS : LWS s G a a2 σ μ H locs) (hf : cells ≤ room_1.cells ∧ slots ≤ room_1.slots) (hl : lv_has ls 4 [(3, .int x3), (2, .ref (a2 0)), (1, .ref (a 0)), (0, .ref b)]) (h1 : vp_in (x3 + 1) L) (h2 : vp_in (x3 + 2) L) (h3 : vp_in (x3 + 3) L) (h4 : vp_in (x3 + 4) L) (h5 : vp_in (x3 + 5) L) (q2 : Int32 × Mem) (e2 : f_X6_seed ((xs (x3 + 1).toNatClampNeg)) μ = some q2) (he : (f_X5_seed ((xs (x3 + 1).toNatClampNeg)) σ).1 = q2.1)
    (kk : ∀ (H : Heap) (locs : List Loc), LWS s G a a2 ((f_X5_seed ((xs (x3 + 1).toNatClampNeg)) σ).2) (q2.2) H locs → W p l e room_1 s m #[Value.ref b] below meth c H locs cells slots Q (F0 m 1561 ls [])) : W p l e room_1 s m #[Value.ref b] below meth c H locs cells slots Q (F0 m 1133 ls []) := by
  obtain ⟨C0, hb, hml, hXS, hX, hbl, hj1, hj2, hdis, hA1, hA2⟩ := C
  obtain ⟨hP, hP2, hS⟩ := hLS
  have hx := C0.1
  have hbA : ¬ A0 s b := Nat.not_le.mpr hbl
  refine lv_aload_n hx hb dL_law_1133 rfl (lv_at hl 2 rfl) ?_
  refine lv_aload_n hx hb dL_law_1134 rfl (lv_at hl 3 rfl) ?_
  refine lv_iload_n hx hb dL_law_1135 rfl (lv_at hl 0 rfl) ?_
  refine lv_iconst (v := 1) hx hb dL_law_1136 (by decide) ?_
  refine lv_iadd hx hb dL_law_1137 ?_
  refine va_sld hx hb hX hbl hbA hS h1 dL_law_1138 ?_
  refine l_cVi (ci := 5) (As := [.int (xs (x3 + 1).toNatClampNeg)]) (rest := []) C0 hb hml hl.1 hXS wm_L_138 md_X5_seed (k_X5_seed l G a σ hj1 ((xs (x3 + 1).toNatClampNeg))) rfl rfl ⟨(Nat.le_of_ble_eq_true rfl), (Nat.le_of_ble_eq_true rfl)⟩ hP hP2 hS (by decide) hA1 hdis rfl (by decide) rfl rfl rfl (Nat.le_of_ble_eq_true rfl) dL_law_1139 hf (fun H locs hP hP2 hS => ?_)
  refine lv_aload_n hx hb dL_law_1142 rfl (lv_at hl 1 rfl) ?_
  refine lv_aload_n hx hb dL_law_1143 rfl (lv_at hl 3 rfl) ?_
  refine lv_iload_n hx hb dL_law_1144 rfl (lv_at hl 0 rfl) ?_
  refine lv_iconst (v := 1) hx hb dL_law_1145 (by decide) ?_
  refine lv_iadd hx hb dL_law_1146 ?_
  refine va_sld hx hb hX hbl hbA hS h1 dL_law_1147 ?_
  refine l_cVi (ci := 6) (As := [.int (xs (x3 + 1).toNatClampNeg)]) (rest := [.int (f_X5_seed ((xs (x3 + 1).toNatClampNeg)) σ).1]) C0 hb hml hl.1 hXS wm_L_141 md_X6_seed (k_X6_seed l G a2 μ hj2 ((xs (x3 + 1).toNatClampNeg)) q2 e2) rfl rfl ⟨(Nat.le_of_ble_eq_true rfl), (Nat.le_of_ble_eq_true rfl)⟩ hP2 hP hS (by decide) hA2 hdis.sy rfl (by decide) rfl rfl rfl (Nat.le_of_ble_eq_true rfl) dL_law_1148 hf (fun H locs hP2 hP hS => ?_)
  refine lv_icmp_eq (tgt := 1561) hx hb dL_law_1151 (by decide) (fun _ => ?_) (fun z => absurd he z)
  exact kk H locs ⟨hP, hP2, hS⟩
set_option maxHeartbeats 4000000 in
set_option maxRecDepth 100000 in
theorem lc_31 {p : Program} {l : Launch} {e : Env} {s : State} {m : MethodId} {below : List Frame} {meth : Method} {c : Code} {H : Heap} {locs : List Loc} {cells slots : Nat} {Q : State → Prop} {ls : Array Slot} {b L : Nat} {xs : Nat → Int32} {G : GG} {a a2 : Nat → Nat} {σ μ : Mem} {x3 : Int32} (C : LC p s m c b L xs G a a2) (hLS : LWS s G a a2 σ μ H locs) (hf : cells ≤ room_1.cells ∧ slots ≤ room_1.slots) (hl : lv_has ls 4 [(3, .int x3), (2, .ref (a2 0)), (1, .ref (a 0)), (0, .ref b)]) (h1 : vp_in (x3 + 1) L) (h2 : vp_in (x3 + 2) L) (h3 : vp_in (x3 + 3) L) (h4 : vp_in (x3 + 4) L) (h5 : vp_in (x3 + 5) L) (q1 : Int32 × Mem) (e1 : f_X5_feed ((xs (x3 + 1).toNatClampNeg)) ((xs (x3 + 2).toNatClampNeg)) σ = some q1) (q2 : Int32 × Mem) (e2 : f_X6_feed ((xs (x3 + 1).toNatClampNeg)) ((xs (x3 + 2).toNatClampNeg)) μ = some q2) (he : q1.1 = q2.1)
    (kk : ∀ (H : Heap) (locs : List Loc), LWS s G a a2 (q1.2) (q2.2) H locs → W p l e room_1 s m #[Value.ref b] below meth c H locs cells slots Q (F0 m 1561 ls [])) : W p l e room_1 s m #[Value.ref b] below meth c H locs cells slots Q (F0 m 1156 ls []) := by
  obtain ⟨C0, hb, hml, hXS, hX, hbl, hj1, hj2, hdis, hA1, hA2⟩ := C
  obtain ⟨hP, hP2, hS⟩ := hLS
  have hx := C0.1
  have hbA : ¬ A0 s b := Nat.not_le.mpr hbl
  refine lv_aload_n hx hb dL_law_1156 rfl (lv_at hl 2 rfl) ?_
  refine lv_aload_n hx hb dL_law_1157 rfl (lv_at hl 3 rfl) ?_
  refine lv_iload_n hx hb dL_law_1158 rfl (lv_at hl 0 rfl) ?_
  refine lv_iconst (v := 1) hx hb dL_law_1159 (by decide) ?_
  refine lv_iadd hx hb dL_law_1160 ?_
  refine va_sld hx hb hX hbl hbA hS h1 dL_law_1161 ?_
  refine lv_aload_n hx hb dL_law_1162 rfl (lv_at hl 3 rfl) ?_
  refine lv_iload_n hx hb dL_law_1163 rfl (lv_at hl 0 rfl) ?_
  refine lv_iconst (v := 2) hx hb dL_law_1164 (by decide) ?_
  refine lv_iadd hx hb dL_law_1165 ?_
  refine va_sld hx hb hX hbl hbA hS h2 dL_law_1166 ?_
  refine l_cVi (ci := 5) (As := [.int (xs (x3 + 1).toNatClampNeg), .int (xs (x3 + 2).toNatClampNeg)]) (rest := []) C0 hb hml hl.1 hXS wm_L_142 md_X5_feed (k_X5_feed l G a σ hj1 ((xs (x3 + 1).toNatClampNeg)) ((xs (x3 + 2).toNatClampNeg)) q1 e1) rfl rfl ⟨(Nat.le_of_ble_eq_true rfl), (Nat.le_of_ble_eq_true rfl)⟩ hP hP2 hS (by decide) hA1 hdis rfl (by decide) rfl rfl rfl (Nat.le_of_ble_eq_true rfl) dL_law_1167 hf (fun H locs hP hP2 hS => ?_)
  refine lv_aload_n hx hb dL_law_1170 rfl (lv_at hl 1 rfl) ?_
  refine lv_aload_n hx hb dL_law_1171 rfl (lv_at hl 3 rfl) ?_
  refine lv_iload_n hx hb dL_law_1172 rfl (lv_at hl 0 rfl) ?_
  refine lv_iconst (v := 1) hx hb dL_law_1173 (by decide) ?_
  refine lv_iadd hx hb dL_law_1174 ?_
  refine va_sld hx hb hX hbl hbA hS h1 dL_law_1175 ?_
  refine lv_aload_n hx hb dL_law_1176 rfl (lv_at hl 3 rfl) ?_
  refine lv_iload_n hx hb dL_law_1177 rfl (lv_at hl 0 rfl) ?_
  refine lv_iconst (v := 2) hx hb dL_law_1178 (by decide) ?_
  refine lv_iadd hx hb dL_law_1179 ?_
  refine va_sld hx hb hX hbl hbA hS h2 dL_law_1180 ?_
  refine l_cVi (ci := 6) (As := [.int (xs (x3 + 1).toNatClampNeg), .int (xs (x3 + 2).toNatClampNeg)]) (rest := [.int q1.1]) C0 hb hml hl.1 hXS wm_L_145 md_X6_feed (k_X6_feed l G a2 μ hj2 ((xs (x3 + 1).toNatClampNeg)) ((xs (x3 + 2).toNatClampNeg)) q2 e2) rfl rfl ⟨(Nat.le_of_ble_eq_true rfl), (Nat.le_of_ble_eq_true rfl)⟩ hP2 hP hS (by decide) hA2 hdis.sy rfl (by decide) rfl rfl rfl (Nat.le_of_ble_eq_true rfl) dL_law_1181 hf (fun H locs hP2 hP hS => ?_)
  refine lv_icmp_eq (tgt := 1561) hx hb dL_law_1184 (by decide) (fun _ => ?_) (fun z => absurd he z)
  exact kk H locs ⟨hP, hP2, hS⟩
set_option maxHeartbeats 4000000 in
set_option maxRecDepth 100000 in
theorem lc_32 {p : Program} {l : Launch} {e : Env} {s : State} {m : MethodId} {below : List Frame} {meth : Method} {c : Code} {H : Heap} {locs : List Loc} {cells slots : Nat} {Q : State → Prop} {ls : Array Slot} {b L : Nat} {xs : Nat → Int32} {G : GG} {a a2 : Nat → Nat} {σ μ : Mem} {x3 : Int32} (C : LC p s m c b L xs G a a2) (hLS : LWS s G a a2 σ μ H locs) (hf : cells ≤ room_1.cells ∧ slots ≤ room_1.slots) (hl : lv_has ls 4 [(3, .int x3), (2, .ref (a2 0)), (1, .ref (a 0)), (0, .ref b)]) (h1 : vp_in (x3 + 1) L) (h2 : vp_in (x3 + 2) L) (h3 : vp_in (x3 + 3) L) (h4 : vp_in (x3 + 4) L) (h5 : vp_in (x3 + 5) L) (he : (f_X5_wipe σ).1 = (f_X6_wipe μ).1)
    (kk : ∀ (H : Heap) (locs : List Loc), LWS s G a a2 ((f_X5_wipe σ).2) ((f_X6_wipe μ).2) H locs → W p l e room_1 s m #[Value.ref b] below meth c H locs cells slots Q (F0 m 1561 ls [])) : W p l e room_1 s m #[Value.ref b] below meth c H locs cells slots Q (F0 m 1189 ls []) := by
  obtain ⟨C0, hb, hml, hXS, hX, hbl, hj1, hj2, hdis, hA1, hA2⟩ := C
  obtain ⟨hP, hP2, hS⟩ := hLS
  have hx := C0.1
  have hbA : ¬ A0 s b := Nat.not_le.mpr hbl
  refine lv_aload_n hx hb dL_law_1189 rfl (lv_at hl 2 rfl) ?_
  refine l_cVi (ci := 5) (As := []) (rest := []) C0 hb hml hl.1 hXS wm_L_146 md_X5_wipe (k_X5_wipe l G a σ hj1 ) rfl rfl ⟨(Nat.le_of_ble_eq_true rfl), (Nat.le_of_ble_eq_true rfl)⟩ hP hP2 hS (by decide) hA1 hdis rfl (by decide) rfl rfl rfl (Nat.le_of_ble_eq_true rfl) dL_law_1190 hf (fun H locs hP hP2 hS => ?_)
  refine lv_aload_n hx hb dL_law_1193 rfl (lv_at hl 1 rfl) ?_
  refine l_cVi (ci := 6) (As := []) (rest := [.int (f_X5_wipe σ).1]) C0 hb hml hl.1 hXS wm_L_149 md_X6_wipe (k_X6_wipe l G a2 μ hj2 ) rfl rfl ⟨(Nat.le_of_ble_eq_true rfl), (Nat.le_of_ble_eq_true rfl)⟩ hP2 hP hS (by decide) hA2 hdis.sy rfl (by decide) rfl rfl rfl (Nat.le_of_ble_eq_true rfl) dL_law_1194 hf (fun H locs hP2 hP hS => ?_)
  refine lv_icmp_eq (tgt := 1561) hx hb dL_law_1197 (by decide) (fun _ => ?_) (fun z => absurd he z)
  exact kk H locs ⟨hP, hP2, hS⟩
set_option maxHeartbeats 4000000 in
set_option maxRecDepth 100000 in
theorem lc_33 {p : Program} {l : Launch} {e : Env} {s : State} {m : MethodId} {below : List Frame} {meth : Method} {c : Code} {H : Heap} {locs : List Loc} {cells slots : Nat} {Q : State → Prop} {ls : Array Slot} {b L : Nat} {xs : Nat → Int32} {G : GG} {a a2 : Nat → Nat} {σ μ : Mem} {x3 : Int32} (C : LC p s m c b L xs G a a2) (hLS : LWS s G a a2 σ μ H locs) (hf : cells ≤ room_1.cells ∧ slots ≤ room_1.slots) (hl : lv_has ls 4 [(3, .int x3), (2, .ref (a2 0)), (1, .ref (a 0)), (0, .ref b)]) (h1 : vp_in (x3 + 1) L) (h2 : vp_in (x3 + 2) L) (h3 : vp_in (x3 + 3) L) (h4 : vp_in (x3 + 4) L) (h5 : vp_in (x3 + 5) L) (q1 : Int32 × Mem) (e1 : f_X5_text σ = some q1) (q2 : Int32 × Mem) (e2 : f_X6_text μ = some q2) (he : q1.1 = q2.1)
    (kk : ∀ (H : Heap) (locs : List Loc), LWS s G a a2 (q1.2) (q2.2) H locs → W p l e room_1 s m #[Value.ref b] below meth c H locs cells slots Q (F0 m 1561 ls [])) : W p l e room_1 s m #[Value.ref b] below meth c H locs cells slots Q (F0 m 1202 ls []) := by
  obtain ⟨C0, hb, hml, hXS, hX, hbl, hj1, hj2, hdis, hA1, hA2⟩ := C
  obtain ⟨hP, hP2, hS⟩ := hLS
  have hx := C0.1
  have hbA : ¬ A0 s b := Nat.not_le.mpr hbl
  refine lv_aload_n hx hb dL_law_1202 rfl (lv_at hl 2 rfl) ?_
  refine l_cVi (ci := 5) (As := []) (rest := []) C0 hb hml hl.1 hXS wm_L_150 md_X5_text (k_X5_text l G a σ hj1  q1 e1) rfl rfl ⟨(Nat.le_of_ble_eq_true rfl), (Nat.le_of_ble_eq_true rfl)⟩ hP hP2 hS (by decide) hA1 hdis rfl (by decide) rfl rfl rfl (Nat.le_of_ble_eq_true rfl) dL_law_1203 hf (fun H locs hP hP2 hS => ?_)
  refine lv_aload_n hx hb dL_law_1206 rfl (lv_at hl 1 rfl) ?_
  refine l_cVi (ci := 6) (As := []) (rest := [.int q1.1]) C0 hb hml hl.1 hXS wm_L_153 md_X6_text (k_X6_text l G a2 μ hj2  q2 e2) rfl rfl ⟨(Nat.le_of_ble_eq_true rfl), (Nat.le_of_ble_eq_true rfl)⟩ hP2 hP hS (by decide) hA2 hdis.sy rfl (by decide) rfl rfl rfl (Nat.le_of_ble_eq_true rfl) dL_law_1207 hf (fun H locs hP2 hP hS => ?_)
  refine lv_icmp_eq (tgt := 1561) hx hb dL_law_1210 (by decide) (fun _ => ?_) (fun z => absurd he z)
  exact kk H locs ⟨hP, hP2, hS⟩
set_option maxHeartbeats 4000000 in
set_option maxRecDepth 100000 in
theorem lc_34 {p : Program} {l : Launch} {e : Env} {s : State} {m : MethodId} {below : List Frame} {meth : Method} {c : Code} {H : Heap} {locs : List Loc} {cells slots : Nat} {Q : State → Prop} {ls : Array Slot} {b L : Nat} {xs : Nat → Int32} {G : GG} {a a2 : Nat → Nat} {σ μ : Mem} {x3 : Int32} (C : LC p s m c b L xs G a a2) (hLS : LWS s G a a2 σ μ H locs) (hf : cells ≤ room_1.cells ∧ slots ≤ room_1.slots) (hl : lv_has ls 4 [(3, .int x3), (2, .ref (a2 0)), (1, .ref (a 0)), (0, .ref b)]) (h1 : vp_in (x3 + 1) L) (h2 : vp_in (x3 + 2) L) (h3 : vp_in (x3 + 3) L) (h4 : vp_in (x3 + 4) L) (h5 : vp_in (x3 + 5) L) (q1 : Int32 × Mem) (e1 : f_X5_hold ((xs (x3 + 1).toNatClampNeg)) ((xs (x3 + 2).toNatClampNeg)) σ = some q1) (q2 : Int32 × Mem) (e2 : f_X6_hold ((xs (x3 + 1).toNatClampNeg)) ((xs (x3 + 2).toNatClampNeg)) μ = some q2) (he : q1.1 = q2.1)
    (kk : ∀ (H : Heap) (locs : List Loc), LWS s G a a2 (q1.2) (q2.2) H locs → W p l e room_1 s m #[Value.ref b] below meth c H locs cells slots Q (F0 m 1561 ls [])) : W p l e room_1 s m #[Value.ref b] below meth c H locs cells slots Q (F0 m 1215 ls []) := by
  obtain ⟨C0, hb, hml, hXS, hX, hbl, hj1, hj2, hdis, hA1, hA2⟩ := C
  obtain ⟨hP, hP2, hS⟩ := hLS
  have hx := C0.1
  have hbA : ¬ A0 s b := Nat.not_le.mpr hbl
  refine lv_aload_n hx hb dL_law_1215 rfl (lv_at hl 2 rfl) ?_
  refine lv_aload_n hx hb dL_law_1216 rfl (lv_at hl 3 rfl) ?_
  refine lv_iload_n hx hb dL_law_1217 rfl (lv_at hl 0 rfl) ?_
  refine lv_iconst (v := 1) hx hb dL_law_1218 (by decide) ?_
  refine lv_iadd hx hb dL_law_1219 ?_
  refine va_sld hx hb hX hbl hbA hS h1 dL_law_1220 ?_
  refine lv_aload_n hx hb dL_law_1221 rfl (lv_at hl 3 rfl) ?_
  refine lv_iload_n hx hb dL_law_1222 rfl (lv_at hl 0 rfl) ?_
  refine lv_iconst (v := 2) hx hb dL_law_1223 (by decide) ?_
  refine lv_iadd hx hb dL_law_1224 ?_
  refine va_sld hx hb hX hbl hbA hS h2 dL_law_1225 ?_
  refine l_cVi (ci := 5) (As := [.int (xs (x3 + 1).toNatClampNeg), .int (xs (x3 + 2).toNatClampNeg)]) (rest := []) C0 hb hml hl.1 hXS wm_L_154 md_X5_hold (k_X5_hold l G a σ hj1 ((xs (x3 + 1).toNatClampNeg)) ((xs (x3 + 2).toNatClampNeg)) q1 e1) rfl rfl ⟨(Nat.le_of_ble_eq_true rfl), (Nat.le_of_ble_eq_true rfl)⟩ hP hP2 hS (by decide) hA1 hdis rfl (by decide) rfl rfl rfl (Nat.le_of_ble_eq_true rfl) dL_law_1226 hf (fun H locs hP hP2 hS => ?_)
  refine lv_aload_n hx hb dL_law_1229 rfl (lv_at hl 1 rfl) ?_
  refine lv_aload_n hx hb dL_law_1230 rfl (lv_at hl 3 rfl) ?_
  refine lv_iload_n hx hb dL_law_1231 rfl (lv_at hl 0 rfl) ?_
  refine lv_iconst (v := 1) hx hb dL_law_1232 (by decide) ?_
  refine lv_iadd hx hb dL_law_1233 ?_
  refine va_sld hx hb hX hbl hbA hS h1 dL_law_1234 ?_
  refine lv_aload_n hx hb dL_law_1235 rfl (lv_at hl 3 rfl) ?_
  refine lv_iload_n hx hb dL_law_1236 rfl (lv_at hl 0 rfl) ?_
  refine lv_iconst (v := 2) hx hb dL_law_1237 (by decide) ?_
  refine lv_iadd hx hb dL_law_1238 ?_
  refine va_sld hx hb hX hbl hbA hS h2 dL_law_1239 ?_
  refine l_cVi (ci := 6) (As := [.int (xs (x3 + 1).toNatClampNeg), .int (xs (x3 + 2).toNatClampNeg)]) (rest := [.int q1.1]) C0 hb hml hl.1 hXS wm_L_157 md_X6_hold (k_X6_hold l G a2 μ hj2 ((xs (x3 + 1).toNatClampNeg)) ((xs (x3 + 2).toNatClampNeg)) q2 e2) rfl rfl ⟨(Nat.le_of_ble_eq_true rfl), (Nat.le_of_ble_eq_true rfl)⟩ hP2 hP hS (by decide) hA2 hdis.sy rfl (by decide) rfl rfl rfl (Nat.le_of_ble_eq_true rfl) dL_law_1240 hf (fun H locs hP2 hP hS => ?_)
  refine lv_icmp_eq (tgt := 1561) hx hb dL_law_1243 (by decide) (fun _ => ?_) (fun z => absurd he z)
  exact kk H locs ⟨hP, hP2, hS⟩
set_option maxHeartbeats 4000000 in
set_option maxRecDepth 100000 in
theorem lc_35 {p : Program} {l : Launch} {e : Env} {s : State} {m : MethodId} {below : List Frame} {meth : Method} {c : Code} {H : Heap} {locs : List Loc} {cells slots : Nat} {Q : State → Prop} {ls : Array Slot} {b L : Nat} {xs : Nat → Int32} {G : GG} {a a2 : Nat → Nat} {σ μ : Mem} {x3 : Int32} (C : LC p s m c b L xs G a a2) (hLS : LWS s G a a2 σ μ H locs) (hf : cells ≤ room_1.cells ∧ slots ≤ room_1.slots) (hl : lv_has ls 4 [(3, .int x3), (2, .ref (a2 0)), (1, .ref (a 0)), (0, .ref b)]) (h1 : vp_in (x3 + 1) L) (h2 : vp_in (x3 + 2) L) (h3 : vp_in (x3 + 3) L) (h4 : vp_in (x3 + 4) L) (h5 : vp_in (x3 + 5) L) (q1 : Int32 × Mem) (e1 : f_X5_as ((xs (x3 + 1).toNatClampNeg)) ((xs (x3 + 2).toNatClampNeg)) σ = some q1) (q2 : Int32 × Mem) (e2 : f_X6_as ((xs (x3 + 1).toNatClampNeg)) ((xs (x3 + 2).toNatClampNeg)) μ = some q2) (he : q1.1 = q2.1)
    (kk : ∀ (H : Heap) (locs : List Loc), LWS s G a a2 (q1.2) (q2.2) H locs → W p l e room_1 s m #[Value.ref b] below meth c H locs cells slots Q (F0 m 1561 ls [])) : W p l e room_1 s m #[Value.ref b] below meth c H locs cells slots Q (F0 m 1248 ls []) := by
  obtain ⟨C0, hb, hml, hXS, hX, hbl, hj1, hj2, hdis, hA1, hA2⟩ := C
  obtain ⟨hP, hP2, hS⟩ := hLS
  have hx := C0.1
  have hbA : ¬ A0 s b := Nat.not_le.mpr hbl
  refine lv_aload_n hx hb dL_law_1248 rfl (lv_at hl 2 rfl) ?_
  refine lv_aload_n hx hb dL_law_1249 rfl (lv_at hl 3 rfl) ?_
  refine lv_iload_n hx hb dL_law_1250 rfl (lv_at hl 0 rfl) ?_
  refine lv_iconst (v := 1) hx hb dL_law_1251 (by decide) ?_
  refine lv_iadd hx hb dL_law_1252 ?_
  refine va_sld hx hb hX hbl hbA hS h1 dL_law_1253 ?_
  refine lv_aload_n hx hb dL_law_1254 rfl (lv_at hl 3 rfl) ?_
  refine lv_iload_n hx hb dL_law_1255 rfl (lv_at hl 0 rfl) ?_
  refine lv_iconst (v := 2) hx hb dL_law_1256 (by decide) ?_
  refine lv_iadd hx hb dL_law_1257 ?_
  refine va_sld hx hb hX hbl hbA hS h2 dL_law_1258 ?_
  refine l_cVi (ci := 5) (As := [.int (xs (x3 + 1).toNatClampNeg), .int (xs (x3 + 2).toNatClampNeg)]) (rest := []) C0 hb hml hl.1 hXS wm_L_158 md_X5_as (k_X5_as l G a σ hj1 ((xs (x3 + 1).toNatClampNeg)) ((xs (x3 + 2).toNatClampNeg)) q1 e1) rfl rfl ⟨(Nat.le_of_ble_eq_true rfl), (Nat.le_of_ble_eq_true rfl)⟩ hP hP2 hS (by decide) hA1 hdis rfl (by decide) rfl rfl rfl (Nat.le_of_ble_eq_true rfl) dL_law_1259 hf (fun H locs hP hP2 hS => ?_)
  refine lv_aload_n hx hb dL_law_1262 rfl (lv_at hl 1 rfl) ?_
  refine lv_aload_n hx hb dL_law_1263 rfl (lv_at hl 3 rfl) ?_
  refine lv_iload_n hx hb dL_law_1264 rfl (lv_at hl 0 rfl) ?_
  refine lv_iconst (v := 1) hx hb dL_law_1265 (by decide) ?_
  refine lv_iadd hx hb dL_law_1266 ?_
  refine va_sld hx hb hX hbl hbA hS h1 dL_law_1267 ?_
  refine lv_aload_n hx hb dL_law_1268 rfl (lv_at hl 3 rfl) ?_
  refine lv_iload_n hx hb dL_law_1269 rfl (lv_at hl 0 rfl) ?_
  refine lv_iconst (v := 2) hx hb dL_law_1270 (by decide) ?_
  refine lv_iadd hx hb dL_law_1271 ?_
  refine va_sld hx hb hX hbl hbA hS h2 dL_law_1272 ?_
  refine l_cVi (ci := 6) (As := [.int (xs (x3 + 1).toNatClampNeg), .int (xs (x3 + 2).toNatClampNeg)]) (rest := [.int q1.1]) C0 hb hml hl.1 hXS wm_L_161 md_X6_as (k_X6_as l G a2 μ hj2 ((xs (x3 + 1).toNatClampNeg)) ((xs (x3 + 2).toNatClampNeg)) q2 e2) rfl rfl ⟨(Nat.le_of_ble_eq_true rfl), (Nat.le_of_ble_eq_true rfl)⟩ hP2 hP hS (by decide) hA2 hdis.sy rfl (by decide) rfl rfl rfl (Nat.le_of_ble_eq_true rfl) dL_law_1273 hf (fun H locs hP2 hP hS => ?_)
  refine lv_icmp_eq (tgt := 1561) hx hb dL_law_1276 (by decide) (fun _ => ?_) (fun z => absurd he z)
  exact kk H locs ⟨hP, hP2, hS⟩
set_option maxHeartbeats 4000000 in
set_option maxRecDepth 100000 in
theorem lc_36 {p : Program} {l : Launch} {e : Env} {s : State} {m : MethodId} {below : List Frame} {meth : Method} {c : Code} {H : Heap} {locs : List Loc} {cells slots : Nat} {Q : State → Prop} {ls : Array Slot} {b L : Nat} {xs : Nat → Int32} {G : GG} {a a2 : Nat → Nat} {σ μ : Mem} {x3 : Int32} (C : LC p s m c b L xs G a a2) (hLS : LWS s G a a2 σ μ H locs) (hf : cells ≤ room_1.cells ∧ slots ≤ room_1.slots) (hl : lv_has ls 4 [(3, .int x3), (2, .ref (a2 0)), (1, .ref (a 0)), (0, .ref b)]) (h1 : vp_in (x3 + 1) L) (h2 : vp_in (x3 + 2) L) (h3 : vp_in (x3 + 3) L) (h4 : vp_in (x3 + 4) L) (h5 : vp_in (x3 + 5) L) (q1 : Int32 × Mem) (e1 : f_X5_sheet ((xs (x3 + 1).toNatClampNeg)) ((xs (x3 + 2).toNatClampNeg)) ((xs (x3 + 3).toNatClampNeg)) σ = some q1) (q2 : Int32 × Mem) (e2 : f_X6_sheet ((xs (x3 + 1).toNatClampNeg)) ((xs (x3 + 2).toNatClampNeg)) ((xs (x3 + 3).toNatClampNeg)) μ = some q2) (he : q1.1 = q2.1)
    (kk : ∀ (H : Heap) (locs : List Loc), LWS s G a a2 (q1.2) (q2.2) H locs → W p l e room_1 s m #[Value.ref b] below meth c H locs cells slots Q (F0 m 1561 ls [])) : W p l e room_1 s m #[Value.ref b] below meth c H locs cells slots Q (F0 m 1281 ls []) := by
  obtain ⟨C0, hb, hml, hXS, hX, hbl, hj1, hj2, hdis, hA1, hA2⟩ := C
  obtain ⟨hP, hP2, hS⟩ := hLS
  have hx := C0.1
  have hbA : ¬ A0 s b := Nat.not_le.mpr hbl
  refine lv_aload_n hx hb dL_law_1281 rfl (lv_at hl 2 rfl) ?_
  refine lv_aload_n hx hb dL_law_1282 rfl (lv_at hl 3 rfl) ?_
  refine lv_iload_n hx hb dL_law_1283 rfl (lv_at hl 0 rfl) ?_
  refine lv_iconst (v := 1) hx hb dL_law_1284 (by decide) ?_
  refine lv_iadd hx hb dL_law_1285 ?_
  refine va_sld hx hb hX hbl hbA hS h1 dL_law_1286 ?_
  refine lv_aload_n hx hb dL_law_1287 rfl (lv_at hl 3 rfl) ?_
  refine lv_iload_n hx hb dL_law_1288 rfl (lv_at hl 0 rfl) ?_
  refine lv_iconst (v := 2) hx hb dL_law_1289 (by decide) ?_
  refine lv_iadd hx hb dL_law_1290 ?_
  refine va_sld hx hb hX hbl hbA hS h2 dL_law_1291 ?_
  refine lv_aload_n hx hb dL_law_1292 rfl (lv_at hl 3 rfl) ?_
  refine lv_iload_n hx hb dL_law_1293 rfl (lv_at hl 0 rfl) ?_
  refine lv_iconst (v := 3) hx hb dL_law_1294 (by decide) ?_
  refine lv_iadd hx hb dL_law_1295 ?_
  refine va_sld hx hb hX hbl hbA hS h3 dL_law_1296 ?_
  refine l_cVi (ci := 5) (As := [.int (xs (x3 + 1).toNatClampNeg), .int (xs (x3 + 2).toNatClampNeg), .int (xs (x3 + 3).toNatClampNeg)]) (rest := []) C0 hb hml hl.1 hXS wm_L_162 md_X5_sheet (k_X5_sheet l G a σ hj1 ((xs (x3 + 1).toNatClampNeg)) ((xs (x3 + 2).toNatClampNeg)) ((xs (x3 + 3).toNatClampNeg)) q1 e1) rfl rfl ⟨(Nat.le_of_ble_eq_true rfl), (Nat.le_of_ble_eq_true rfl)⟩ hP hP2 hS (by decide) hA1 hdis rfl (by decide) rfl rfl rfl (Nat.le_of_ble_eq_true rfl) dL_law_1297 hf (fun H locs hP hP2 hS => ?_)
  refine lv_aload_n hx hb dL_law_1300 rfl (lv_at hl 1 rfl) ?_
  refine lv_aload_n hx hb dL_law_1301 rfl (lv_at hl 3 rfl) ?_
  refine lv_iload_n hx hb dL_law_1302 rfl (lv_at hl 0 rfl) ?_
  refine lv_iconst (v := 1) hx hb dL_law_1303 (by decide) ?_
  refine lv_iadd hx hb dL_law_1304 ?_
  refine va_sld hx hb hX hbl hbA hS h1 dL_law_1305 ?_
  refine lv_aload_n hx hb dL_law_1306 rfl (lv_at hl 3 rfl) ?_
  refine lv_iload_n hx hb dL_law_1307 rfl (lv_at hl 0 rfl) ?_
  refine lv_iconst (v := 2) hx hb dL_law_1308 (by decide) ?_
  refine lv_iadd hx hb dL_law_1309 ?_
  refine va_sld hx hb hX hbl hbA hS h2 dL_law_1310 ?_
  refine lv_aload_n hx hb dL_law_1311 rfl (lv_at hl 3 rfl) ?_
  refine lv_iload_n hx hb dL_law_1312 rfl (lv_at hl 0 rfl) ?_
  refine lv_iconst (v := 3) hx hb dL_law_1313 (by decide) ?_
  refine lv_iadd hx hb dL_law_1314 ?_
  refine va_sld hx hb hX hbl hbA hS h3 dL_law_1315 ?_
  refine l_cVi (ci := 6) (As := [.int (xs (x3 + 1).toNatClampNeg), .int (xs (x3 + 2).toNatClampNeg), .int (xs (x3 + 3).toNatClampNeg)]) (rest := [.int q1.1]) C0 hb hml hl.1 hXS wm_L_165 md_X6_sheet (k_X6_sheet l G a2 μ hj2 ((xs (x3 + 1).toNatClampNeg)) ((xs (x3 + 2).toNatClampNeg)) ((xs (x3 + 3).toNatClampNeg)) q2 e2) rfl rfl ⟨(Nat.le_of_ble_eq_true rfl), (Nat.le_of_ble_eq_true rfl)⟩ hP2 hP hS (by decide) hA2 hdis.sy rfl (by decide) rfl rfl rfl (Nat.le_of_ble_eq_true rfl) dL_law_1316 hf (fun H locs hP2 hP hS => ?_)
  refine lv_icmp_eq (tgt := 1561) hx hb dL_law_1319 (by decide) (fun _ => ?_) (fun z => absurd he z)
  exact kk H locs ⟨hP, hP2, hS⟩
set_option maxHeartbeats 4000000 in
set_option maxRecDepth 100000 in
theorem lc_37 {p : Program} {l : Launch} {e : Env} {s : State} {m : MethodId} {below : List Frame} {meth : Method} {c : Code} {H : Heap} {locs : List Loc} {cells slots : Nat} {Q : State → Prop} {ls : Array Slot} {b L : Nat} {xs : Nat → Int32} {G : GG} {a a2 : Nat → Nat} {σ μ : Mem} {x3 : Int32} (C : LC p s m c b L xs G a a2) (hLS : LWS s G a a2 σ μ H locs) (hf : cells ≤ room_1.cells ∧ slots ≤ room_1.slots) (hl : lv_has ls 4 [(3, .int x3), (2, .ref (a2 0)), (1, .ref (a 0)), (0, .ref b)]) (h1 : vp_in (x3 + 1) L) (h2 : vp_in (x3 + 2) L) (h3 : vp_in (x3 + 3) L) (h4 : vp_in (x3 + 4) L) (h5 : vp_in (x3 + 5) L) (q1 : Int32 × Mem) (e1 : f_X5_write ((xs (x3 + 1).toNatClampNeg)) ((xs (x3 + 2).toNatClampNeg)) ((xs (x3 + 3).toNatClampNeg)) σ = some q1) (q2 : Int32 × Mem) (e2 : f_X6_write ((xs (x3 + 1).toNatClampNeg)) ((xs (x3 + 2).toNatClampNeg)) ((xs (x3 + 3).toNatClampNeg)) μ = some q2) (he : q1.1 = q2.1)
    (kk : ∀ (H : Heap) (locs : List Loc), LWS s G a a2 (q1.2) (q2.2) H locs → W p l e room_1 s m #[Value.ref b] below meth c H locs cells slots Q (F0 m 1561 ls [])) : W p l e room_1 s m #[Value.ref b] below meth c H locs cells slots Q (F0 m 1324 ls []) := by
  obtain ⟨C0, hb, hml, hXS, hX, hbl, hj1, hj2, hdis, hA1, hA2⟩ := C
  obtain ⟨hP, hP2, hS⟩ := hLS
  have hx := C0.1
  have hbA : ¬ A0 s b := Nat.not_le.mpr hbl
  refine lv_aload_n hx hb dL_law_1324 rfl (lv_at hl 2 rfl) ?_
  refine lv_aload_n hx hb dL_law_1325 rfl (lv_at hl 3 rfl) ?_
  refine lv_iload_n hx hb dL_law_1326 rfl (lv_at hl 0 rfl) ?_
  refine lv_iconst (v := 1) hx hb dL_law_1327 (by decide) ?_
  refine lv_iadd hx hb dL_law_1328 ?_
  refine va_sld hx hb hX hbl hbA hS h1 dL_law_1329 ?_
  refine lv_aload_n hx hb dL_law_1330 rfl (lv_at hl 3 rfl) ?_
  refine lv_iload_n hx hb dL_law_1331 rfl (lv_at hl 0 rfl) ?_
  refine lv_iconst (v := 2) hx hb dL_law_1332 (by decide) ?_
  refine lv_iadd hx hb dL_law_1333 ?_
  refine va_sld hx hb hX hbl hbA hS h2 dL_law_1334 ?_
  refine lv_aload_n hx hb dL_law_1335 rfl (lv_at hl 3 rfl) ?_
  refine lv_iload_n hx hb dL_law_1336 rfl (lv_at hl 0 rfl) ?_
  refine lv_iconst (v := 3) hx hb dL_law_1337 (by decide) ?_
  refine lv_iadd hx hb dL_law_1338 ?_
  refine va_sld hx hb hX hbl hbA hS h3 dL_law_1339 ?_
  refine l_cVi (ci := 5) (As := [.int (xs (x3 + 1).toNatClampNeg), .int (xs (x3 + 2).toNatClampNeg), .int (xs (x3 + 3).toNatClampNeg)]) (rest := []) C0 hb hml hl.1 hXS wm_L_166 md_X5_write (k_X5_write l G a σ hj1 ((xs (x3 + 1).toNatClampNeg)) ((xs (x3 + 2).toNatClampNeg)) ((xs (x3 + 3).toNatClampNeg)) q1 e1) rfl rfl ⟨(Nat.le_of_ble_eq_true rfl), (Nat.le_of_ble_eq_true rfl)⟩ hP hP2 hS (by decide) hA1 hdis rfl (by decide) rfl rfl rfl (Nat.le_of_ble_eq_true rfl) dL_law_1340 hf (fun H locs hP hP2 hS => ?_)
  refine lv_aload_n hx hb dL_law_1343 rfl (lv_at hl 1 rfl) ?_
  refine lv_aload_n hx hb dL_law_1344 rfl (lv_at hl 3 rfl) ?_
  refine lv_iload_n hx hb dL_law_1345 rfl (lv_at hl 0 rfl) ?_
  refine lv_iconst (v := 1) hx hb dL_law_1346 (by decide) ?_
  refine lv_iadd hx hb dL_law_1347 ?_
  refine va_sld hx hb hX hbl hbA hS h1 dL_law_1348 ?_
  refine lv_aload_n hx hb dL_law_1349 rfl (lv_at hl 3 rfl) ?_
  refine lv_iload_n hx hb dL_law_1350 rfl (lv_at hl 0 rfl) ?_
  refine lv_iconst (v := 2) hx hb dL_law_1351 (by decide) ?_
  refine lv_iadd hx hb dL_law_1352 ?_
  refine va_sld hx hb hX hbl hbA hS h2 dL_law_1353 ?_
  refine lv_aload_n hx hb dL_law_1354 rfl (lv_at hl 3 rfl) ?_
  refine lv_iload_n hx hb dL_law_1355 rfl (lv_at hl 0 rfl) ?_
  refine lv_iconst (v := 3) hx hb dL_law_1356 (by decide) ?_
  refine lv_iadd hx hb dL_law_1357 ?_
  refine va_sld hx hb hX hbl hbA hS h3 dL_law_1358 ?_
  refine l_cVi (ci := 6) (As := [.int (xs (x3 + 1).toNatClampNeg), .int (xs (x3 + 2).toNatClampNeg), .int (xs (x3 + 3).toNatClampNeg)]) (rest := [.int q1.1]) C0 hb hml hl.1 hXS wm_L_169 md_X6_write (k_X6_write l G a2 μ hj2 ((xs (x3 + 1).toNatClampNeg)) ((xs (x3 + 2).toNatClampNeg)) ((xs (x3 + 3).toNatClampNeg)) q2 e2) rfl rfl ⟨(Nat.le_of_ble_eq_true rfl), (Nat.le_of_ble_eq_true rfl)⟩ hP2 hP hS (by decide) hA2 hdis.sy rfl (by decide) rfl rfl rfl (Nat.le_of_ble_eq_true rfl) dL_law_1359 hf (fun H locs hP2 hP hS => ?_)
  refine lv_icmp_eq (tgt := 1561) hx hb dL_law_1362 (by decide) (fun _ => ?_) (fun z => absurd he z)
  exact kk H locs ⟨hP, hP2, hS⟩
set_option maxHeartbeats 4000000 in
set_option maxRecDepth 100000 in
theorem lc_38 {p : Program} {l : Launch} {e : Env} {s : State} {m : MethodId} {below : List Frame} {meth : Method} {c : Code} {H : Heap} {locs : List Loc} {cells slots : Nat} {Q : State → Prop} {ls : Array Slot} {b L : Nat} {xs : Nat → Int32} {G : GG} {a a2 : Nat → Nat} {σ μ : Mem} {x3 : Int32} (C : LC p s m c b L xs G a a2) (hLS : LWS s G a a2 σ μ H locs) (hf : cells ≤ room_1.cells ∧ slots ≤ room_1.slots) (hl : lv_has ls 4 [(3, .int x3), (2, .ref (a2 0)), (1, .ref (a 0)), (0, .ref b)]) (h1 : vp_in (x3 + 1) L) (h2 : vp_in (x3 + 2) L) (h3 : vp_in (x3 + 3) L) (h4 : vp_in (x3 + 4) L) (h5 : vp_in (x3 + 5) L) (q1 : Int32 × Mem) (e1 : f_X5_copy ((xs (x3 + 1).toNatClampNeg)) ((xs (x3 + 2).toNatClampNeg)) ((xs (x3 + 3).toNatClampNeg)) ((xs (x3 + 4).toNatClampNeg)) ((xs (x3 + 5).toNatClampNeg)) σ = some q1) (q2 : Int32 × Mem) (e2 : f_X6_copy ((xs (x3 + 1).toNatClampNeg)) ((xs (x3 + 2).toNatClampNeg)) ((xs (x3 + 3).toNatClampNeg)) ((xs (x3 + 4).toNatClampNeg)) ((xs (x3 + 5).toNatClampNeg)) μ = some q2) (he : q1.1 = q2.1)
    (kk : ∀ (H : Heap) (locs : List Loc), LWS s G a a2 (q1.2) (q2.2) H locs → W p l e room_1 s m #[Value.ref b] below meth c H locs cells slots Q (F0 m 1561 ls [])) : W p l e room_1 s m #[Value.ref b] below meth c H locs cells slots Q (F0 m 1367 ls []) := by
  obtain ⟨C0, hb, hml, hXS, hX, hbl, hj1, hj2, hdis, hA1, hA2⟩ := C
  obtain ⟨hP, hP2, hS⟩ := hLS
  have hx := C0.1
  have hbA : ¬ A0 s b := Nat.not_le.mpr hbl
  refine lv_aload_n hx hb dL_law_1367 rfl (lv_at hl 2 rfl) ?_
  refine lv_aload_n hx hb dL_law_1368 rfl (lv_at hl 3 rfl) ?_
  refine lv_iload_n hx hb dL_law_1369 rfl (lv_at hl 0 rfl) ?_
  refine lv_iconst (v := 1) hx hb dL_law_1370 (by decide) ?_
  refine lv_iadd hx hb dL_law_1371 ?_
  refine va_sld hx hb hX hbl hbA hS h1 dL_law_1372 ?_
  refine lv_aload_n hx hb dL_law_1373 rfl (lv_at hl 3 rfl) ?_
  refine lv_iload_n hx hb dL_law_1374 rfl (lv_at hl 0 rfl) ?_
  refine lv_iconst (v := 2) hx hb dL_law_1375 (by decide) ?_
  refine lv_iadd hx hb dL_law_1376 ?_
  refine va_sld hx hb hX hbl hbA hS h2 dL_law_1377 ?_
  refine lv_aload_n hx hb dL_law_1378 rfl (lv_at hl 3 rfl) ?_
  refine lv_iload_n hx hb dL_law_1379 rfl (lv_at hl 0 rfl) ?_
  refine lv_iconst (v := 3) hx hb dL_law_1380 (by decide) ?_
  refine lv_iadd hx hb dL_law_1381 ?_
  refine va_sld hx hb hX hbl hbA hS h3 dL_law_1382 ?_
  refine lv_aload_n hx hb dL_law_1383 rfl (lv_at hl 3 rfl) ?_
  refine lv_iload_n hx hb dL_law_1384 rfl (lv_at hl 0 rfl) ?_
  refine lv_iconst (v := 4) hx hb dL_law_1385 (by decide) ?_
  refine lv_iadd hx hb dL_law_1386 ?_
  refine va_sld hx hb hX hbl hbA hS h4 dL_law_1387 ?_
  refine lv_aload_n hx hb dL_law_1388 rfl (lv_at hl 3 rfl) ?_
  refine lv_iload_n hx hb dL_law_1389 rfl (lv_at hl 0 rfl) ?_
  refine lv_iconst (v := 5) hx hb dL_law_1390 (by decide) ?_
  refine lv_iadd hx hb dL_law_1391 ?_
  refine va_sld hx hb hX hbl hbA hS h5 dL_law_1392 ?_
  refine l_cVi (ci := 5) (As := [.int (xs (x3 + 1).toNatClampNeg), .int (xs (x3 + 2).toNatClampNeg), .int (xs (x3 + 3).toNatClampNeg), .int (xs (x3 + 4).toNatClampNeg), .int (xs (x3 + 5).toNatClampNeg)]) (rest := []) C0 hb hml hl.1 hXS wm_L_170 md_X5_copy (k_X5_copy l G a σ hj1 ((xs (x3 + 1).toNatClampNeg)) ((xs (x3 + 2).toNatClampNeg)) ((xs (x3 + 3).toNatClampNeg)) ((xs (x3 + 4).toNatClampNeg)) ((xs (x3 + 5).toNatClampNeg)) q1 e1) rfl rfl ⟨(Nat.le_of_ble_eq_true rfl), (Nat.le_of_ble_eq_true rfl)⟩ hP hP2 hS (by decide) hA1 hdis rfl (by decide) rfl rfl rfl (Nat.le_of_ble_eq_true rfl) dL_law_1393 hf (fun H locs hP hP2 hS => ?_)
  refine lv_aload_n hx hb dL_law_1396 rfl (lv_at hl 1 rfl) ?_
  refine lv_aload_n hx hb dL_law_1397 rfl (lv_at hl 3 rfl) ?_
  refine lv_iload_n hx hb dL_law_1398 rfl (lv_at hl 0 rfl) ?_
  refine lv_iconst (v := 1) hx hb dL_law_1399 (by decide) ?_
  refine lv_iadd hx hb dL_law_1400 ?_
  refine va_sld hx hb hX hbl hbA hS h1 dL_law_1401 ?_
  refine lv_aload_n hx hb dL_law_1402 rfl (lv_at hl 3 rfl) ?_
  refine lv_iload_n hx hb dL_law_1403 rfl (lv_at hl 0 rfl) ?_
  refine lv_iconst (v := 2) hx hb dL_law_1404 (by decide) ?_
  refine lv_iadd hx hb dL_law_1405 ?_
  refine va_sld hx hb hX hbl hbA hS h2 dL_law_1406 ?_
  refine lv_aload_n hx hb dL_law_1407 rfl (lv_at hl 3 rfl) ?_
  refine lv_iload_n hx hb dL_law_1408 rfl (lv_at hl 0 rfl) ?_
  refine lv_iconst (v := 3) hx hb dL_law_1409 (by decide) ?_
  refine lv_iadd hx hb dL_law_1410 ?_
  refine va_sld hx hb hX hbl hbA hS h3 dL_law_1411 ?_
  refine lv_aload_n hx hb dL_law_1412 rfl (lv_at hl 3 rfl) ?_
  refine lv_iload_n hx hb dL_law_1413 rfl (lv_at hl 0 rfl) ?_
  refine lv_iconst (v := 4) hx hb dL_law_1414 (by decide) ?_
  refine lv_iadd hx hb dL_law_1415 ?_
  refine va_sld hx hb hX hbl hbA hS h4 dL_law_1416 ?_
  refine lv_aload_n hx hb dL_law_1417 rfl (lv_at hl 3 rfl) ?_
  refine lv_iload_n hx hb dL_law_1418 rfl (lv_at hl 0 rfl) ?_
  refine lv_iconst (v := 5) hx hb dL_law_1419 (by decide) ?_
  refine lv_iadd hx hb dL_law_1420 ?_
  refine va_sld hx hb hX hbl hbA hS h5 dL_law_1421 ?_
  refine l_cVi (ci := 6) (As := [.int (xs (x3 + 1).toNatClampNeg), .int (xs (x3 + 2).toNatClampNeg), .int (xs (x3 + 3).toNatClampNeg), .int (xs (x3 + 4).toNatClampNeg), .int (xs (x3 + 5).toNatClampNeg)]) (rest := [.int q1.1]) C0 hb hml hl.1 hXS wm_L_174 md_X6_copy (k_X6_copy l G a2 μ hj2 ((xs (x3 + 1).toNatClampNeg)) ((xs (x3 + 2).toNatClampNeg)) ((xs (x3 + 3).toNatClampNeg)) ((xs (x3 + 4).toNatClampNeg)) ((xs (x3 + 5).toNatClampNeg)) q2 e2) rfl rfl ⟨(Nat.le_of_ble_eq_true rfl), (Nat.le_of_ble_eq_true rfl)⟩ hP2 hP hS (by decide) hA2 hdis.sy rfl (by decide) rfl rfl rfl (Nat.le_of_ble_eq_true rfl) dL_law_1422 hf (fun H locs hP2 hP hS => ?_)
  refine lv_icmp_eq (tgt := 1561) hx hb dL_law_1425 (by decide) (fun _ => ?_) (fun z => absurd he z)
  exact kk H locs ⟨hP, hP2, hS⟩
set_option maxHeartbeats 4000000 in
set_option maxRecDepth 100000 in
theorem lc_39 {p : Program} {l : Launch} {e : Env} {s : State} {m : MethodId} {below : List Frame} {meth : Method} {c : Code} {H : Heap} {locs : List Loc} {cells slots : Nat} {Q : State → Prop} {ls : Array Slot} {b L : Nat} {xs : Nat → Int32} {G : GG} {a a2 : Nat → Nat} {σ μ : Mem} {x3 : Int32} (C : LC p s m c b L xs G a a2) (hLS : LWS s G a a2 σ μ H locs) (hf : cells ≤ room_1.cells ∧ slots ≤ room_1.slots) (hl : lv_has ls 4 [(3, .int x3), (2, .ref (a2 0)), (1, .ref (a 0)), (0, .ref b)]) (h1 : vp_in (x3 + 1) L) (h2 : vp_in (x3 + 2) L) (h3 : vp_in (x3 + 3) L) (h4 : vp_in (x3 + 4) L) (h5 : vp_in (x3 + 5) L) (q1 : Int32 × Mem) (e1 : f_X5_load ((xs (x3 + 1).toNatClampNeg)) σ = some q1) (q2 : Int32 × Mem) (e2 : f_X6_load ((xs (x3 + 1).toNatClampNeg)) μ = some q2) (he : q1.1 = q2.1)
    (kk : ∀ (H : Heap) (locs : List Loc), LWS s G a a2 (q1.2) (q2.2) H locs → W p l e room_1 s m #[Value.ref b] below meth c H locs cells slots Q (F0 m 1561 ls [])) : W p l e room_1 s m #[Value.ref b] below meth c H locs cells slots Q (F0 m 1430 ls []) := by
  obtain ⟨C0, hb, hml, hXS, hX, hbl, hj1, hj2, hdis, hA1, hA2⟩ := C
  obtain ⟨hP, hP2, hS⟩ := hLS
  have hx := C0.1
  have hbA : ¬ A0 s b := Nat.not_le.mpr hbl
  refine lv_aload_n hx hb dL_law_1430 rfl (lv_at hl 2 rfl) ?_
  refine lv_aload_n hx hb dL_law_1431 rfl (lv_at hl 3 rfl) ?_
  refine lv_iload_n hx hb dL_law_1432 rfl (lv_at hl 0 rfl) ?_
  refine lv_iconst (v := 1) hx hb dL_law_1433 (by decide) ?_
  refine lv_iadd hx hb dL_law_1434 ?_
  refine va_sld hx hb hX hbl hbA hS h1 dL_law_1435 ?_
  refine l_cVi (ci := 5) (As := [.int (xs (x3 + 1).toNatClampNeg)]) (rest := []) C0 hb hml hl.1 hXS wm_L_175 md_X5_load (k_X5_load l G a σ hj1 ((xs (x3 + 1).toNatClampNeg)) q1 e1) rfl rfl ⟨(Nat.le_of_ble_eq_true rfl), (Nat.le_of_ble_eq_true rfl)⟩ hP hP2 hS (by decide) hA1 hdis rfl (by decide) rfl rfl rfl (Nat.le_of_ble_eq_true rfl) dL_law_1436 hf (fun H locs hP hP2 hS => ?_)
  refine lv_aload_n hx hb dL_law_1439 rfl (lv_at hl 1 rfl) ?_
  refine lv_aload_n hx hb dL_law_1440 rfl (lv_at hl 3 rfl) ?_
  refine lv_iload_n hx hb dL_law_1441 rfl (lv_at hl 0 rfl) ?_
  refine lv_iconst (v := 1) hx hb dL_law_1442 (by decide) ?_
  refine lv_iadd hx hb dL_law_1443 ?_
  refine va_sld hx hb hX hbl hbA hS h1 dL_law_1444 ?_
  refine l_cVi (ci := 6) (As := [.int (xs (x3 + 1).toNatClampNeg)]) (rest := [.int q1.1]) C0 hb hml hl.1 hXS wm_L_178 md_X6_load (k_X6_load l G a2 μ hj2 ((xs (x3 + 1).toNatClampNeg)) q2 e2) rfl rfl ⟨(Nat.le_of_ble_eq_true rfl), (Nat.le_of_ble_eq_true rfl)⟩ hP2 hP hS (by decide) hA2 hdis.sy rfl (by decide) rfl rfl rfl (Nat.le_of_ble_eq_true rfl) dL_law_1445 hf (fun H locs hP2 hP hS => ?_)
  refine lv_icmp_eq (tgt := 1561) hx hb dL_law_1448 (by decide) (fun _ => ?_) (fun z => absurd he z)
  exact kk H locs ⟨hP, hP2, hS⟩
set_option maxHeartbeats 4000000 in
set_option maxRecDepth 100000 in
theorem lc_40 {p : Program} {l : Launch} {e : Env} {s : State} {m : MethodId} {below : List Frame} {meth : Method} {c : Code} {H : Heap} {locs : List Loc} {cells slots : Nat} {Q : State → Prop} {ls : Array Slot} {b L : Nat} {xs : Nat → Int32} {G : GG} {a a2 : Nat → Nat} {σ μ : Mem} {x3 : Int32} (C : LC p s m c b L xs G a a2) (hLS : LWS s G a a2 σ μ H locs) (hf : cells ≤ room_1.cells ∧ slots ≤ room_1.slots) (hl : lv_has ls 4 [(3, .int x3), (2, .ref (a2 0)), (1, .ref (a 0)), (0, .ref b)]) (h1 : vp_in (x3 + 1) L) (h2 : vp_in (x3 + 2) L) (h3 : vp_in (x3 + 3) L) (h4 : vp_in (x3 + 4) L) (h5 : vp_in (x3 + 5) L) (q1 : Int32 × Mem) (e1 : f_X5_judge ((xs (x3 + 1).toNatClampNeg)) σ = some q1) (q2 : Int32 × Mem) (e2 : f_X6_judge ((xs (x3 + 1).toNatClampNeg)) μ = some q2) (he : q1.1 = q2.1)
    (kk : ∀ (H : Heap) (locs : List Loc), LWS s G a a2 (q1.2) (q2.2) H locs → W p l e room_1 s m #[Value.ref b] below meth c H locs cells slots Q (F0 m 1561 ls [])) : W p l e room_1 s m #[Value.ref b] below meth c H locs cells slots Q (F0 m 1453 ls []) := by
  obtain ⟨C0, hb, hml, hXS, hX, hbl, hj1, hj2, hdis, hA1, hA2⟩ := C
  obtain ⟨hP, hP2, hS⟩ := hLS
  have hx := C0.1
  have hbA : ¬ A0 s b := Nat.not_le.mpr hbl
  refine lv_aload_n hx hb dL_law_1453 rfl (lv_at hl 2 rfl) ?_
  refine lv_aload_n hx hb dL_law_1454 rfl (lv_at hl 3 rfl) ?_
  refine lv_iload_n hx hb dL_law_1455 rfl (lv_at hl 0 rfl) ?_
  refine lv_iconst (v := 1) hx hb dL_law_1456 (by decide) ?_
  refine lv_iadd hx hb dL_law_1457 ?_
  refine va_sld hx hb hX hbl hbA hS h1 dL_law_1458 ?_
  refine l_cVi (ci := 5) (As := [.int (xs (x3 + 1).toNatClampNeg)]) (rest := []) C0 hb hml hl.1 hXS wm_L_179 md_X5_judge (k_X5_judge l G a σ hj1 ((xs (x3 + 1).toNatClampNeg)) q1 e1) rfl rfl ⟨(Nat.le_of_ble_eq_true rfl), (Nat.le_of_ble_eq_true rfl)⟩ hP hP2 hS (by decide) hA1 hdis rfl (by decide) rfl rfl rfl (Nat.le_of_ble_eq_true rfl) dL_law_1459 hf (fun H locs hP hP2 hS => ?_)
  refine lv_aload_n hx hb dL_law_1462 rfl (lv_at hl 1 rfl) ?_
  refine lv_aload_n hx hb dL_law_1463 rfl (lv_at hl 3 rfl) ?_
  refine lv_iload_n hx hb dL_law_1464 rfl (lv_at hl 0 rfl) ?_
  refine lv_iconst (v := 1) hx hb dL_law_1465 (by decide) ?_
  refine lv_iadd hx hb dL_law_1466 ?_
  refine va_sld hx hb hX hbl hbA hS h1 dL_law_1467 ?_
  refine l_cVi (ci := 6) (As := [.int (xs (x3 + 1).toNatClampNeg)]) (rest := [.int q1.1]) C0 hb hml hl.1 hXS wm_L_182 md_X6_judge (k_X6_judge l G a2 μ hj2 ((xs (x3 + 1).toNatClampNeg)) q2 e2) rfl rfl ⟨(Nat.le_of_ble_eq_true rfl), (Nat.le_of_ble_eq_true rfl)⟩ hP2 hP hS (by decide) hA2 hdis.sy rfl (by decide) rfl rfl rfl (Nat.le_of_ble_eq_true rfl) dL_law_1468 hf (fun H locs hP2 hP hS => ?_)
  refine lv_icmp_eq (tgt := 1561) hx hb dL_law_1471 (by decide) (fun _ => ?_) (fun z => absurd he z)
  exact kk H locs ⟨hP, hP2, hS⟩
set_option maxHeartbeats 4000000 in
set_option maxRecDepth 100000 in
theorem lc_41 {p : Program} {l : Launch} {e : Env} {s : State} {m : MethodId} {below : List Frame} {meth : Method} {c : Code} {H : Heap} {locs : List Loc} {cells slots : Nat} {Q : State → Prop} {ls : Array Slot} {b L : Nat} {xs : Nat → Int32} {G : GG} {a a2 : Nat → Nat} {σ μ : Mem} {x3 : Int32} (C : LC p s m c b L xs G a a2) (hLS : LWS s G a a2 σ μ H locs) (hf : cells ≤ room_1.cells ∧ slots ≤ room_1.slots) (hl : lv_has ls 4 [(3, .int x3), (2, .ref (a2 0)), (1, .ref (a 0)), (0, .ref b)]) (h1 : vp_in (x3 + 1) L) (h2 : vp_in (x3 + 2) L) (h3 : vp_in (x3 + 3) L) (h4 : vp_in (x3 + 4) L) (h5 : vp_in (x3 + 5) L) (q1 : Int32 × Mem) (e1 : f_X5_image σ = some q1) (q2 : Int32 × Mem) (e2 : f_X6_image μ = some q2) (he : q1.1 = q2.1)
    (kk : ∀ (H : Heap) (locs : List Loc), LWS s G a a2 (q1.2) (q2.2) H locs → W p l e room_1 s m #[Value.ref b] below meth c H locs cells slots Q (F0 m 1561 ls [])) : W p l e room_1 s m #[Value.ref b] below meth c H locs cells slots Q (F0 m 1476 ls []) := by
  obtain ⟨C0, hb, hml, hXS, hX, hbl, hj1, hj2, hdis, hA1, hA2⟩ := C
  obtain ⟨hP, hP2, hS⟩ := hLS
  have hx := C0.1
  have hbA : ¬ A0 s b := Nat.not_le.mpr hbl
  refine lv_aload_n hx hb dL_law_1476 rfl (lv_at hl 2 rfl) ?_
  refine l_cVi (ci := 5) (As := []) (rest := []) C0 hb hml hl.1 hXS wm_L_183 md_X5_image (k_X5_image l G a σ hj1  q1 e1) rfl rfl ⟨(Nat.le_of_ble_eq_true rfl), (Nat.le_of_ble_eq_true rfl)⟩ hP hP2 hS (by decide) hA1 hdis rfl (by decide) rfl rfl rfl (Nat.le_of_ble_eq_true rfl) dL_law_1477 hf (fun H locs hP hP2 hS => ?_)
  refine lv_aload_n hx hb dL_law_1480 rfl (lv_at hl 1 rfl) ?_
  refine l_cVi (ci := 6) (As := []) (rest := [.int q1.1]) C0 hb hml hl.1 hXS wm_L_186 md_X6_image (k_X6_image l G a2 μ hj2  q2 e2) rfl rfl ⟨(Nat.le_of_ble_eq_true rfl), (Nat.le_of_ble_eq_true rfl)⟩ hP2 hP hS (by decide) hA2 hdis.sy rfl (by decide) rfl rfl rfl (Nat.le_of_ble_eq_true rfl) dL_law_1481 hf (fun H locs hP2 hP hS => ?_)
  refine lv_icmp_eq (tgt := 1561) hx hb dL_law_1484 (by decide) (fun _ => ?_) (fun z => absurd he z)
  exact kk H locs ⟨hP, hP2, hS⟩
set_option maxHeartbeats 4000000 in
set_option maxRecDepth 100000 in
theorem lc_42 {p : Program} {l : Launch} {e : Env} {s : State} {m : MethodId} {below : List Frame} {meth : Method} {c : Code} {H : Heap} {locs : List Loc} {cells slots : Nat} {Q : State → Prop} {ls : Array Slot} {b L : Nat} {xs : Nat → Int32} {G : GG} {a a2 : Nat → Nat} {σ μ : Mem} {x3 : Int32} (C : LC p s m c b L xs G a a2) (hLS : LWS s G a a2 σ μ H locs) (hf : cells ≤ room_1.cells ∧ slots ≤ room_1.slots) (hl : lv_has ls 4 [(3, .int x3), (2, .ref (a2 0)), (1, .ref (a 0)), (0, .ref b)]) (h1 : vp_in (x3 + 1) L) (h2 : vp_in (x3 + 2) L) (h3 : vp_in (x3 + 3) L) (h4 : vp_in (x3 + 4) L) (h5 : vp_in (x3 + 5) L) (q1 : Int32 × Mem) (e1 : f_X5_undo σ = some q1) (q2 : Int32 × Mem) (e2 : f_X6_undo μ = some q2) (he : q1.1 = q2.1)
    (kk : ∀ (H : Heap) (locs : List Loc), LWS s G a a2 (q1.2) (q2.2) H locs → W p l e room_1 s m #[Value.ref b] below meth c H locs cells slots Q (F0 m 1561 ls [])) : W p l e room_1 s m #[Value.ref b] below meth c H locs cells slots Q (F0 m 1489 ls []) := by
  obtain ⟨C0, hb, hml, hXS, hX, hbl, hj1, hj2, hdis, hA1, hA2⟩ := C
  obtain ⟨hP, hP2, hS⟩ := hLS
  have hx := C0.1
  have hbA : ¬ A0 s b := Nat.not_le.mpr hbl
  refine lv_aload_n hx hb dL_law_1489 rfl (lv_at hl 2 rfl) ?_
  refine l_cVi (ci := 5) (As := []) (rest := []) C0 hb hml hl.1 hXS wm_L_187 md_X5_undo (k_X5_undo l G a σ hj1  q1 e1) rfl rfl ⟨(Nat.le_of_ble_eq_true rfl), (Nat.le_of_ble_eq_true rfl)⟩ hP hP2 hS (by decide) hA1 hdis rfl (by decide) rfl rfl rfl (Nat.le_of_ble_eq_true rfl) dL_law_1490 hf (fun H locs hP hP2 hS => ?_)
  refine lv_aload_n hx hb dL_law_1493 rfl (lv_at hl 1 rfl) ?_
  refine l_cVi (ci := 6) (As := []) (rest := [.int q1.1]) C0 hb hml hl.1 hXS wm_L_190 md_X6_undo (k_X6_undo l G a2 μ hj2  q2 e2) rfl rfl ⟨(Nat.le_of_ble_eq_true rfl), (Nat.le_of_ble_eq_true rfl)⟩ hP2 hP hS (by decide) hA2 hdis.sy rfl (by decide) rfl rfl rfl (Nat.le_of_ble_eq_true rfl) dL_law_1494 hf (fun H locs hP2 hP hS => ?_)
  refine lv_icmp_eq (tgt := 1561) hx hb dL_law_1497 (by decide) (fun _ => ?_) (fun z => absurd he z)
  exact kk H locs ⟨hP, hP2, hS⟩
set_option maxHeartbeats 4000000 in
set_option maxRecDepth 100000 in
theorem lc_43 {p : Program} {l : Launch} {e : Env} {s : State} {m : MethodId} {below : List Frame} {meth : Method} {c : Code} {H : Heap} {locs : List Loc} {cells slots : Nat} {Q : State → Prop} {ls : Array Slot} {b L : Nat} {xs : Nat → Int32} {G : GG} {a a2 : Nat → Nat} {σ μ : Mem} {x3 : Int32} (C : LC p s m c b L xs G a a2) (hLS : LWS s G a a2 σ μ H locs) (hf : cells ≤ room_1.cells ∧ slots ≤ room_1.slots) (hl : lv_has ls 4 [(3, .int x3), (2, .ref (a2 0)), (1, .ref (a 0)), (0, .ref b)]) (h1 : vp_in (x3 + 1) L) (h2 : vp_in (x3 + 2) L) (h3 : vp_in (x3 + 3) L) (h4 : vp_in (x3 + 4) L) (h5 : vp_in (x3 + 5) L) (he : (f_X5_tear σ).1 = (f_X6_tear μ).1)
    (kk : ∀ (H : Heap) (locs : List Loc), LWS s G a a2 ((f_X5_tear σ).2) ((f_X6_tear μ).2) H locs → W p l e room_1 s m #[Value.ref b] below meth c H locs cells slots Q (F0 m 1561 ls [])) : W p l e room_1 s m #[Value.ref b] below meth c H locs cells slots Q (F0 m 1502 ls []) := by
  obtain ⟨C0, hb, hml, hXS, hX, hbl, hj1, hj2, hdis, hA1, hA2⟩ := C
  obtain ⟨hP, hP2, hS⟩ := hLS
  have hx := C0.1
  have hbA : ¬ A0 s b := Nat.not_le.mpr hbl
  refine lv_aload_n hx hb dL_law_1502 rfl (lv_at hl 2 rfl) ?_
  refine l_cVi (ci := 5) (As := []) (rest := []) C0 hb hml hl.1 hXS wm_L_191 md_X5_tear (k_X5_tear l G a σ hj1 ) rfl rfl ⟨(Nat.le_of_ble_eq_true rfl), (Nat.le_of_ble_eq_true rfl)⟩ hP hP2 hS (by decide) hA1 hdis rfl (by decide) rfl rfl rfl (Nat.le_of_ble_eq_true rfl) dL_law_1503 hf (fun H locs hP hP2 hS => ?_)
  refine lv_aload_n hx hb dL_law_1506 rfl (lv_at hl 1 rfl) ?_
  refine l_cVi (ci := 6) (As := []) (rest := [.int (f_X5_tear σ).1]) C0 hb hml hl.1 hXS wm_L_194 md_X6_tear (k_X6_tear l G a2 μ hj2 ) rfl rfl ⟨(Nat.le_of_ble_eq_true rfl), (Nat.le_of_ble_eq_true rfl)⟩ hP2 hP hS (by decide) hA2 hdis.sy rfl (by decide) rfl rfl rfl (Nat.le_of_ble_eq_true rfl) dL_law_1507 hf (fun H locs hP2 hP hS => ?_)
  refine lv_icmp_eq (tgt := 1561) hx hb dL_law_1510 (by decide) (fun _ => ?_) (fun z => absurd he z)
  exact kk H locs ⟨hP, hP2, hS⟩
set_option maxHeartbeats 4000000 in
set_option maxRecDepth 100000 in
theorem lc_44 {p : Program} {l : Launch} {e : Env} {s : State} {m : MethodId} {below : List Frame} {meth : Method} {c : Code} {H : Heap} {locs : List Loc} {cells slots : Nat} {Q : State → Prop} {ls : Array Slot} {b L : Nat} {xs : Nat → Int32} {G : GG} {a a2 : Nat → Nat} {σ μ : Mem} {x3 : Int32} (C : LC p s m c b L xs G a a2) (hLS : LWS s G a a2 σ μ H locs) (hf : cells ≤ room_1.cells ∧ slots ≤ room_1.slots) (hl : lv_has ls 4 [(3, .int x3), (2, .ref (a2 0)), (1, .ref (a 0)), (0, .ref b)]) (h1 : vp_in (x3 + 1) L) (h2 : vp_in (x3 + 2) L) (h3 : vp_in (x3 + 3) L) (h4 : vp_in (x3 + 4) L) (h5 : vp_in (x3 + 5) L) (q1 : Int32 × Mem) (e1 : f_X5_count ((xs (x3 + 1).toNatClampNeg)) σ = some q1) (q2 : Int32 × Mem) (e2 : f_X6_count ((xs (x3 + 1).toNatClampNeg)) μ = some q2) (he : q1.1 = q2.1)
    (kk : ∀ (H : Heap) (locs : List Loc), LWS s G a a2 (q1.2) (q2.2) H locs → W p l e room_1 s m #[Value.ref b] below meth c H locs cells slots Q (F0 m 1561 ls [])) : W p l e room_1 s m #[Value.ref b] below meth c H locs cells slots Q (F0 m 1515 ls []) := by
  obtain ⟨C0, hb, hml, hXS, hX, hbl, hj1, hj2, hdis, hA1, hA2⟩ := C
  obtain ⟨hP, hP2, hS⟩ := hLS
  have hx := C0.1
  have hbA : ¬ A0 s b := Nat.not_le.mpr hbl
  refine lv_aload_n hx hb dL_law_1515 rfl (lv_at hl 2 rfl) ?_
  refine lv_aload_n hx hb dL_law_1516 rfl (lv_at hl 3 rfl) ?_
  refine lv_iload_n hx hb dL_law_1517 rfl (lv_at hl 0 rfl) ?_
  refine lv_iconst (v := 1) hx hb dL_law_1518 (by decide) ?_
  refine lv_iadd hx hb dL_law_1519 ?_
  refine va_sld hx hb hX hbl hbA hS h1 dL_law_1520 ?_
  refine l_cVi (ci := 5) (As := [.int (xs (x3 + 1).toNatClampNeg)]) (rest := []) C0 hb hml hl.1 hXS wm_L_195 md_X5_count (k_X5_count l G a σ hj1 ((xs (x3 + 1).toNatClampNeg)) q1 e1) rfl rfl ⟨(Nat.le_of_ble_eq_true rfl), (Nat.le_of_ble_eq_true rfl)⟩ hP hP2 hS (by decide) hA1 hdis rfl (by decide) rfl rfl rfl (Nat.le_of_ble_eq_true rfl) dL_law_1521 hf (fun H locs hP hP2 hS => ?_)
  refine lv_aload_n hx hb dL_law_1524 rfl (lv_at hl 1 rfl) ?_
  refine lv_aload_n hx hb dL_law_1525 rfl (lv_at hl 3 rfl) ?_
  refine lv_iload_n hx hb dL_law_1526 rfl (lv_at hl 0 rfl) ?_
  refine lv_iconst (v := 1) hx hb dL_law_1527 (by decide) ?_
  refine lv_iadd hx hb dL_law_1528 ?_
  refine va_sld hx hb hX hbl hbA hS h1 dL_law_1529 ?_
  refine l_cVi (ci := 6) (As := [.int (xs (x3 + 1).toNatClampNeg)]) (rest := [.int q1.1]) C0 hb hml hl.1 hXS wm_L_198 md_X6_count (k_X6_count l G a2 μ hj2 ((xs (x3 + 1).toNatClampNeg)) q2 e2) rfl rfl ⟨(Nat.le_of_ble_eq_true rfl), (Nat.le_of_ble_eq_true rfl)⟩ hP2 hP hS (by decide) hA2 hdis.sy rfl (by decide) rfl rfl rfl (Nat.le_of_ble_eq_true rfl) dL_law_1530 hf (fun H locs hP2 hP hS => ?_)
  refine lv_icmp_eq (tgt := 1561) hx hb dL_law_1533 (by decide) (fun _ => ?_) (fun z => absurd he z)
  exact kk H locs ⟨hP, hP2, hS⟩
set_option maxHeartbeats 4000000 in
set_option maxRecDepth 100000 in
theorem lc_45 {p : Program} {l : Launch} {e : Env} {s : State} {m : MethodId} {below : List Frame} {meth : Method} {c : Code} {H : Heap} {locs : List Loc} {cells slots : Nat} {Q : State → Prop} {ls : Array Slot} {b L : Nat} {xs : Nat → Int32} {G : GG} {a a2 : Nat → Nat} {σ μ : Mem} {x3 : Int32} (C : LC p s m c b L xs G a a2) (hLS : LWS s G a a2 σ μ H locs) (hf : cells ≤ room_1.cells ∧ slots ≤ room_1.slots) (hl : lv_has ls 4 [(3, .int x3), (2, .ref (a2 0)), (1, .ref (a 0)), (0, .ref b)]) (h1 : vp_in (x3 + 1) L) (h2 : vp_in (x3 + 2) L) (h3 : vp_in (x3 + 3) L) (h4 : vp_in (x3 + 4) L) (h5 : vp_in (x3 + 5) L) (q1 : Int32 × Mem) (e1 : f_X5_status ((xs (x3 + 1).toNatClampNeg)) σ = some q1) (q2 : Int32 × Mem) (e2 : f_X6_status ((xs (x3 + 1).toNatClampNeg)) μ = some q2) (he : q1.1 = q2.1)
    (kk : ∀ (H : Heap) (locs : List Loc), LWS s G a a2 (q1.2) (q2.2) H locs → W p l e room_1 s m #[Value.ref b] below meth c H locs cells slots Q (F0 m 1561 ls [])) : W p l e room_1 s m #[Value.ref b] below meth c H locs cells slots Q (F0 m 1538 ls []) := by
  obtain ⟨C0, hb, hml, hXS, hX, hbl, hj1, hj2, hdis, hA1, hA2⟩ := C
  obtain ⟨hP, hP2, hS⟩ := hLS
  have hx := C0.1
  have hbA : ¬ A0 s b := Nat.not_le.mpr hbl
  refine lv_aload_n hx hb dL_law_1538 rfl (lv_at hl 2 rfl) ?_
  refine lv_aload_n hx hb dL_law_1539 rfl (lv_at hl 3 rfl) ?_
  refine lv_iload_n hx hb dL_law_1540 rfl (lv_at hl 0 rfl) ?_
  refine lv_iconst (v := 1) hx hb dL_law_1541 (by decide) ?_
  refine lv_iadd hx hb dL_law_1542 ?_
  refine va_sld hx hb hX hbl hbA hS h1 dL_law_1543 ?_
  refine l_cVi (ci := 5) (As := [.int (xs (x3 + 1).toNatClampNeg)]) (rest := []) C0 hb hml hl.1 hXS wm_L_199 md_X5_status (k_X5_status l G a σ hj1 ((xs (x3 + 1).toNatClampNeg)) q1 e1) rfl rfl ⟨(Nat.le_of_ble_eq_true rfl), (Nat.le_of_ble_eq_true rfl)⟩ hP hP2 hS (by decide) hA1 hdis rfl (by decide) rfl rfl rfl (Nat.le_of_ble_eq_true rfl) dL_law_1544 hf (fun H locs hP hP2 hS => ?_)
  refine lv_aload_n hx hb dL_law_1547 rfl (lv_at hl 1 rfl) ?_
  refine lv_aload_n hx hb dL_law_1548 rfl (lv_at hl 3 rfl) ?_
  refine lv_iload_n hx hb dL_law_1549 rfl (lv_at hl 0 rfl) ?_
  refine lv_iconst (v := 1) hx hb dL_law_1550 (by decide) ?_
  refine lv_iadd hx hb dL_law_1551 ?_
  refine va_sld hx hb hX hbl hbA hS h1 dL_law_1552 ?_
  refine l_cVi (ci := 6) (As := [.int (xs (x3 + 1).toNatClampNeg)]) (rest := [.int q1.1]) C0 hb hml hl.1 hXS wm_L_202 md_X6_status (k_X6_status l G a2 μ hj2 ((xs (x3 + 1).toNatClampNeg)) q2 e2) rfl rfl ⟨(Nat.le_of_ble_eq_true rfl), (Nat.le_of_ble_eq_true rfl)⟩ hP2 hP hS (by decide) hA2 hdis.sy rfl (by decide) rfl rfl rfl (Nat.le_of_ble_eq_true rfl) dL_law_1553 hf (fun H locs hP2 hP hS => ?_)
  refine lv_icmp_eq (tgt := 1561) hx hb dL_law_1556 (by decide) (fun _ => ?_) (fun z => absurd he z)
  exact kk H locs ⟨hP, hP2, hS⟩

set_option maxHeartbeats 8000000 in
set_option maxRecDepth 100000 in
theorem start_of (Inv : Nat → Mem → Mem → Prop) (s0 : ST_level Inv) (s1 : ST_stands Inv) (s2 : ST_plan Inv) (s3 : ST_opening Inv) (s4 : ST_steady Inv) (s5 : ST_watcher Inv) (s6 : ST_of Inv) (s7 : ST_change Inv) (s8 : ST_go Inv) (s9 : ST_now Inv) (s10 : ST_ahead Inv) (s11 : ST_belief Inv) (s12 : ST_when Inv) (s13 : ST_first Inv) (s14 : ST_reaches Inv) (s15 : ST_range Inv) (s16 : ST_enough Inv) (s17 : ST_hide Inv) (s18 : ST_safe Inv) (s19 : ST_sleep Inv) (s20 : ST_turns Inv) (s21 : ST_seat Inv) (s22 : ST_kindFor Inv) (s23 : ST_wantFor Inv) (s24 : ST_watch Inv) (s25 : ST_fits Inv) (s26 : ST_opened Inv) (s27 : ST_kinds Inv) (s28 : ST_nights Inv) (s29 : ST_odds Inv) (s30 : ST_seed Inv) (s31 : ST_feed Inv) (s32 : ST_wipe Inv) (s33 : ST_text Inv) (s34 : ST_hold Inv) (s35 : ST_as Inv) (s36 : ST_sheet Inv) (s37 : ST_write Inv) (s38 : ST_copy Inv) (s39 : ST_load Inv) (s40 : ST_judge Inv) (s41 : ST_image Inv) (s42 : ST_undo Inv) (s43 : ST_tear Inv) (s44 : ST_count Inv) (s45 : ST_status Inv) (sk : ∀ (k : Nat) (σ μ : Mem), k < 512 → Inv k σ μ → Inv (k + 1) σ μ) (hI0 : Inv 0 σI5 σI6) {p : Program} {e : Env} {s : State} {m : MethodId} {below : List Frame} {meth : Method} {c : Code} (l : Launch) {b L : Nat} {xs : Nat → Int32} (hL : L ≤ 3072) (C0 : lw_At p s m meth c b L xs) : W p l e room_1 s m #[Value.ref b] below meth c s.heap [] 0 0 (lw_Z below #[Value.ref b] s) (entryFrame m ([Value.ref b] : List Value).toArray 4) := by
  obtain ⟨G, hXS, hK⟩ := XL_of C0
  obtain ⟨hx, hb, hr, hml, hown, hts0, hX, hbl, hlocks, hgv⟩ := id C0
  have hts : ∀ w ∈ TB, w.before #[Value.ref b] s = true := fun w h => hts0 w (TB_in h)
  have hb : c.code = cL_law := hb
  have hown : s.vm.findClass RL = some m.cls := hown
  have C1 : CT0 p s #[Value.ref b] m RL := ⟨hx, hts, hown⟩
  have hA : ∀ q : Nat, s.heap.size ≤ q → A0 s q := fun _ h => h
  have hS : va_S (A0 s) s.heap s.heap [] := va_S.rf
  have hP : va_P G.1 vwCl ([] : va_W) s.heap := fun k q h => by simp at h
  have hD : va_D (A0 s) ([] : va_W) := ⟨fun i j p q h => by simp at h, fun k q h => by simp at h⟩
  have hl := lv_entry ([.ref b]) (n := 4) (Nat.le_of_ble_eq_true rfl)
  rw [lg_entry_eq]
  generalize (lg_sl ([.ref b]) ++ List.replicate (4 - (lg_sl ([.ref b])).length) Slot.unset).toArray = ls at hl ⊢
  have hl : lv_has ls 4 [(0, .ref b)] := hl
  refine va_new (ci := 5) (fs := [.null, .null, .null, .null, .null, .null, .null, .null, .int 0]) (C := RX5) (T := TX5) (N := 9) hx hb hts inw_X5 tyX5 tyX5_ok hown (hts _ wcl_L_7) (hts _ wn_X5) (hts _ win_X5) hK.1 hP hD hS hA rfl (fun j hj => by rcases (show j = 0 ∨ j = 1 ∨ j = 2 ∨ j = 3 ∨ j = 4 ∨ j = 5 ∨ j = 6 ∨ j = 7 ∨ j = 8 by omega) with rfl | rfl | rfl | rfl | rfl | rfl | rfl | rfl | rfl <;> rfl) (Nat.le_of_ble_eq_true rfl) (Nat.le_of_ble_eq_true rfl) dL_law_0 (fun q0 H hP hD hS => ?_)
  refine lv_dup hx hb dL_law_3 rfl ?_
  refine c_init (F := ([] : va_W)) (q := q0) (ci := 5) (fs := [.null, .null, .null, .null, .null, .null, .null, .null, .int 0]) C1 hb hml hl.1 hK wm_L_9 wi_X5_init win_X5 wc_X5_init (by decide +kernel) (k_X5_init l G q0 H.size) rfl rfl ⟨(Nat.le_of_ble_eq_true rfl), (Nat.le_of_ble_eq_true rfl)⟩ hP hD hS hA (Nat.le_of_ble_eq_true rfl) dL_law_4 ⟨(Nat.le_of_ble_eq_true rfl), (Nat.le_of_ble_eq_true rfl)⟩ (fun a H locs ea hP2 hD2 hS => ?_)
  clear hP hD
  subst ea
  have hP : va_P G.1 vwCl (WL kR nR G.2.1 a σI5) H := hP2
  have hD : va_D (A0 s) (WL kR nR G.2.1 a σI5) := hD2
  clear hP2 hD2
  refine lv_astore_n (lv' := [(1, .ref (a 0)), (0, .ref b)]) hx hb dL_law_7 rfl hl (by decide) rfl (fun ls hl => ?_)
  refine va_new (ci := 6) (fs := [.null, .null, .null, .null, .null, .int 0, .int 0, .null, .int 0, .null, .int 0, .int 0, .null, .int 0, .int 0, .int 0, .int 0, .int 0, .null, .null, .null, .null]) (C := RX6) (T := TX6) (N := 22) hx hb hts inw_X6 tyX6 tyX6_ok hown (hts _ wcl_L_10) (hts _ wn_X6) (hts _ win_X6) hK.1 hP hD hS hA rfl (fun j hj => by rcases (show j = 0 ∨ j = 1 ∨ j = 2 ∨ j = 3 ∨ j = 4 ∨ j = 5 ∨ j = 6 ∨ j = 7 ∨ j = 8 ∨ j = 9 ∨ j = 10 ∨ j = 11 ∨ j = 12 ∨ j = 13 ∨ j = 14 ∨ j = 15 ∨ j = 16 ∨ j = 17 ∨ j = 18 ∨ j = 19 ∨ j = 20 ∨ j = 21 by omega) with rfl | rfl | rfl | rfl | rfl | rfl | rfl | rfl | rfl | rfl | rfl | rfl | rfl | rfl | rfl | rfl | rfl | rfl | rfl | rfl | rfl | rfl <;> rfl) (Nat.le_of_ble_eq_true rfl) (Nat.le_of_ble_eq_true rfl) dL_law_8 (fun q1 H hP hD hS => ?_)
  refine lv_dup hx hb dL_law_11 rfl ?_
  refine c_init (F := WL kR nR G.2.1 a σI5) (q := q1) (ci := 6) (fs := [.null, .null, .null, .null, .null, .int 0, .int 0, .null, .int 0, .null, .int 0, .int 0, .null, .int 0, .int 0, .int 0, .int 0, .int 0, .null, .null, .null, .null]) C1 hb hml hl.1 hK wm_L_12 wi_X6_init win_X6 wc_X6_init (by decide +kernel) (k_X6_init l G q1 H.size) rfl rfl ⟨(Nat.le_of_ble_eq_true rfl), (Nat.le_of_ble_eq_true rfl)⟩ hP hD hS hA (Nat.le_of_ble_eq_true rfl) dL_law_12 ⟨(Nat.le_of_ble_eq_true rfl), (Nat.le_of_ble_eq_true rfl)⟩ (fun a2 H locs ea hP2 hD2 hS => ?_)
  clear hP hD
  subst ea
  have hP : va_P G.1 vwCl (WL kR nR G.2.1 a σI5 ++ WL kM nM G.2.1 a2 σI6) H := hP2
  have hD : va_D (A0 s) (WL kR nR G.2.1 a σI5 ++ WL kM nM G.2.1 a2 σI6) := hD2
  clear hP2 hD2
  refine lv_astore_n (lv' := [(2, .ref (a2 0)), (1, .ref (a 0)), (0, .ref b)]) hx hb dL_law_15 rfl hl (by decide) rfl (fun ls hl => ?_)
  refine lv_iconst (v := 0) hx hb dL_law_16 (by decide) ?_
  refine lv_istore_n (lv' := [(3, .int 0), (2, .ref (a2 0)), (1, .ref (a 0)), (0, .ref b)]) hx hb dL_law_17 rfl hl (by decide) rfl (fun ls hl => ?_)
  have hlen : (WL kR nR G.2.1 a σI5).length = nR := by simp [WL]
  have at1 : ∀ i, i < nR → (WL kR nR G.2.1 a σI5 ++ WL kM nM G.2.1 a2 σI6)[i]? = some (a i, mkE G.2.1 a (kR i) i (σI5 i)) := fun i hi => by
    rw [List.getElem?_append_left (by rw [hlen]; exact hi)]
    exact WL_at hi
  have at2 : ∀ i, i < nM → (WL kR nR G.2.1 a σI5 ++ WL kM nM G.2.1 a2 σI6)[nR + i]? = some (a2 i, mkE G.2.1 a2 (kM i) i (σI6 i)) := fun i hi => by
    rw [List.getElem?_append_right (by rw [hlen]; omega), hlen, show nR + i - nR = i by omega]
    exact WL_at hi
  have hPR : HP G kR nR a σI5 H := fun k q hq => by
    obtain ⟨hk, rfl⟩ := WL_at' hq
    exact hP k _ (at1 k hk)
  have hPM : HP G kM nM a2 σI6 H := fun k q hq => by
    obtain ⟨hk, rfl⟩ := WL_at' hq
    exact hP (nR + k) _ (at2 k hk)
  have hLC : LC p s m c b L xs G a a2 := ⟨C1, hb, hml, hXS, hX, hbl, fun i j hi hj e => hD.1 i j _ _ (at1 i hi) (at1 j hj) e, fun i j hi hj e => by
    have := hD.1 (nR + i) (nR + j) _ _ (at2 i hi) (at2 j hj) e
    omega, fun i j hi hj e => by
    have := hD.1 i (nR + j) _ _ (at1 i hi) (at2 j hj) e
    omega, fun i hi => hD.2 i _ (at1 i hi), fun i hi => hD.2 (nR + i) _ (at2 i hi)⟩
  exact law_loop Inv s0 s1 s2 s3 s4 s5 s6 s7 s8 s9 s10 s11 s12 s13 s14 s15 s16 s17 s18 s19 s20 s21 s22 s23 s24 s25 s26 s27 s28 s29 s30 s31 s32 s33 s34 s35 s36 s37 s38 s39 s40 s41 s42 s43 s44 s45 sk hL hLC hr hlocks ⟨(Nat.le_of_ble_eq_true rfl), (Nat.le_of_ble_eq_true rfl)⟩ (L + 7) 0 0 σI5 σI6 H locs ls (by omega) (by omega) nI_0.symm hI0 ⟨hPR, hPM, hS⟩ hl

/-! ===== the law's start ===== -/
set_option maxHeartbeats 4000000 in
theorem XL_of {p : Program} {s : State} {m : MethodId} {meth : Method} {c : Code} {b L : Nat} {xs : Nat → Int32} (C0 : lw_At p s m meth c b L xs) : ∃ G : GG, XSA G (A0 s) s ∧ KI G s := by
  obtain ⟨hx, hb, hr, hml, hown, hts0, hX, hbl, hlocks, hgv⟩ := C0
  have hts : ∀ w ∈ TB, w.before #[Value.ref b] s = true := fun w h => hts0 w (TB_in h)
  have hs := flat_of_before _ hgv
  have hA : ∀ a : Nat, a < s.heap.size → ¬ A0 s a := fun a h => Nat.not_le.mpr h
  obtain ⟨c0, iS0, hKn0⟩ := u_known (C := RX0) (T := TX0) (N := 6) (n := 6) hts inw_X0 (hts _ wn_X0)
  obtain ⟨c1, iS1, hKn1⟩ := u_known (C := RX1) (T := TX1) (N := 3) (n := 3) hts inw_X1 (hts _ wn_X1)
  obtain ⟨c2, iS2, hKn2⟩ := u_known (C := RX2) (T := TX2) (N := 5) (n := 5) hts inw_X2 (hts _ wn_X2)
  obtain ⟨c3, iS3, hKn3⟩ := u_known (C := RX3) (T := TX3) (N := 5) (n := 5) hts inw_X3 (hts _ wn_X3)
  obtain ⟨c4, iS4, hKn4⟩ := u_known (C := RX4) (T := TX4) (N := 5) (n := 5) hts inw_X4 (hts _ wn_X4)
  obtain ⟨c5, iS5, hKn5⟩ := u_known (C := RX5) (T := TX5) (N := 9) (n := 9) hts inw_X5 (hts _ wn_X5)
  obtain ⟨c6, iS6, hKn6⟩ := u_known (C := RX6) (T := TX6) (N := 22) (n := 22) hts inw_X6 (hts _ wn_X6)
  obtain ⟨dC, dI, hKc⟩ : ∃ (dC : Nat → ClassId) (dI : Nat → Nat → Nat), ∀ (k : Nat) (q : vw_C), vwCl[k]? = some q → u_Kn s q.1 q.2.1 q.2.2 (dC k) (dI k) := by
    refine ⟨fun k => if k = 0 then c0 else if k = 1 then c1 else if k = 2 then c2 else if k = 3 then c3 else if k = 4 then c4 else if k = 5 then c5 else c6, fun k => if k = 0 then iS0 else if k = 1 then iS1 else if k = 2 then iS2 else if k = 3 then iS3 else if k = 4 then iS4 else if k = 5 then iS5 else iS6, ?_⟩
    intro k q hq
    match k, hq with
    | 0, hq => cases hq; exact hKn0
    | 1, hq => cases hq; exact hKn1
    | 2, hq => cases hq; exact hKn2
    | 3, hq => cases hq; exact hKn3
    | 4, hq => cases hq; exact hKn4
    | 5, hq => cases hq; exact hKn5
    | 6, hq => cases hq; exact hKn6
    | k + 7, hq => simp [vwCl] at hq
  obtain ⟨cI, kI, comp, f1, f2, f3⟩ := Cond.arrayClass_spec (hts _ wa_arrayClass_int)
  have hoW : va_AO "ValveRiver$Watcher" s := va_AO.of (hts0 _ wa_arrayOver_objectValveRiverWatcher)
  have hoS : va_AO "ValveRiver$Sheet" s := va_AO.of (hts0 _ wa_arrayOver_objectValveRiverSheet)
  obtain ⟨w1, cW, kW, g1, g2, g3, g4, g5⟩ := Cond.arrayOver_spec hoW
  obtain ⟨w2, cS, kS, j1, j2, j3, j4, j5⟩ := Cond.arrayOver_spec hoS
  have hK : va_K (dC, dI) vwCl (TY (cI, cW, cS)) s := by
    refine ⟨hKc, fun k q hq => ?_⟩
    match k, hq with
    | 0, hq => cases hq; exact ⟨fun n z => ⟨fun k h => (by cases h), kI, f2, comp, f3⟩, f1⟩
    | 1, hq => cases hq; exact ⟨fun n z => ⟨fun k h => (by cases h), kW, g3, w1, g4⟩, kW, w1, g3, g4, g1, g5⟩
    | 2, hq => cases hq; exact ⟨fun n z => ⟨fun k h => (by cases h), kS, j3, w2, j4⟩, kS, w2, j3, j4, j1, j5⟩
    | k + 3, hq => simp [TY] at hq
  obtain ⟨adK, adV, hE, hev⟩ := vk_Sof (N := nStr) (tm := tmS) (len := lenStr) (byt := bytStr) (A := A0 s) (args := #[Value.ref b]) (s := s) (fun i hi => Nat.lt_trans (sLen_small i hi) (by decide)) (fun i hi => hs _ (ms_ex i hi)) (fun i hi => hs _ (ms_co i hi)) (fun i hi => hs _ (ms_ar i hi)) (fun i hi => hs _ (ms_le i hi)) (fun i hi j hj => hs _ (ms_el i hi j hj)) (fun i j hi hj hne => (ms_ne i hi j hj hne).imp (hs _) (hs _)) hA
  refine ⟨((dC, dI), (cI, cW, cS), adK, adV), ⟨hK, ⟨va_Nw.of rfl (hts0 _ wmn_X4_46), trivial⟩, hE, ?_, ?_, ?_⟩, hK, hoW, hoS, ?_⟩
  · intro i q hq
    have hi : i < nStr := (List.getElem?_eq_some_iff.mp hq).1
    have he : idxStr.getD i (0, "") = q := by rw [List.getD_eq_getElem?_getD, hq]; rfl
    have h1 := hts0 _ (ms_sr i hi)
    have h2 := hev i hi
    unfold tmS at h2
    rw [he] at h1 h2
    exact vk_R.of h1 h2
  · exact va_Zof (hts0 _ ms_l1) (hts _ win_J0) (va_eqi (hs _ ms_z)) hA
  · exact va_Zqof (hts0 _ ms_l2) (hts _ win_J3) (hs _ ms_q) hA
  · exact ⟨va_Nw.of rfl (hts0 _ wmn_X2_35), va_Nw.of rfl (hts0 _ wmn_X5_31), va_Nw.of rfl (hts0 _ wmn_X5_38), trivial⟩

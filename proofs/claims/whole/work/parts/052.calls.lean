def CT0 (p : Program) (s : State) (args : Array Value) (m : MethodId) (own : String) : Prop := p.tables.exec = Jvm.exec ∧ (∀ w ∈ TB, w.before args s = true) ∧ s.vm.findClass own = some m.cls
theorem CT.z {p : Program} {s : State} {args : Array Value} {m : MethodId} {own : String} {G : GG} {kd : Nat → Nat} {n : Nat} {a : Nat → Nat} (C0 : CT p s args m own G kd n a) : CT0 p s args m own := ⟨C0.1, C0.2.1, C0.2.2.1⟩
def PA (G : GG) (kd : Nat → Nat) (n : Nat) (a : Nat → Nat) (σ : Mem) (av : List Value) : Array Value → State → Prop := va_Pc av (fun U => HP G kd n a σ U.heap ∧ XS G n a U)
def PN (av : List Value) : Array Value → State → Prop := fun v _ => v = av.toArray
theorem PA_blind {G : GG} {kd : Nat → Nat} {n : Nat} {a : Nat → Nat} {σ : Mem} {av : List Value} : FrameBlind (PA G kd n a σ av) := fun v _ g mk q => ⟨q.1, q.2.1, q.2.2.calling g mk v⟩
def QI (G : GG) (kd : Nat → Nat) (n : Nat) (a : Nat → Nat) (q : Int32 × Mem) : Array Value → State → Outcome → State → Prop := va_Qi (fun (r : Int32) (u : Mem) => r = q.1 ∧ u = q.2) (fun u t => HP G kd n a u t.heap) (AW n a)
def QL (G : GG) (kd : Nat → Nat) (n : Nat) (a : Nat → Nat) (q : Int64 × Mem) : Array Value → State → Outcome → State → Prop := va_Ql (fun (r : Int64) (u : Mem) => r = q.1 ∧ u = q.2) (fun u t => HP G kd n a u t.heap) (AW n a)
def QV (G : GG) (kd : Nat → Nat) (n : Nat) (a : Nat → Nat) (q : Mem) : Array Value → State → Outcome → State → Prop := va_Qv (fun (u : Mem) => u = q) (fun u t => HP G kd n a u t.heap) (AW n a)
def QR (G : GG) (kd : Nat → Nat) (n : Nat) (a : Nat → Nat) (o : Nat) (q : Mem) : Array Value → State → Outcome → State → Prop := va_Qr (fun (u : Mem) => u = q) (fun u ra t => ra = a o ∧ HP G kd n a u t.heap) (AW n a)
def SI (q : Int32) : Array Value → State → Outcome → State → Prop := vp_Si (fun r => r = q)
def SL (q : Int64) : Array Value → State → Outcome → State → Prop := vp_Sl (fun r => r = q)
def NF : Addr → Prop := fun _ => False
/-- a method of a class's objects, as the tables have it -/
def MD (y : MethodName) (bytes : ByteArray) (maxL : Nat) (ret : Option FieldType) (C : String) (np : Nat) : Prop := Cond.instanceMethod y ∈ TB ∧ Cond.selects C y y ∈ TB ∧ Cond.initialized C ∈ TB ∧ Cond.code y bytes maxL ret ∈ TB ∧ (y.cls = C ∧ y.cls ≠ "java/lang/invoke/MethodHandle" ∧ y.cls ≠ "java/lang/invoke/VarHandle" ∧ (parseMethodDescriptor y.desc).map (fun d => d.parameters.length) = some np)
def MS (y : MethodName) (bytes : ByteArray) (maxL : Nat) (ret : Option FieldType) (C : String) (np : Nat) : Prop := Cond.static y ∈ TB ∧ Cond.initialized C ∈ TB ∧ Cond.code y bytes maxL ret ∈ TB ∧ (y.cls = C ∧ y.cls ≠ "java/lang/invoke/MethodHandle" ∧ y.cls ≠ "java/lang/invoke/VarHandle" ∧ (parseMethodDescriptor y.desc).map (fun d => d.parameters.length) = some np)
theorem gi_V {own C : String} {index maxL np : Nat} {y : MethodName} {bytes : ByteArray} {ret : Option FieldType} (w : Cond.methodLink own index y ∈ TB) (h : MD y bytes maxL ret C np) : GoodIn TB (wsV own index C y (Cond.code y bytes maxL ret :: TB)) := by
  intro w' hw
  have key : w' ∈ TB := by
    unfold wsV at hw
    simp only [List.cons_append, List.nil_append, List.mem_cons] at hw
    rcases hw with rfl | rfl | rfl | rfl | rfl | hw
    · exact w
    · exact h.1
    · exact h.2.1
    · exact h.2.2.1
    · exact h.2.2.2.1
    · exact hw
  exact TB_GG w' key
theorem gi_C {maxL : Nat} {y : MethodName} {bytes : ByteArray} {ret : Option FieldType} (w : Cond.code y bytes maxL ret ∈ TB) : GoodIn TB (Cond.code y bytes maxL ret :: TB) := by
  intro w' hw
  refine TB_GG w' ?_
  rcases List.mem_cons.mp hw with rfl | hw
  · exact w
  · exact hw
theorem gi_S {own C : String} {index maxL np : Nat} {y : MethodName} {bytes : ByteArray} {ret : Option FieldType} (w : Cond.methodLink own index y ∈ TB) (h : MS y bytes maxL ret C np) : GoodIn TB (Cond.code y bytes maxL ret :: TB) := gi_C h.2.2.1
theorem mkE_obj {y : CY} {a : Nat → Nat} {k c : Nat} {f : Nat → Int32} (h : k < 7) : ∃ fs, mkE y a k c f = .inr (k, fs) := by
  rcases (show k = 0 ∨ k = 1 ∨ k = 2 ∨ k = 3 ∨ k = 4 ∨ k = 5 ∨ k = 6 by omega) with rfl | rfl | rfl | rfl | rfl | rfl | rfl <;> exact ⟨_, rfl⟩
section MC
variable {p : Program} {l : Launch} {e : Env} {R : Room} {s : State} {m : MethodId} {args : Array Value} {below : List Frame} {meth : Method} {c : Code} {H : Heap} {locs : List Loc} {Q : State → Prop}
variable {cc : ByteArray} {pc : Nat} {ls : Array Slot} {rest st0 : List Value} {own C : String} {G : GG} {kd : Nat → Nat} {n : Nat} {a : Nat → Nat} {σ : Mem}
variable {nL maxL index np ci o : Nat} {y : MethodName} {bytes : ByteArray} {ret : Option FieldType} {rm : Room} {As : List Value} {T : u_T} {N : Nat}
theorem pv_A (C0 : CT p s args m own G kd n a) (hP : HP G kd n a σ H) (hS : va_S (AW n a) s.heap H locs) (hk : kd o = ci) (h7 : ci < 7) (hc : vwCl[ci]? = some (C, T, N)) : PreV s H C (a o) (PA G kd n a σ (.ref (a o) :: As)) As := by
  obtain ⟨hx, hts, hown, hX, hj, hn⟩ := C0
  subst hk
  obtain ⟨fs, hfs⟩ := mkE_obj (y := G.2.1) (a := a) (c := o) (f := σ o) h7
  have hw := WL_at (kd := kd) (y := G.2.1) (a := a) (σ := σ) (hn o (by omega))
  rw [hfs] at hw
  exact ⟨PA_blind, va_recv hX.1 hP hc hw, fun U hU hW => ⟨rfl, by rw [hU]; exact hP, hX.at hS hU hW⟩⟩
theorem ps_A (C0 : CT p s args m own G kd n a) (hP : HP G kd n a σ H) (hS : va_S (AW n a) s.heap H locs) : PreS s H (PA G kd n a σ As) As := ⟨PA_blind, fun U hU hW => ⟨rfl, by rw [hU]; exact hP, C0.2.2.2.1.at hS hU hW⟩⟩
theorem cf_A (C0 : CT p s args m own G kd n a) (hb : c.code = cc) (hml : c.maxLocals = nL) : CallFix p m c cc nL s args TB own := ⟨C0.1, hb, hml, C0.2.2.1, C0.2.1⟩
theorem m_cVi (C0 : CT p s args m own G kd n a) (hb : c.code = cc) (hml : c.maxLocals = nL) (hsz : ls.size = nL) (w : Cond.methodLink own index y ∈ TB) (hD : MD y bytes maxL ret C np) {q : Int32 × Mem} (hM : Met l y (Cond.code y bytes maxL ret :: TB) rm (PA G kd n a σ (.ref (a o) :: As)) (QI G kd n a q) 0 0 (AW n a)) (hrc : rm.cells = 0) (hrs : rm.slots = 0) (hR : rm.frames + 1 ≤ R.frames ∧ 8 + (maxL + 11) + rm.locals ≤ R.locals) (hP : HP G kd n a σ H) (hS : va_S (AW n a) s.heap H locs) (hk : kd o = ci) (h7 : ci < 7) (hc : vwCl[ci]? = some (C, T, N)) (hn : As.length = np) (hst : st0 = As.reverse ++ .ref (a o) :: rest) (hW : (rest.map fun v => v.category).sum ≤ 8) (hdg : decode cc pc = .ok (.invokevirtual index, 3))
    (kk : ∀ (H1 : Heap) (locs1 : List Loc), HP G kd n a q.2 H1 → va_S (AW n a) s.heap H1 locs1 → W p l e R s m args below meth c H1 locs1 0 0 Q (F0 m (pc + 3) ls (.int q.1 :: rest))) : W p l e R s m args below meth c H locs 0 0 Q (F0 m pc ls st0) := by
  refine va_calli (A0 := AW n a) (H0 := s.heap) (va_runV (As := As) (rest := rest) (b := a o) (cf_A C0 hb hml) hM (cwV np C0.2.1 (gi_V w hD) rfl hrc hrs hD.2.2.2.2 hR) (pv_A C0 hP hS hk h7 hc) rfl hn hsz hst (lv_room hW) hdg ⟨Nat.zero_le _, Nat.zero_le _⟩) hS (fun _ _ h => h) (fun _ h => h) ?_
  rintro r u t H1 l1 ht - ⟨rfl, rfl⟩ hB - - hS1
  exact kk H1 l1 (ht ▸ hB) hS1
theorem m_cVv (C0 : CT p s args m own G kd n a) (hb : c.code = cc) (hml : c.maxLocals = nL) (hsz : ls.size = nL) (w : Cond.methodLink own index y ∈ TB) (hD : MD y bytes maxL ret C np) {q : Mem} (hM : Met l y (Cond.code y bytes maxL ret :: TB) rm (PA G kd n a σ (.ref (a o) :: As)) (QV G kd n a q) 0 0 (AW n a)) (hrc : rm.cells = 0) (hrs : rm.slots = 0) (hR : rm.frames + 1 ≤ R.frames ∧ 8 + (maxL + 11) + rm.locals ≤ R.locals) (hP : HP G kd n a σ H) (hS : va_S (AW n a) s.heap H locs) (hk : kd o = ci) (h7 : ci < 7) (hc : vwCl[ci]? = some (C, T, N)) (hn : As.length = np) (hst : st0 = As.reverse ++ .ref (a o) :: rest) (hW : (rest.map fun v => v.category).sum ≤ 8) (hdg : decode cc pc = .ok (.invokevirtual index, 3))
    (kk : ∀ (H1 : Heap) (locs1 : List Loc), HP G kd n a q H1 → va_S (AW n a) s.heap H1 locs1 → W p l e R s m args below meth c H1 locs1 0 0 Q (F0 m (pc + 3) ls rest)) : W p l e R s m args below meth c H locs 0 0 Q (F0 m pc ls st0) := by
  refine va_callv (A0 := AW n a) (H0 := s.heap) (va_runV (As := As) (rest := rest) (b := a o) (cf_A C0 hb hml) hM (cwV np C0.2.1 (gi_V w hD) rfl hrc hrs hD.2.2.2.2 hR) (pv_A C0 hP hS hk h7 hc) rfl hn hsz hst (lv_room hW) hdg ⟨Nat.zero_le _, Nat.zero_le _⟩) hS (fun _ _ h => h) (fun _ h => h) ?_
  rintro u t H1 l1 ht - rfl hB - - hS1
  exact kk H1 l1 (ht ▸ hB) hS1
theorem m_cVl (C0 : CT p s args m own G kd n a) (hb : c.code = cc) (hml : c.maxLocals = nL) (hsz : ls.size = nL) (w : Cond.methodLink own index y ∈ TB) (hD : MD y bytes maxL ret C np) {q : Int64 × Mem} (hM : Met l y (Cond.code y bytes maxL ret :: TB) rm (PA G kd n a σ (.ref (a o) :: As)) (QL G kd n a q) 0 0 (AW n a)) (hrc : rm.cells = 0) (hrs : rm.slots = 0) (hR : rm.frames + 1 ≤ R.frames ∧ 8 + (maxL + 11) + rm.locals ≤ R.locals) (hP : HP G kd n a σ H) (hS : va_S (AW n a) s.heap H locs) (hk : kd o = ci) (h7 : ci < 7) (hc : vwCl[ci]? = some (C, T, N)) (hn : As.length = np) (hst : st0 = As.reverse ++ .ref (a o) :: rest) (hW : (rest.map fun v => v.category).sum ≤ 8) (hdg : decode cc pc = .ok (.invokevirtual index, 3))
    (kk : ∀ (H1 : Heap) (locs1 : List Loc), HP G kd n a q.2 H1 → va_S (AW n a) s.heap H1 locs1 → W p l e R s m args below meth c H1 locs1 0 0 Q (F0 m (pc + 3) ls (.long q.1 :: rest))) : W p l e R s m args below meth c H locs 0 0 Q (F0 m pc ls st0) := by
  refine va_calll (A0 := AW n a) (H0 := s.heap) (va_runV (As := As) (rest := rest) (b := a o) (cf_A C0 hb hml) hM (cwV np C0.2.1 (gi_V w hD) rfl hrc hrs hD.2.2.2.2 hR) (pv_A C0 hP hS hk h7 hc) rfl hn hsz hst (lv_room hW) hdg ⟨Nat.zero_le _, Nat.zero_le _⟩) hS (fun _ _ h => h) (fun _ h => h) ?_
  rintro r u t H1 l1 ht - ⟨rfl, rfl⟩ hB - - hS1
  exact kk H1 l1 (ht ▸ hB) hS1
theorem m_cVr (C0 : CT p s args m own G kd n a) (hb : c.code = cc) (hml : c.maxLocals = nL) (hsz : ls.size = nL) (w : Cond.methodLink own index y ∈ TB) (hD : MD y bytes maxL ret C np) {q : Mem} {o1 : Nat} (hM : Met l y (Cond.code y bytes maxL ret :: TB) rm (PA G kd n a σ (.ref (a o) :: As)) (QR G kd n a o1 q) 0 0 (AW n a)) (hrc : rm.cells = 0) (hrs : rm.slots = 0) (hR : rm.frames + 1 ≤ R.frames ∧ 8 + (maxL + 11) + rm.locals ≤ R.locals) (hP : HP G kd n a σ H) (hS : va_S (AW n a) s.heap H locs) (hk : kd o = ci) (h7 : ci < 7) (hc : vwCl[ci]? = some (C, T, N)) (hn : As.length = np) (hst : st0 = As.reverse ++ .ref (a o) :: rest) (hW : (rest.map fun v => v.category).sum ≤ 8) (hdg : decode cc pc = .ok (.invokevirtual index, 3))
    (kk : ∀ (H1 : Heap) (locs1 : List Loc), HP G kd n a q H1 → va_S (AW n a) s.heap H1 locs1 → W p l e R s m args below meth c H1 locs1 0 0 Q (F0 m (pc + 3) ls (.ref (a o1) :: rest))) : W p l e R s m args below meth c H locs 0 0 Q (F0 m pc ls st0) := by
  refine va_callr (A0 := AW n a) (H0 := s.heap) (va_runV (As := As) (rest := rest) (b := a o) (cf_A C0 hb hml) hM (cwV np C0.2.1 (gi_V w hD) rfl hrc hrs hD.2.2.2.2 hR) (pv_A C0 hP hS hk h7 hc) rfl hn hsz hst (lv_room hW) hdg ⟨Nat.zero_le _, Nat.zero_le _⟩) hS (fun _ _ h => h) (fun _ h => h) ?_
  rintro u ra t H1 l1 ht - rfl ⟨rfl, hB⟩ - - hS1
  exact kk H1 l1 (ht ▸ hB) hS1
theorem m_rVi (C0 : CT p s args m own G kd n a) (hb : c.code = cc) (hml : c.maxLocals = nL) (hsz : ls.size = nL) (w : Cond.methodLink own index y ∈ TB) (hD : MD y bytes maxL ret C np) {q : Int32} (hM : Met l y (Cond.code y bytes maxL ret :: TB) rm (PA G kd n a σ (.ref (a o) :: As)) (SI q) 0 0 NF) (hrc : rm.cells = 0) (hrs : rm.slots = 0) (hR : rm.frames + 1 ≤ R.frames ∧ 8 + (maxL + 11) + rm.locals ≤ R.locals) (hP : HP G kd n a σ H) (hS : va_S (AW n a) s.heap H locs) (hk : kd o = ci) (h7 : ci < 7) (hc : vwCl[ci]? = some (C, T, N)) (hn : As.length = np) (hst : st0 = As.reverse ++ .ref (a o) :: rest) (hW : (rest.map fun v => v.category).sum ≤ 8) (hdg : decode cc pc = .ok (.invokevirtual index, 3))
    (kk : W p l e R s m args below meth c H locs 0 0 Q (F0 m (pc + 3) ls (.int q :: rest))) : W p l e R s m args below meth c H locs 0 0 Q (F0 m pc ls st0) := by
  refine vp_callSi (W.runV (As := As) (rest := rest) (b := a o) (cf_A C0 hb hml) hM (cwV np C0.2.1 (gi_V w hD) rfl hrc hrs hD.2.2.2.2 hR) (pv_A C0 hP hS hk h7 hc) rfl hn hsz hst (lv_room hW) hdg ⟨Nat.zero_le _, Nat.zero_le _⟩) ?_
  rintro r rfl
  exact kk
theorem m_rVl (C0 : CT p s args m own G kd n a) (hb : c.code = cc) (hml : c.maxLocals = nL) (hsz : ls.size = nL) (w : Cond.methodLink own index y ∈ TB) (hD : MD y bytes maxL ret C np) {q : Int64} (hM : Met l y (Cond.code y bytes maxL ret :: TB) rm (PA G kd n a σ (.ref (a o) :: As)) (SL q) 0 0 NF) (hrc : rm.cells = 0) (hrs : rm.slots = 0) (hR : rm.frames + 1 ≤ R.frames ∧ 8 + (maxL + 11) + rm.locals ≤ R.locals) (hP : HP G kd n a σ H) (hS : va_S (AW n a) s.heap H locs) (hk : kd o = ci) (h7 : ci < 7) (hc : vwCl[ci]? = some (C, T, N)) (hn : As.length = np) (hst : st0 = As.reverse ++ .ref (a o) :: rest) (hW : (rest.map fun v => v.category).sum ≤ 8) (hdg : decode cc pc = .ok (.invokevirtual index, 3))
    (kk : W p l e R s m args below meth c H locs 0 0 Q (F0 m (pc + 3) ls (.long q :: rest))) : W p l e R s m args below meth c H locs 0 0 Q (F0 m pc ls st0) := by
  refine vp_callSl (W.runV (As := As) (rest := rest) (b := a o) (cf_A C0 hb hml) hM (cwV np C0.2.1 (gi_V w hD) rfl hrc hrs hD.2.2.2.2 hR) (pv_A C0 hP hS hk h7 hc) rfl hn hsz hst (lv_room hW) hdg ⟨Nat.zero_le _, Nat.zero_le _⟩) ?_
  rintro r rfl
  exact kk
theorem cf_Z (C0 : CT0 p s args m own) (hb : c.code = cc) (hml : c.maxLocals = nL) : CallFix p m c cc nL s args TB own := ⟨C0.1, hb, hml, C0.2.2, C0.2.1⟩
theorem cb_S (C0 : CT0 p s args m own) (w : Cond.methodLink own index y ∈ TB) (hD : MS y bytes maxL ret C np) (hrc : rm.cells = 0) (hrs : rm.slots = 0) (hR : rm.frames + 1 ≤ R.frames ∧ 8 + (maxL + 11) + rm.locals ≤ R.locals) : CallB R s args own index y bytes maxL ret (Cond.code y bytes maxL ret :: TB) rm 0 0 np ∧ (Cond.static y).before args s = true :=
  ⟨callB_of np C0.2.1 (gi_C hD.2.2.1) rfl hrc hrs (by rw [hD.2.2.2.1]; exact C0.2.1 _ hD.2.1) (C0.2.1 _ w) hD.2.2.2.2 hR, C0.2.1 _ hD.1⟩
/-- a static method that reads no memory -/
theorem m_pSi (C0 : CT0 p s args m own) (hb : c.code = cc) (hml : c.maxLocals = nL) (hsz : ls.size = nL) (w : Cond.methodLink own index y ∈ TB) (hD : MS y bytes maxL ret C np) {q : Int32} (hM : Met l y (Cond.code y bytes maxL ret :: TB) rm (PN As) (SI q) 0 0 NF) (hrc : rm.cells = 0) (hrs : rm.slots = 0) (hR : rm.frames + 1 ≤ R.frames ∧ 8 + (maxL + 11) + rm.locals ≤ R.locals) (hn : As.length = np) (hst : st0 = As.reverse ++ rest) (hW : (rest.map fun v => v.category).sum ≤ 8) (hdg : decode cc pc = .ok (.invokestatic index, 3))
    (kk : W p l e R s m args below meth c H locs 0 0 Q (F0 m (pc + 3) ls (.int q :: rest))) : W p l e R s m args below meth c H locs 0 0 Q (F0 m pc ls st0) := by
  refine vp_callSi (W.runS (As := As) (rest := rest) (cf_Z C0 hb hml) hM (cb_S C0 w hD hrc hrs hR) preEq rfl hn hsz hst (lv_room hW) hdg ⟨Nat.zero_le _, Nat.zero_le _⟩) ?_
  rintro r rfl
  exact kk
theorem m_pSl (C0 : CT0 p s args m own) (hb : c.code = cc) (hml : c.maxLocals = nL) (hsz : ls.size = nL) (w : Cond.methodLink own index y ∈ TB) (hD : MS y bytes maxL ret C np) {q : Int64} (hM : Met l y (Cond.code y bytes maxL ret :: TB) rm (PN As) (SL q) 0 0 NF) (hrc : rm.cells = 0) (hrs : rm.slots = 0) (hR : rm.frames + 1 ≤ R.frames ∧ 8 + (maxL + 11) + rm.locals ≤ R.locals) (hn : As.length = np) (hst : st0 = As.reverse ++ rest) (hW : (rest.map fun v => v.category).sum ≤ 8) (hdg : decode cc pc = .ok (.invokestatic index, 3))
    (kk : W p l e R s m args below meth c H locs 0 0 Q (F0 m (pc + 3) ls (.long q :: rest))) : W p l e R s m args below meth c H locs 0 0 Q (F0 m pc ls st0) := by
  refine vp_callSl (W.runS (As := As) (rest := rest) (cf_Z C0 hb hml) hM (cb_S C0 w hD hrc hrs hR) preEq rfl hn hsz hst (lv_room hW) hdg ⟨Nat.zero_le _, Nat.zero_le _⟩) ?_
  rintro r rfl
  exact kk
/-- a static method that reads memory -/
theorem m_rSi (C0 : CT p s args m own G kd n a) (hb : c.code = cc) (hml : c.maxLocals = nL) (hsz : ls.size = nL) (w : Cond.methodLink own index y ∈ TB) (hD : MS y bytes maxL ret C np) {q : Int32} (hM : Met l y (Cond.code y bytes maxL ret :: TB) rm (PA G kd n a σ As) (SI q) 0 0 NF) (hrc : rm.cells = 0) (hrs : rm.slots = 0) (hR : rm.frames + 1 ≤ R.frames ∧ 8 + (maxL + 11) + rm.locals ≤ R.locals) (hP : HP G kd n a σ H) (hS : va_S (AW n a) s.heap H locs) (hn : As.length = np) (hst : st0 = As.reverse ++ rest) (hW : (rest.map fun v => v.category).sum ≤ 8) (hdg : decode cc pc = .ok (.invokestatic index, 3))
    (kk : W p l e R s m args below meth c H locs 0 0 Q (F0 m (pc + 3) ls (.int q :: rest))) : W p l e R s m args below meth c H locs 0 0 Q (F0 m pc ls st0) := by
  refine vp_callSi (W.runS (As := As) (rest := rest) (cf_A C0 hb hml) hM (cb_S C0.z w hD hrc hrs hR) (ps_A C0 hP hS) rfl hn hsz hst (lv_room hW) hdg ⟨Nat.zero_le _, Nat.zero_le _⟩) ?_
  rintro r rfl
  exact kk
/-- the same, of a nest mate's private ones -/
theorem m_rNi (C0 : CT p s args m own G kd n a) (hb : c.code = cc) (hml : c.maxLocals = nL) (hsz : ls.size = nL) {host : String} (hl : va_Nw (.methodLinkNest own index y host) s) (hD : MS y bytes maxL ret C np) {q : Int32} (hM : Met l y (Cond.code y bytes maxL ret :: TB) rm (PA G kd n a σ As) (SI q) 0 0 NF) (hrc : rm.cells = 0) (hrs : rm.slots = 0) (hR : rm.frames + 1 ≤ R.frames ∧ 8 + (maxL + 11) + rm.locals ≤ R.locals) (hP : HP G kd n a σ H) (hS : va_S (AW n a) s.heap H locs) (hn : As.length = np) (hst : st0 = As.reverse ++ rest) (hW : (rest.map fun v => v.category).sum ≤ 8) (hdg : decode cc pc = .ok (.invokestatic index, 3))
    (kk : W p l e R s m args below meth c H locs 0 0 Q (F0 m (pc + 3) ls (.int q :: rest))) : W p l e R s m args below meth c H locs 0 0 Q (F0 m pc ls st0) := by
  have hr := va_runSN (cells := 0) (slots := 0) (below := below) (meth := meth) (e := e) (locs := locs) (g := F0 m pc ls st0) (As := As) (rest := rest) (cf_A C0 hb hml) hM (cw := ⟨va_cnB (R := R) np C0.2.1 (gi_C hD.2.2.1) rfl hrc hrs hl (by rw [hD.2.2.2.1]; exact C0.2.1 _ hD.2.1) hD.2.2.2.2 hR, C0.2.1 _ hD.1, trivial⟩) (ps_A C0 hP hS) rfl hn hsz hst (lv_room hW) hdg ⟨Nat.zero_le _, Nat.zero_le _⟩
  have hr2 : CallRun p l e R s m args below meth c H locs 0 0 0 0 (F0 m pc ls st0) rest (vp_Si (fun r => r = q) As.toArray) (fun _ => False) := fun T hT X => by
    obtain ⟨v, st₀, t, T', L, h0, X', hL, e1, -, hq, st⟩ := hr T hT X
    exact ⟨v, st₀, t, T', L, h0, X', hL, e1, hq, st⟩
  refine vp_callSi hr2 ?_
  rintro r rfl
  exact kk
end MC

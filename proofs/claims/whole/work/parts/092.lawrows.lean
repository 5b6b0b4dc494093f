/-! ===== the law: what stands at its entry, and its calls ===== -/
def A0 (s : State) : Nat → Prop := fun q => s.heap.size ≤ q
def XSA (G : GG) (A : Nat → Prop) (U : State) : Prop := va_K G.1 vwCl (TY G.2.1) U ∧ NW U ∧ vk_S nStr lenStr bytStr G.2.2.1 G.2.2.2 A U U.heap ∧ (∀ (i : Nat) (q : Nat × String), idxStr[i]? = some q → vk_R ownStr q.1 q.2 (G.2.2.1 i) U) ∧ va_Z "java/lang/String" "COMPACT_STRINGS" "Z" (.int 1) A U U.heap ∧ va_Zq "jdk/internal/util/Preconditions" "SIOOBE_FORMATTER" "Ljava/util/function/BiFunction;" A U U.heap
theorem XSA.to {G : GG} {A : Nat → Prop} {n : Nat} {a : Nat → Nat} {s U : State} {H : Heap} {locs : List Loc} (h : XSA G A s) (hS : va_S A s.heap H locs) (hAB : ∀ q, AW n a q → A q) (hU : U.heap = H) (hW : s.WarmedH U.vm) : XS G n a U := by
  refine ⟨va_K.moved hW.alike h.1, h.2.1.warm hW, ?_, fun i q hq => (h.2.2.2.1 i q hq).warm hW, ?_, ?_⟩
  · rw [hU]
    exact ((h.2.2.1.moved hW.alike).kept (fun q h1 h2 => hS.2.1 q h1 h2)).narrow hAB
  · rw [hU]
    exact ((va_Z.moved hW.alike h.2.2.2.2.1).kept (fun q h1 h2 => hS.2.1 q h1 h2)).narrow hAB
  · rw [hU]
    exact ((va_Zq.moved hW.alike h.2.2.2.2.2).kept (fun q h1 h2 => hS.2.1 q h1 h2)).narrow hAB
theorem HP.kept {G : GG} {kd : Nat → Nat} {n : Nat} {a : Nat → Nat} {σ : Mem} {H H1 : Heap} {B : Nat → Prop} (h : HP G kd n a σ H) (hk : ∀ q : Nat, q < H.size → ¬ B q → H1[q]? = H[q]?) (hB : ∀ i, i < n → ¬ B (a i)) : HP G kd n a σ H1 := by
  refine va_P.kept h (fun k q hq => ?_)
  have hlt := (h k q hq).lt
  obtain ⟨hl, rfl⟩ := WL_at' hq
  exact hk _ hlt (hB k hl)
/-- two worlds beside each other, what is in one isn't in the other -/
def DIS (n : Nat) (a : Nat → Nat) (n2 : Nat) (a2 : Nat → Nat) : Prop := ∀ i j, i < n → j < n2 → a i ≠ a2 j
theorem DIS.sy {n n2 : Nat} {a a2 : Nat → Nat} (h : DIS n a n2 a2) : DIS n2 a2 n a := fun i j hi hj e => h j i hj hi e.symm
section LR
variable {p : Program} {l : Launch} {e : Env} {R : Room} {s : State} {m : MethodId} {args : Array Value} {below : List Frame} {meth : Method} {c : Code} {H : Heap} {locs : List Loc} {cells slots : Nat} {Q : State → Prop}
variable {cc : ByteArray} {pc : Nat} {ls : Array Slot} {rest st0 : List Value} {own C : String} {G : GG} {kd kd2 : Nat → Nat} {n n2 : Nat} {a a2 : Nat → Nat} {σ μ : Mem}
variable {nL maxL index np ci : Nat} {y : MethodName} {bytes : ByteArray} {ret : Option FieldType} {rm : Room} {As : List Value} {T : u_T} {N : Nat}
theorem pv_L (hX : XSA G (A0 s) s) (hP : HP G kd n a σ H) (hS : va_S (A0 s) s.heap H locs) (hn : 0 < n) (hA : ∀ i, i < n → s.heap.size ≤ a i) (hk : kd 0 = ci) (h7 : ci < 7) (hc : vwCl[ci]? = some (C, T, N)) : PreV s H C (a 0) (PA G kd n a σ (.ref (a 0) :: As)) As := by
  subst hk
  obtain ⟨fs, hfs⟩ := mkE_obj (y := G.2.1) (a := a) (c := 0) (f := σ 0) h7
  have hw := WL_at (kd := kd) (y := G.2.1) (a := a) (σ := σ) hn
  rw [hfs] at hw
  exact ⟨PA_blind, va_recv hX.1 hP hc hw, fun U hU hW => ⟨rfl, by rw [hU]; exact hP, hX.to hS (fun q hq => by obtain ⟨i, hi, rfl⟩ := hq; exact hA i hi) hU hW⟩⟩
theorem l_cVi (C0 : CT0 p s args m own) (hb : c.code = cc) (hml : c.maxLocals = nL) (hsz : ls.size = nL) (hX : XSA G (A0 s) s) (w : Cond.methodLink own index y ∈ TB) (hD : MD y bytes maxL ret C np) {q : Int32 × Mem} (hM : Met l y (Cond.code y bytes maxL ret :: TB) rm (PA G kd n a σ (.ref (a 0) :: As)) (QI G kd n a q) 0 0 (AW n a)) (hrc : rm.cells = 0) (hrs : rm.slots = 0) (hR : rm.frames + 1 ≤ R.frames ∧ 8 + (maxL + 11) + rm.locals ≤ R.locals) (hP : HP G kd n a σ H) (hP2 : HP G kd2 n2 a2 μ H) (hS : va_S (A0 s) s.heap H locs) (hn0 : 0 < n) (hA : ∀ i, i < n → s.heap.size ≤ a i) (hdis : DIS n a n2 a2) (hk : kd 0 = ci) (h7 : ci < 7) (hc : vwCl[ci]? = some (C, T, N)) (hn : As.length = np) (hst : st0 = As.reverse ++ .ref (a 0) :: rest) (hW : (rest.map fun v => v.category).sum ≤ 8) (hdg : decode cc pc = .ok (.invokevirtual index, 3)) (hf : cells ≤ R.cells ∧ slots ≤ R.slots)
    (kk : ∀ (H1 : Heap) (locs1 : List Loc), HP G kd n a q.2 H1 → HP G kd2 n2 a2 μ H1 → va_S (A0 s) s.heap H1 locs1 → W p l e R s m args below meth c H1 locs1 cells slots Q (F0 m (pc + 3) ls (.int q.1 :: rest))) : W p l e R s m args below meth c H locs cells slots Q (F0 m pc ls st0) := by
  have hAW : ∀ z, AW n a z → A0 s z := fun z hz => by obtain ⟨i, hi, rfl⟩ := hz; exact hA i hi
  refine va_calli (A0 := A0 s) (H0 := s.heap) (va_runV (As := As) (rest := rest) (b := a 0) (cf_Z C0 hb hml) hM (cwV np C0.2.1 (gi_V w hD) rfl hrc hrs hD.2.2.2.2 hR) (pv_L hX hP hS hn0 hA hk h7 hc) rfl hn hsz hst (lv_room hW) hdg hf) hS (fun z _ h => hAW z h) hAW ?_
  rintro r u t H1 l1 ht - ⟨rfl, rfl⟩ hB - hk1 hS1
  exact kk H1 l1 (ht ▸ hB) (hP2.kept hk1 (fun j hj hz => by obtain ⟨i, hi, e⟩ := hz; exact hdis i j hi hj e.symm)) hS1
theorem l_cVl (C0 : CT0 p s args m own) (hb : c.code = cc) (hml : c.maxLocals = nL) (hsz : ls.size = nL) (hX : XSA G (A0 s) s) (w : Cond.methodLink own index y ∈ TB) (hD : MD y bytes maxL ret C np) {q : Int64 × Mem} (hM : Met l y (Cond.code y bytes maxL ret :: TB) rm (PA G kd n a σ (.ref (a 0) :: As)) (QL G kd n a q) 0 0 (AW n a)) (hrc : rm.cells = 0) (hrs : rm.slots = 0) (hR : rm.frames + 1 ≤ R.frames ∧ 8 + (maxL + 11) + rm.locals ≤ R.locals) (hP : HP G kd n a σ H) (hP2 : HP G kd2 n2 a2 μ H) (hS : va_S (A0 s) s.heap H locs) (hn0 : 0 < n) (hA : ∀ i, i < n → s.heap.size ≤ a i) (hdis : DIS n a n2 a2) (hk : kd 0 = ci) (h7 : ci < 7) (hc : vwCl[ci]? = some (C, T, N)) (hn : As.length = np) (hst : st0 = As.reverse ++ .ref (a 0) :: rest) (hW : (rest.map fun v => v.category).sum ≤ 8) (hdg : decode cc pc = .ok (.invokevirtual index, 3)) (hf : cells ≤ R.cells ∧ slots ≤ R.slots)
    (kk : ∀ (H1 : Heap) (locs1 : List Loc), HP G kd n a q.2 H1 → HP G kd2 n2 a2 μ H1 → va_S (A0 s) s.heap H1 locs1 → W p l e R s m args below meth c H1 locs1 cells slots Q (F0 m (pc + 3) ls (.long q.1 :: rest))) : W p l e R s m args below meth c H locs cells slots Q (F0 m pc ls st0) := by
  have hAW : ∀ z, AW n a z → A0 s z := fun z hz => by obtain ⟨i, hi, rfl⟩ := hz; exact hA i hi
  refine va_calll (A0 := A0 s) (H0 := s.heap) (va_runV (As := As) (rest := rest) (b := a 0) (cf_Z C0 hb hml) hM (cwV np C0.2.1 (gi_V w hD) rfl hrc hrs hD.2.2.2.2 hR) (pv_L hX hP hS hn0 hA hk h7 hc) rfl hn hsz hst (lv_room hW) hdg hf) hS (fun z _ h => hAW z h) hAW ?_
  rintro r u t H1 l1 ht - ⟨rfl, rfl⟩ hB - hk1 hS1
  exact kk H1 l1 (ht ▸ hB) (hP2.kept hk1 (fun j hj hz => by obtain ⟨i, hi, e⟩ := hz; exact hdis i j hi hj e.symm)) hS1
theorem l_rVi (C0 : CT0 p s args m own) (hb : c.code = cc) (hml : c.maxLocals = nL) (hsz : ls.size = nL) (hX : XSA G (A0 s) s) (w : Cond.methodLink own index y ∈ TB) (hD : MD y bytes maxL ret C np) {q : Int32} (hM : Met l y (Cond.code y bytes maxL ret :: TB) rm (PA G kd n a σ (.ref (a 0) :: As)) (SI q) 0 0 NF) (hrc : rm.cells = 0) (hrs : rm.slots = 0) (hR : rm.frames + 1 ≤ R.frames ∧ 8 + (maxL + 11) + rm.locals ≤ R.locals) (hP : HP G kd n a σ H) (hS : va_S (A0 s) s.heap H locs) (hn0 : 0 < n) (hA : ∀ i, i < n → s.heap.size ≤ a i) (hk : kd 0 = ci) (h7 : ci < 7) (hc : vwCl[ci]? = some (C, T, N)) (hn : As.length = np) (hst : st0 = As.reverse ++ .ref (a 0) :: rest) (hW : (rest.map fun v => v.category).sum ≤ 8) (hdg : decode cc pc = .ok (.invokevirtual index, 3)) (hf : cells ≤ R.cells ∧ slots ≤ R.slots)
    (kk : W p l e R s m args below meth c H locs cells slots Q (F0 m (pc + 3) ls (.int q :: rest))) : W p l e R s m args below meth c H locs cells slots Q (F0 m pc ls st0) := by
  refine vp_callSi (W.runV (As := As) (rest := rest) (b := a 0) (cf_Z C0 hb hml) hM (cwV np C0.2.1 (gi_V w hD) rfl hrc hrs hD.2.2.2.2 hR) (pv_L hX hP hS hn0 hA hk h7 hc) rfl hn hsz hst (lv_room hW) hdg hf) ?_
  rintro r rfl
  exact kk
end LR
/-- what stays as it is over the law's run -/
def LC (p : Program) (s : State) (m : MethodId) (c : Code) (b L : Nat) (xs : Nat → Int32) (G : GG) (a a2 : Nat → Nat) : Prop :=
  CT0 p s #[Value.ref b] m RL ∧ c.code = cL_law ∧ c.maxLocals = 4 ∧ XSA G (A0 s) s ∧ va_X b L xs s s.heap ∧ b < s.heap.size ∧ INJ nR a ∧ INJ nM a2 ∧ DIS nR a nM a2 ∧ (∀ i, i < nR → s.heap.size ≤ a i) ∧ (∀ i, i < nM → s.heap.size ≤ a2 i)
def LWS (s : State) (G : GG) (a a2 : Nat → Nat) (σ μ : Mem) (H : Heap) (locs : List Loc) : Prop := HP G kR nR a σ H ∧ HP G kM nM a2 μ H ∧ va_S (A0 s) s.heap H locs

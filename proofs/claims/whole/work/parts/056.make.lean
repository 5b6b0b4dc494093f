/-! ===== constructors: what each makes is a world of its own, WL kd n, from its object on ===== -/
def KI (G : GG) (U : State) : Prop := va_K G.1 vwCl (TY G.2.1) U ∧ va_AO "ValveRiver$Watcher" U ∧ va_AO "ValveRiver$Sheet" U ∧ NI U
theorem KI.warm {G : GG} {s U : State} (hW : s.WarmedH U.vm) (h : KI G s) : KI G U := ⟨va_K.moved hW.alike h.1, va_AO.moved hW.alike h.2.1, va_AO.moved hW.alike h.2.2.1, h.2.2.2.warm hW⟩
theorem KI.calling {G : GG} {U : State} (g : JFrame) (mk : MethodId) (v : Array Value) (h : KI G U) : KI G (U.calling g mk v) :=
  ⟨va_K.moved (u := U) (U := U.calling g mk v) (Vm.Alike.refl U.vm) h.1, va_AO.moved (u := U) (U := U.calling g mk v) (Vm.Alike.refl U.vm) h.2.1, va_AO.moved (u := U) (U := U.calling g mk v) (Vm.Alike.refl U.vm) h.2.2.1, NI.same (s := U) (U := U.calling g mk v) rfl h.2.2.2⟩
def PI (G : GG) (ci : Nat) (fs : List Value) (h0 sz : Nat) : Array Value → State → Prop := va_Pc [.ref h0] (fun U => U.heap.size = sz ∧ va_P G.1 vwCl [(h0, .inr (ci, fs))] U.heap ∧ KI G U)
theorem PI_blind {G : GG} {ci : Nat} {fs : List Value} {h0 sz : Nat} : FrameBlind (PI G ci fs h0 sz) := fun v _ g mk q => ⟨q.1, q.2.1, q.2.2.1, q.2.2.2.calling g mk v⟩
abbrev AI (ci : Nat) (fs : List Value) (h0 sz : Nat) : Nat → Prop := va_A [(h0, .inr (ci, fs))] sz
def QN (G : GG) (kd : Nat → Nat) (n : Nat) (σ0 : Mem) (ci : Nat) (fs : List Value) (h0 sz : Nat) : Array Value → State → Outcome → State → Prop :=
  va_Qv (S := Nat → Nat) (fun aa => aa 0 = h0) (fun aa t => va_P G.1 vwCl (WL kd n G.2.1 aa σ0) t.heap ∧ va_D (AI ci fs h0 sz) (WL kd n G.2.1 aa σ0)) (AI ci fs h0 sz)
theorem va_nd_of : ∀ (l : List Nat), l.Nodup → va_nd l = true
  | [], _ => rfl
  | a :: l, h => by
    have h2 := List.nodup_cons.mp h
    simp only [va_nd, Bool.and_eq_true, decide_eq_true_eq]
    exact ⟨h2.1, va_nd_of l h2.2⟩
theorem map_range_app {α : Type} (F : List α) (x : List α) : (List.range F.length).map (fun i => (F ++ x)[i]?) = F.map some := by
  apply List.ext_getElem?
  intro i
  by_cases h : i < F.length
  · simp [h, List.getElem?_append_left h]
  · rw [List.getElem?_eq_none (by simp; omega), List.getElem?_eq_none (by simp; omega)]
theorem join_app {A0 : Nat → Prop} {D : va_G} {cl : List vw_C} {F w1 : va_W} {x : Nat × va_E} {H H1 : Heap} (hP : va_P D cl (F ++ [x]) H) (hD : va_D A0 (F ++ [x]))
    (hk : ∀ q : Nat, q < H.size → ¬ va_A [x] H.size q → H1[q]? = H[q]?) (hF : ∀ q, va_A [x] H.size q → A0 q) (hP1 : va_P D cl w1 H1) (hD1 : va_D (va_A [x] H.size) w1) : va_P D cl (F ++ w1) H1 ∧ va_D A0 (F ++ w1) := by
  refine va_join (wc := [x]) hP hD [F.length] (List.range F.length) (by simp) (map_range_app F [x]) (va_nd_of _ List.nodup_range) ?_ hk hF hP1 hD1
  intro i hi hi2
  have h1 := List.mem_range.mp hi
  have h2 := List.mem_singleton.mp hi2
  omega
theorem free_app {A0 : Nat → Prop} {F : va_W} {x : Nat × va_E} {H0 H : Heap} {locs : List Loc} (hD : va_D A0 (F ++ [x])) (hS : va_S A0 H0 H locs) (hA : ∀ q, H0.size ≤ q → A0 q) : ∀ q, va_A [x] H.size q → A0 q :=
  va_free (wc := [x]) hD hS hA [F.length] (by simp)
theorem P_last {D : va_G} {cl : List vw_C} {F : va_W} {x : Nat × va_E} {H : Heap} (hP : va_P D cl (F ++ [x]) H) : va_P D cl [x] H := hP.sub [F.length] (by simp)
theorem K_int {D : va_G} {cl : List vw_C} {tys : List (ClassId × FieldType)} {s : State} {cA cB : ClassId} (h : va_K D cl (tys ++ [(cA, .int)]) s) {k : Nat} (hk : tys[k]? = some (cB, .int)) : cA = cB := by
  have h1 := (h.2 tys.length (cA, .int) (by simp)).2
  have hkl := (List.getElem?_eq_some_iff.mp hk).1
  have h2 := (h.2 k (cB, .int) (by rw [List.getElem?_append_left hkl]; exact hk)).2
  exact Option.some.inj (h1.symm.trans h2)
theorem K_obj {D : va_G} {cl : List vw_C} {tys : List (ClassId × FieldType)} {s : State} {C : String} {cA cB : ClassId} (h : va_K D cl (tys ++ [(cA, .object C)]) s) {k : Nat} (hk : tys[k]? = some (cB, .object C)) : cA = cB := by
  obtain ⟨_, _, _, _, _, h1⟩ := (h.2 tys.length (cA, .object C) (by simp)).2
  have hkl := (List.getElem?_eq_some_iff.mp hk).1
  obtain ⟨_, _, _, _, _, h2⟩ := (h.2 k (cB, .object C) (by rw [List.getElem?_append_left hkl]; exact hk)).2
  exact Option.some.inj (h1.symm.trans h2)
section MK
variable {p : Program} {l : Launch} {e : Env} {R : Room} {s : State} {m : MethodId} {args : Array Value} {below : List Frame} {meth : Method} {c : Code} {H : Heap} {locs : List Loc} {cells slots : Nat} {Q : State → Prop}
variable {cc : ByteArray} {pc : Nat} {ls : Array Slot} {rest : List Value} {G : GG} {A : Nat → Prop} {ws : va_W} {H0 : Heap} {own : String}
theorem c_newa (C0 : CT0 p s args m own) (hb : c.code = cc) (hK : KI G s) (hP : va_P G.1 vwCl ws H) (hD : va_D A ws) (hS : va_S A H0 H locs) (hA : ∀ q, H0.size ≤ q → A q) {n : Int32} {N : Nat} (hn : ¬ n < 0) (hN : n.toNatClampNeg = N) (hN2 : N < 1000) (hcells : cells + 1 ≤ R.cells) (hslots : slots + N ≤ R.slots) (hdg : decode cc pc = .ok (.newarray .int, 2))
    (kk : ∀ (q : Nat) (H1 : Heap), va_P G.1 vwCl (ws ++ [(q, .inl (G.2.1.1, N, .inl (fun _ => 0)))]) H1 → va_D A (ws ++ [(q, .inl (G.2.1.1, N, .inl (fun _ => 0)))]) → va_S A H0 H1 locs → W p l e R s m args below meth c H1 locs (cells + 1) (slots + N) Q (F0 m (pc + 2) ls (.ref q :: rest))) : W p l e R s m args below meth c H locs cells slots Q (F0 m pc ls (.int n :: rest)) := by
  refine va_newa (atype := .int) (a0 := (N, .inl (fun _ => 0))) C0.1 hb (C0.2.1 _ wa_arrayClass_int) rfl hK.1 hP hD hS hA (fun _ => rfl) hn hN (by show N * 4 ≤ _; omega) hcells hslots hdg ?_
  intro q cA H1 hK1 hP1 hD1 hS1
  obtain rfl := K_int hK1 (k := 0) rfl
  exact kk q H1 hP1 hD1 hS1
theorem c_newW (C0 : CT0 p s args m own) (hb : c.code = cc) (hK : KI G s) (hP : va_P G.1 vwCl ws H) (hD : va_D A ws) (hS : va_S A H0 H locs) (hA : ∀ q, H0.size ≤ q → A q) {index : Nat} (hcl : Cond.classLink own index "ValveRiver$Watcher" ∈ TB) {n : Int32} {N : Nat} (hn : ¬ n < 0) (hN : n.toNatClampNeg = N) (hN2 : N < 1000) (hcells : cells + 1 ≤ R.cells) (hslots : slots + N ≤ R.slots) (hdg : decode cc pc = .ok (.anewarray index, 3))
    (kk : ∀ (q : Nat) (H1 : Heap), va_P G.1 vwCl (ws ++ [(q, .inl (G.2.1.2.1, N, .inr (.inr (.inr (.inr (fun _ => none))))))]) H1 → va_D A (ws ++ [(q, .inl (G.2.1.2.1, N, .inr (.inr (.inr (.inr (fun _ => none))))))]) → va_S A H0 H1 locs → W p l e R s m args below meth c H1 locs (cells + 1) (slots + N) Q (F0 m (pc + 3) ls (.ref q :: rest))) : W p l e R s m args below meth c H locs cells slots Q (F0 m pc ls (.int n :: rest)) := by
  refine va_newq C0.1 hb C0.2.2 (C0.2.1 _ hcl) hK.2.1 hK.1 hP hD hS hA hn hN (by omega) hcells hslots hdg ?_
  intro q cA H1 hK1 hP1 hD1 hS1
  obtain rfl := K_obj hK1 (k := 1) rfl
  exact kk q H1 hP1 hD1 hS1
theorem c_newS (C0 : CT0 p s args m own) (hb : c.code = cc) (hK : KI G s) (hP : va_P G.1 vwCl ws H) (hD : va_D A ws) (hS : va_S A H0 H locs) (hA : ∀ q, H0.size ≤ q → A q) {index : Nat} (hcl : Cond.classLink own index "ValveRiver$Sheet" ∈ TB) {n : Int32} {N : Nat} (hn : ¬ n < 0) (hN : n.toNatClampNeg = N) (hN2 : N < 1000) (hcells : cells + 1 ≤ R.cells) (hslots : slots + N ≤ R.slots) (hdg : decode cc pc = .ok (.anewarray index, 3))
    (kk : ∀ (q : Nat) (H1 : Heap), va_P G.1 vwCl (ws ++ [(q, .inl (G.2.1.2.2, N, .inr (.inr (.inr (.inr (fun _ => none))))))]) H1 → va_D A (ws ++ [(q, .inl (G.2.1.2.2, N, .inr (.inr (.inr (.inr (fun _ => none))))))]) → va_S A H0 H1 locs → W p l e R s m args below meth c H1 locs (cells + 1) (slots + N) Q (F0 m (pc + 3) ls (.ref q :: rest))) : W p l e R s m args below meth c H locs cells slots Q (F0 m pc ls (.int n :: rest)) := by
  refine va_newq C0.1 hb C0.2.2 (C0.2.1 _ hcl) hK.2.2.1 hK.1 hP hD hS hA hn hN (by omega) hcells hslots hdg ?_
  intro q cA H1 hK1 hP1 hD1 hS1
  obtain rfl := K_obj hK1 (k := 2) rfl
  exact kk q H1 hP1 hD1 hS1
theorem c_obj (C0 : CT0 p s args m own) (hb : c.code = cc) {nL index q : Nat} (hml : c.maxLocals = nL) (hsz : ls.size = nL) (w : Cond.methodLink own index objectInit ∈ TB) (hfr : 1 ≤ R.frames) (hlo : (rest.map fun v => v.category).sum + 12 ≤ R.locals) (hdg : decode cc pc = .ok (.invokespecial index, 3))
    (kk : W p l e R s m args below meth c H locs cells slots Q (F0 m (pc + 3) ls rest)) : W p l e R s m args below meth c H locs cells slots Q (F0 m pc ls (.ref q :: rest)) := by
  refine W.objInit C0.1 hb C0.2.2 (C0.2.1 _ w) (C0.2.1 _ wi_objectInit) (C0.2.1 _ wc_objectInit) rfl (by rw [hml]; exact hsz) rfl hdg hfr ?_ kk
  show 2 * 0 + _ + 12 ≤ _
  omega
variable {maxL index ci n nL mc ms : Nat} {y : MethodName} {bytes : ByteArray} {rm : Room} {fs : List Value} {kd : Nat → Nat} {σ0 : Mem} {F : va_W} {q : Nat}
theorem c_init (C0 : CT0 p s args m own) (hb : c.code = cc) (hml : c.maxLocals = nL) (hsz : ls.size = nL) (hK : KI G s) (w : Cond.methodLink own index y ∈ TB) (w2 : Cond.instanceMethod y ∈ TB) (w3 : Cond.initialized y.cls ∈ TB) (w4 : Cond.code y bytes maxL none ∈ TB) (hd : y.name = "<init>" ∧ y.cls ≠ "java/lang/invoke/MethodHandle" ∧ y.cls ≠ "java/lang/invoke/VarHandle" ∧ (parseMethodDescriptor y.desc).map (fun d => d.parameters.length) = some 0)
    (hM : Met l y (Cond.code y bytes maxL none :: TB) rm (PI G ci fs q H.size) (QN G kd n σ0 ci fs q H.size) mc ms (AI ci fs q H.size)) (hrc : rm.cells = mc) (hrs : rm.slots = ms) (hR : rm.frames + 1 ≤ R.frames ∧ 8 + (maxL + 11) + rm.locals ≤ R.locals) (hP : va_P G.1 vwCl (F ++ [(q, .inr (ci, fs))]) H) (hD : va_D A (F ++ [(q, .inr (ci, fs))])) (hS : va_S A H0 H locs) (hA : ∀ q, H0.size ≤ q → A q) (hW : (rest.map fun v => v.category).sum ≤ 8) (hdg : decode cc pc = .ok (.invokespecial index, 3)) (hf : cells + mc ≤ R.cells ∧ slots + ms ≤ R.slots)
    (kk : ∀ (aa : Nat → Nat) (H1 : Heap) (locs1 : List Loc), aa 0 = q → va_P G.1 vwCl (F ++ WL kd n G.2.1 aa σ0) H1 → va_D A (F ++ WL kd n G.2.1 aa σ0) → va_S A H0 H1 locs1 → W p l e R s m args below meth c H1 locs1 (cells + mc) (slots + ms) Q (F0 m (pc + 3) ls rest)) : W p l e R s m args below meth c H locs cells slots Q (F0 m pc ls (.ref q :: rest)) := by
  have hFc := free_app hD hS hA
  refine va_callv (A0 := A) (H0 := H0) (va_runI (As := []) (rest := rest) (cf_Z C0 hb hml) hM (cwI 0 C0.2.1 (gi_C w4) rfl hrc hrs (C0.2.1 _ w3) (C0.2.1 _ w) (C0.2.1 _ w2) hd.1 hd.2 hR) ⟨PI_blind, fun U hU hW => ⟨rfl, by rw [hU], by rw [hU]; exact P_last hP, hK.warm hW⟩⟩ rfl rfl hsz rfl (lv_room hW) hdg hf) hS (fun q _ h => hFc q h) hFc ?_
  rintro aa t H1 l1 ht - ha ⟨hB, hB2⟩ - hk1 hS1
  obtain ⟨h1, h2⟩ := join_app hP hD hk1 hFc (ht ▸ hB) hB2
  exact kk aa H1 l1 ha h1 h2 hS1
theorem c_initN (C0 : CT0 p s args m own) (hb : c.code = cc) (hml : c.maxLocals = nL) (hsz : ls.size = nL) (hK : KI G s) {host : String} (hl : va_Nw (.methodLinkNest own index y host) s) (w2 : Cond.instanceMethod y ∈ TB) (w3 : Cond.initialized y.cls ∈ TB) (w4 : Cond.code y bytes maxL none ∈ TB) (hd : y.name = "<init>" ∧ y.cls ≠ "java/lang/invoke/MethodHandle" ∧ y.cls ≠ "java/lang/invoke/VarHandle" ∧ (parseMethodDescriptor y.desc).map (fun d => d.parameters.length) = some 0)
    (hM : Met l y (Cond.code y bytes maxL none :: TB) rm (PI G ci fs q H.size) (QN G kd n σ0 ci fs q H.size) mc ms (AI ci fs q H.size)) (hrc : rm.cells = mc) (hrs : rm.slots = ms) (hR : rm.frames + 1 ≤ R.frames ∧ 8 + (maxL + 11) + rm.locals ≤ R.locals) (hP : va_P G.1 vwCl (F ++ [(q, .inr (ci, fs))]) H) (hD : va_D A (F ++ [(q, .inr (ci, fs))])) (hS : va_S A H0 H locs) (hA : ∀ q, H0.size ≤ q → A q) (hW : (rest.map fun v => v.category).sum ≤ 8) (hdg : decode cc pc = .ok (.invokespecial index, 3)) (hf : cells + mc ≤ R.cells ∧ slots + ms ≤ R.slots)
    (kk : ∀ (aa : Nat → Nat) (H1 : Heap) (locs1 : List Loc), aa 0 = q → va_P G.1 vwCl (F ++ WL kd n G.2.1 aa σ0) H1 → va_D A (F ++ WL kd n G.2.1 aa σ0) → va_S A H0 H1 locs1 → W p l e R s m args below meth c H1 locs1 (cells + mc) (slots + ms) Q (F0 m (pc + 3) ls rest)) : W p l e R s m args below meth c H locs cells slots Q (F0 m pc ls (.ref q :: rest)) := by
  have hFc := free_app hD hS hA
  refine va_callv (A0 := A) (H0 := H0) (va_runIN (As := []) (rest := rest) (cf_Z C0 hb hml) hM ⟨va_cnB 0 C0.2.1 (gi_C w4) rfl hrc hrs hl (C0.2.1 _ w3) hd.2 hR, hd.1, C0.2.1 _ w2⟩ ⟨PI_blind, fun U hU hW => ⟨rfl, by rw [hU], by rw [hU]; exact P_last hP, hK.warm hW⟩⟩ rfl rfl hsz rfl (lv_room hW) hdg hf) hS (fun q _ h => hFc q h) hFc ?_
  rintro aa t H1 l1 ht - ha ⟨hB, hB2⟩ - hk1 hS1
  obtain ⟨h1, h2⟩ := join_app hP hD hk1 hFc (ht ▸ hB) hB2
  exact kk aa H1 l1 ha h1 h2 hS1
end MK
/-- a constructor's contract out of a walk from its entry -/
theorem M_ofI {l : Launch} {y : MethodName} {cc : ByteArray} {maxL : Nat} {rm : Room} {G : GG} {kd : Nat → Nat} {n : Nat} {σ0 : Mem} {ci h0 sz : Nat} {fs : List Value} {mc ms : Nat} (hy : plainName y.cls = true) (hlen : 1 ≤ maxL)
    (body : ∀ (p : Program) (e : Env) (s : State) (m : MethodId) (below : List Frame) (meth : Method) (c : Code) (ls : Array Slot), CT0 p s ([.ref h0] : List Value).toArray m y.cls → c.code = cc → c.maxLocals = maxL → meth.sig.returnType = none → meth.locks = false → meth.name = y.name → KI G s → va_P G.1 vwCl [(h0, .inr (ci, fs))] s.heap → va_D (AI ci fs h0 s.heap.size) [(h0, .inr (ci, fs))] → va_S (AI ci fs h0 s.heap.size) s.heap s.heap [] → (∀ q, s.heap.size ≤ q → AI ci fs h0 s.heap.size q) → lv_has ls maxL [(0, .ref h0)] → sz = s.heap.size → W p l e rm s m ([.ref h0] : List Value).toArray below meth c s.heap [] 0 0 (MQ below (QN G kd n σ0 ci fs h0 s.heap.size) ([.ref h0] : List Value).toArray s mc ms (AI ci fs h0 s.heap.size)) (F0 m 0 ls [])) : Met l y (Cond.code y cc maxL none :: TB) rm (PI G ci fs h0 sz) (QN G kd n σ0 ci fs h0 sz) mc ms (AI ci fs h0 sz) := by
  refine Met.ofW (cc := cc) (maxL := maxL) (ret := none) hy rfl ?_
  intro p e s m args below meth c s₁ B hml hv
  obtain ⟨rfl, hsz, hP, hK⟩ := hv
  subst hsz
  have hl := lv_entry [.ref h0] (n := maxL) hlen
  rw [lg_entry_eq]
  have hD0 : va_D (fun _ => True) [(h0, (.inr (ci, fs) : va_E))] := ⟨fun i j x y hi hj _ => by
    have h1 := (List.getElem?_eq_some_iff.mp hi).1
    have h2 := (List.getElem?_eq_some_iff.mp hj).1
    simp only [List.length_cons, List.length_nil] at h1 h2
    omega, fun _ _ _ => trivial⟩
  exact body p e s m below meth c _ ⟨B.exec, fun w hw => atoms_spec (ws := Cond.code y cc maxL none :: TB) B.pre w (List.mem_cons_of_mem _ hw), findClass_of_methodNamed B.named⟩ B.bytes hml B.returns B.notSynchronized (name_of_methodNamed B.named B.method).1 hK hP hD0.self va_S.rf (fun q h => Or.inr h) hl rfl
/-- a row of references may be told otherwise, the same below its length -/
theorem P_refs {D : va_G} {cl : List vw_C} {F B : va_W} {q n : Nat} {cA : ClassId} {f g : Nat → Option Nat} {H : Heap} (hP : va_P D cl (F ++ (q, .inl (cA, n, .inr (.inr (.inr (.inr f))))) :: B) H) (hfg : ∀ j, j < n → f j = g j) : va_P D cl (F ++ (q, .inl (cA, n, .inr (.inr (.inr (.inr g))))) :: B) H := by
  intro k x hx
  rcases Nat.lt_trichotomy k F.length with hk | hk | hk
  · rw [List.getElem?_append_left hk] at hx
    exact hP k x (by rw [List.getElem?_append_left hk]; exact hx)
  · subst hk
    have h0 := hP F.length _ (by rw [List.getElem?_append_right (Nat.le_refl _), Nat.sub_self]; rfl)
    rw [List.getElem?_append_right (Nat.le_refl _), Nat.sub_self] at hx
    cases hx
    show H[q]? = some (vp_cell _ _)
    have h1 : H[q]? = some (vp_cell cA (n, .inr (.inr (.inr (.inr f))))) := h0
    rw [h1, vp_cell_q, vp_cell_q]
    congr 1
    unfold arrV
    congr 1
    apply congrArg
    funext j
    show va_rf (f j.val) = va_rf (g j.val)
    rw [hfg j.val j.isLt]
  · refine hP k x ?_
    rw [List.getElem?_append_right (by omega)] at hx ⊢
    rw [show k - F.length = (k - F.length - 1) + 1 by omega] at hx ⊢
    exact hx
theorem D_refs {A : Nat → Prop} {F B : va_W} {q : Nat} {e e' : va_E} (hD : va_D A (F ++ (q, e) :: B)) : va_D A (F ++ (q, e') :: B) := by
  have key : ∀ (k : Nat) (x : Nat × va_E), (F ++ (q, e') :: B)[k]? = some x → ∃ x0, (F ++ (q, e) :: B)[k]? = some x0 ∧ x0.1 = x.1 := by
    intro k x hx
    rcases Nat.lt_trichotomy k F.length with hk | hk | hk
    · rw [List.getElem?_append_left hk] at hx
      exact ⟨x, by rw [List.getElem?_append_left hk]; exact hx, rfl⟩
    · subst hk
      rw [List.getElem?_append_right (Nat.le_refl _), Nat.sub_self] at hx
      cases hx
      exact ⟨(q, e), by rw [List.getElem?_append_right (Nat.le_refl _), Nat.sub_self]; rfl, rfl⟩
    · refine ⟨x, ?_, rfl⟩
      rw [List.getElem?_append_right (by omega)] at hx ⊢
      rw [show k - F.length = (k - F.length - 1) + 1 by omega] at hx ⊢
      exact hx
  refine ⟨fun i j x y hi hj hxy => ?_, fun k x hk => ?_⟩
  · obtain ⟨x0, h1, h2⟩ := key i x hi
    obtain ⟨y0, h3, h4⟩ := key j y hj
    exact hD.1 i j x0 y0 h1 h3 (h2.trans (hxy.trans h4.symm))
  · obtain ⟨x0, h1, h2⟩ := key k x hk
    rw [← h2]
    exact hD.2 k x0 h1

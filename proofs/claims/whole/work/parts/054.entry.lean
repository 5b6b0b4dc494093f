theorem M_ofW {l : Launch} {y : MethodName} {cc : ByteArray} {maxL : Nat} {ret : Option FieldType} {rm : Room} {kd : Nat → Nat} {n : Nat} {G : GG} {a : Nat → Nat} {σ : Mem} {av : List Value} {Qc : Array Value → State → Outcome → State → Prop} {free : Addr → Prop} (hy : plainName y.cls = true) (hj : INJ n a) (hkd : ∀ o, kd o < 900 → o < n) (hlen : (lg_sl av).length ≤ maxL)
    (body : ∀ (p : Program) (e : Env) (s : State) (m : MethodId) (below : List Frame) (meth : Method) (c : Code) (ls : Array Slot), CT p s av.toArray m y.cls G kd n a → c.code = cc → c.maxLocals = maxL → meth.sig.returnType = ret → meth.locks = false → HP G kd n a σ s.heap → va_S (AW n a) s.heap s.heap [] → lv_has ls maxL (lv_args 0 av) → W p l e rm s m av.toArray below meth c s.heap [] 0 0 (MQ below Qc av.toArray s 0 0 free) (F0 m 0 ls [])) : Met l y (Cond.code y cc maxL ret :: TB) rm (PA G kd n a σ av) Qc 0 0 free := by
  refine Met.ofW (cc := cc) (maxL := maxL) (ret := ret) hy rfl ?_
  intro p e s m args below meth c s₁ B hml hv
  obtain ⟨rfl, hP, hX⟩ := hv
  have hl := lv_entry av (n := maxL) hlen
  rw [lg_entry_eq]
  exact body p e s m below meth c _ ⟨B.exec, fun w hw => atoms_spec (ws := Cond.code y cc maxL ret :: TB) B.pre w (List.mem_cons_of_mem _ hw), findClass_of_methodNamed B.named, hX, hj, hkd⟩ B.bytes hml B.returns B.notSynchronized hP va_S.rf hl
theorem M_ofZ {l : Launch} {y : MethodName} {cc : ByteArray} {maxL : Nat} {ret : Option FieldType} {rm : Room} {av : List Value} {Qc : Array Value → State → Outcome → State → Prop} {free : Addr → Prop} (hy : plainName y.cls = true) (hlen : (lg_sl av).length ≤ maxL)
    (body : ∀ (p : Program) (e : Env) (s : State) (m : MethodId) (below : List Frame) (meth : Method) (c : Code) (ls : Array Slot), CT0 p s av.toArray m y.cls → c.code = cc → c.maxLocals = maxL → meth.sig.returnType = ret → meth.locks = false → lv_has ls maxL (lv_args 0 av) → W p l e rm s m av.toArray below meth c s.heap [] 0 0 (MQ below Qc av.toArray s 0 0 free) (F0 m 0 ls [])) : Met l y (Cond.code y cc maxL ret :: TB) rm (PN av) Qc 0 0 free := by
  refine Met.ofW (cc := cc) (maxL := maxL) (ret := ret) hy rfl ?_
  intro p e s m args below meth c s₁ B hml hv
  obtain rfl : args = av.toArray := hv
  have hl := lv_entry av (n := maxL) hlen
  rw [lg_entry_eq]
  exact body p e s m below meth c _ ⟨B.exec, fun w hw => atoms_spec (ws := Cond.code y cc maxL ret :: TB) B.pre w (List.mem_cons_of_mem _ hw), findClass_of_methodNamed B.named⟩ B.bytes hml B.returns B.notSynchronized hl
section MX
variable {p : Program} {l : Launch} {e : Env} {R : Room} {s : State} {m : MethodId} {args : Array Value} {below : List Frame} {meth : Method} {c : Code} {H : Heap} {locs : List Loc} {cc : ByteArray} {pc : Nat} {ls : Array Slot} {G : GG} {kd : Nat → Nat} {n : Nat} {a : Nat → Nat} {σ : Mem}
theorem m_ri (hx : p.tables.exec = Jvm.exec) (hb : c.code = cc) (hr : meth.sig.returnType = some .int) (hk : meth.locks = false) (hP : HP G kd n a σ H) (hS : va_S (AW n a) s.heap H locs) {v : Int32} {q : Int32 × Mem} (h : (v, σ) = q) (hdg : decode cc pc = .ok (.ireturn, 1)) : W p l e R s m args below meth c H locs 0 0 (MQ below (QI G kd n a q) args s 0 0 (AW n a)) (F0 m pc ls [.int v]) := by
  subst h
  exact W.iret hx hb hr (fun t ht _ => ⟨⟨v, σ, rfl, ⟨rfl, rfl⟩, (show HP G kd n a σ t.heap by rw [ht]; exact hP)⟩, hS.F ht⟩) hS.2.2 hdg
theorem m_rz (hx : p.tables.exec = Jvm.exec) (hb : c.code = cc) (hr : meth.sig.returnType = some .boolean) (hk : meth.locks = false) (hP : HP G kd n a σ H) (hS : va_S (AW n a) s.heap H locs) {v : Int32} {q : Int32 × Mem} (hz : v = 0 ∨ v = 1) (h : (v, σ) = q) (hdg : decode cc pc = .ok (.ireturn, 1)) : W p l e R s m args below meth c H locs 0 0 (MQ below (QI G kd n a q) args s 0 0 (AW n a)) (F0 m pc ls [.int v]) := by
  subst h
  exact W.zret hx hb hr (bz_n hz) (fun t ht _ => ⟨⟨v, σ, rfl, ⟨rfl, rfl⟩, (show HP G kd n a σ t.heap by rw [ht]; exact hP)⟩, hS.F ht⟩) hS.2.2 hdg
theorem m_rl (hx : p.tables.exec = Jvm.exec) (hb : c.code = cc) (hr : meth.sig.returnType = some .long) (hk : meth.locks = false) (hP : HP G kd n a σ H) (hS : va_S (AW n a) s.heap H locs) {v : Int64} {q : Int64 × Mem} (h : (v, σ) = q) (hdg : decode cc pc = .ok (.lreturn, 1)) : W p l e R s m args below meth c H locs 0 0 (MQ below (QL G kd n a q) args s 0 0 (AW n a)) (F0 m pc ls [.long v]) := by
  subst h
  exact W.lret hx hb hr (fun t ht _ => ⟨⟨v, σ, rfl, ⟨rfl, rfl⟩, (show HP G kd n a σ t.heap by rw [ht]; exact hP)⟩, hS.F ht⟩) hS.2.2 hdg
theorem m_rv (hx : p.tables.exec = Jvm.exec) (hb : c.code = cc) (hr : meth.sig.returnType = none) (hk : meth.locks = false) (hP : HP G kd n a σ H) (hS : va_S (AW n a) s.heap H locs) {q : Mem} (h : σ = q) (hdg : decode cc pc = .ok (.return_, 1)) : W p l e R s m args below meth c H locs 0 0 (MQ below (QV G kd n a q) args s 0 0 (AW n a)) (F0 m pc ls []) := by
  subst h
  exact W.vret hx hb hr (fun t ht _ => ⟨⟨σ, rfl, rfl, (show HP G kd n a σ t.heap by rw [ht]; exact hP)⟩, hS.F ht⟩) hS.2.2 hdg
theorem m_rr (hx : p.tables.exec = Jvm.exec) (hb : c.code = cc) {X : String} (hr : meth.sig.returnType = some (.object X)) (hk : meth.locks = false) (hP : HP G kd n a σ H) (hS : va_S (AW n a) s.heap H locs) {o : Nat} {q : Mem} (h : σ = q) (hdg : decode cc pc = .ok (.areturn, 1)) : W p l e R s m args below meth c H locs 0 0 (MQ below (QR G kd n a o q) args s 0 0 (AW n a)) (F0 m pc ls [.ref (a o)]) := by
  subst h
  exact W.aret hx hb hr (Or.inl ⟨_, rfl⟩) (Or.inr ⟨_, rfl⟩) (fun t ht _ => ⟨⟨σ, a o, rfl, rfl, rfl, (show HP G kd n a σ t.heap by rw [ht]; exact hP)⟩, hS.F ht⟩) hS.2.2 hdg
theorem m_si (hx : p.tables.exec = Jvm.exec) (hb : c.code = cc) (hr : meth.sig.returnType = some .int) (hk : meth.locks = false) {v q : Int32} (h : v = q) (hdg : decode cc pc = .ok (.ireturn, 1)) : W p l e R s m args below meth c s.heap [] 0 0 (MQ below (SI q) args s 0 0 NF) (F0 m pc ls [.int v]) := by
  subst h
  exact W.iret hx hb hr (fun t ht _ => ⟨v, rfl, rfl, ht⟩) (fun q h => by cases h) hdg
theorem m_sz (hx : p.tables.exec = Jvm.exec) (hb : c.code = cc) (hr : meth.sig.returnType = some .boolean) (hk : meth.locks = false) {v q : Int32} (hz : v = 0 ∨ v = 1) (h : v = q) (hdg : decode cc pc = .ok (.ireturn, 1)) : W p l e R s m args below meth c s.heap [] 0 0 (MQ below (SI q) args s 0 0 NF) (F0 m pc ls [.int v]) := by
  subst h
  exact W.zret hx hb hr (bz_n hz) (fun t ht _ => ⟨v, rfl, rfl, ht⟩) (fun q h => by cases h) hdg
theorem m_sl (hx : p.tables.exec = Jvm.exec) (hb : c.code = cc) (hr : meth.sig.returnType = some .long) (hk : meth.locks = false) {v q : Int64} (h : v = q) (hdg : decode cc pc = .ok (.lreturn, 1)) : W p l e R s m args below meth c s.heap [] 0 0 (MQ below (SL q) args s 0 0 NF) (F0 m pc ls [.long v]) := by
  subst h
  exact W.lret hx hb hr (fun t ht _ => ⟨v, rfl, rfl, ht⟩) (fun q h => by cases h) hdg
end MX

/-! ===== the texts: String's own length and charAt over the constants ===== -/
def sLen (i : Nat) : Int32 := nI (lenStr.getD i 0)
def sCh (i : Nat) (k : Int32) : Int32 := (bytStr.getD i []).getD k.toNatClampNeg 0
def PZ (G : GG) (n : Nat) (a : Nat → Nat) (av : List Value) : Array Value → State → Prop := va_Pc av (fun U => XS G n a U)
theorem PZ_blind {G : GG} {n : Nat} {a : Nat → Nat} {av : List Value} : FrameBlind (PZ G n a av) := fun v _ g mk q => ⟨q.1, q.2.calling g mk v⟩
def SV : Array Value → State → Outcome → State → Prop := va_Sv (fun _ => True)
def SS (G : GG) (q : Nat) : Array Value → State → Outcome → State → Prop := fun _ st o t => o = .returned (some (.ref (G.2.2.1 q))) ∧ t.heap = st.heap
theorem M_ofX {l : Launch} {y : MethodName} {cc : ByteArray} {maxL : Nat} {ret : Option FieldType} {rm : Room} {kd : Nat → Nat} {n : Nat} {G : GG} {a : Nat → Nat} {av : List Value} {Qc : Array Value → State → Outcome → State → Prop} {free : Addr → Prop} (hy : plainName y.cls = true) (hj : INJ n a) (hkd : ∀ o, kd o < 900 → o < n) (hlen : (lg_sl av).length ≤ maxL)
    (body : ∀ (p : Program) (e : Env) (s : State) (m : MethodId) (below : List Frame) (meth : Method) (c : Code) (ls : Array Slot), CT p s av.toArray m y.cls G kd n a → c.code = cc → c.maxLocals = maxL → meth.sig.returnType = ret → meth.locks = false → va_S (AW n a) s.heap s.heap [] → lv_has ls maxL (lv_args 0 av) → W p l e rm s m av.toArray below meth c s.heap [] 0 0 (MQ below Qc av.toArray s 0 0 free) (F0 m 0 ls [])) : Met l y (Cond.code y cc maxL ret :: TB) rm (PZ G n a av) Qc 0 0 free := by
  refine Met.ofW (cc := cc) (maxL := maxL) (ret := ret) hy rfl ?_
  intro p e s m args below meth c s₁ B hml hv
  obtain ⟨rfl, hX⟩ := hv
  have hl := lv_entry av (n := maxL) hlen
  rw [lg_entry_eq]
  exact body p e s m below meth c _ ⟨B.exec, fun w hw => atoms_spec (ws := Cond.code y cc maxL ret :: TB) B.pre w (List.mem_cons_of_mem _ hw), findClass_of_methodNamed B.named, hX, hj, hkd⟩ B.bytes hml B.returns B.notSynchronized va_S.rf hl
section MS1
variable {p : Program} {l : Launch} {e : Env} {R : Room} {s : State} {m : MethodId} {args : Array Value} {below : List Frame} {meth : Method} {c : Code} {H : Heap} {locs : List Loc} {Q : State → Prop}
variable {cc : ByteArray} {pc : Nat} {ls : Array Slot} {rest st0 : List Value} {own C : String} {G : GG} {kd : Nat → Nat} {n : Nat} {a : Nat → Nat} {σ : Mem}
variable {nL maxL index np : Nat} {y : MethodName} {bytes : ByteArray} {ret : Option FieldType} {rm : Room} {As : List Value}
theorem ps_Z (C0 : CT p s args m own G kd n a) (hS : va_S (AW n a) s.heap H locs) : PreS s H (PZ G n a As) As := ⟨PZ_blind, fun _ hU hW => ⟨rfl, C0.2.2.2.1.at hS hU hW⟩⟩
theorem m_ss (hx : p.tables.exec = Jvm.exec) (hb : c.code = cc) {X : String} (hr : meth.sig.returnType = some (.object X)) (hk : meth.locks = false) {v q : Nat} (h : v = q) (hdg : decode cc pc = .ok (.areturn, 1)) : W p l e R s m args below meth c s.heap [] 0 0 (MQ below (SS G q) args s 0 0 NF) (F0 m pc ls [.ref (G.2.2.1 v)]) := by
  subst h
  exact W.aret hx hb hr (Or.inl ⟨_, rfl⟩) (Or.inr ⟨_, rfl⟩) (fun t ht _ => ⟨rfl, ht⟩) (fun q h => by cases h) hdg
theorem m_rSs (C0 : CT p s args m own G kd n a) (hb : c.code = cc) (hml : c.maxLocals = nL) (hsz : ls.size = nL) (w : Cond.methodLink own index y ∈ TB) (hD : MS y bytes maxL ret C np) {q : Nat} (hM : Met l y (Cond.code y bytes maxL ret :: TB) rm (PA G kd n a σ As) (SS G q) 0 0 NF) (hrc : rm.cells = 0) (hrs : rm.slots = 0) (hR : rm.frames + 1 ≤ R.frames ∧ 8 + (maxL + 11) + rm.locals ≤ R.locals) (hP : HP G kd n a σ H) (hS : va_S (AW n a) s.heap H locs) (hn : As.length = np) (hst : st0 = As.reverse ++ rest) (hW : (rest.map fun v => v.category).sum ≤ 8) (hdg : decode cc pc = .ok (.invokestatic index, 3))
    (kk : W p l e R s m args below meth c H locs 0 0 Q (F0 m (pc + 3) ls (.ref (G.2.2.1 q) :: rest))) : W p l e R s m args below meth c H locs 0 0 Q (F0 m pc ls st0) := by
  have hr := W.runS (cells := 0) (slots := 0) (below := below) (meth := meth) (e := e) (locs := locs) (g := F0 m pc ls st0) (As := As) (rest := rest) (cf_A C0 hb hml) hM (cb_S C0.z w hD hrc hrs hR) (ps_A C0 hP hS) rfl hn hsz hst (lv_room hW) hdg ⟨Nat.zero_le _, Nat.zero_le _⟩
  intro T hT X
  obtain ⟨v, st₀, t, T', L, h0, X', hL, e1, ⟨hv, hh⟩, st⟩ := hr T hT X
  cases hv
  obtain ⟨t2, a1, b1⟩ := kk T' (by rw [e1, hh, h0]) (Stand.forget X' (fun q h => (hL q h).elim))
  exact ⟨t2, st t2 a1, b1⟩
/-- a call of a text's own method that reads -/
theorem m_rTi (C0 : CT p s args m own G kd n a) (hb : c.code = cc) (hml : c.maxLocals = nL) (hsz : ls.size = nL) (w : Cond.methodLink own index y ∈ TB) (hD : MD y bytes maxL ret RJ0 np) {q : Int32} {i : Nat} (hi : i < nStr) (hM : Met l y (Cond.code y bytes maxL ret :: TB) rm (PZ G n a (.ref (G.2.2.1 i) :: As)) (SI q) 0 0 NF) (hrc : rm.cells = 0) (hrs : rm.slots = 0) (hR : rm.frames + 1 ≤ R.frames ∧ 8 + (maxL + 11) + rm.locals ≤ R.locals) (hS : va_S (AW n a) s.heap H locs) (hn : As.length = np) (hst : st0 = As.reverse ++ .ref (G.2.2.1 i) :: rest) (hW : (rest.map fun v => v.category).sum ≤ 8) (hdg : decode cc pc = .ok (.invokevirtual index, 3))
    (kk : W p l e R s m args below meth c H locs 0 0 Q (F0 m (pc + 3) ls (.int q :: rest))) : W p l e R s m args below meth c H locs 0 0 Q (F0 m pc ls st0) := by
  refine vp_callSi (W.runV (As := As) (rest := rest) (b := G.2.2.1 i) (cf_A C0 hb hml) hM (cwV np C0.2.1 (gi_V w hD) rfl hrc hrs hD.2.2.2.2 hR) ⟨PZ_blind, vk_recv C0.2.2.2.1.2.2.1 hi hS, fun _ hU hW => ⟨rfl, C0.2.2.2.1.at hS hU hW⟩⟩ rfl hn hsz hst (lv_room hW) hdg ⟨Nat.zero_le _, Nat.zero_le _⟩) ?_
  rintro r rfl
  exact kk
theorem m_zSi (C0 : CT p s args m own G kd n a) (hb : c.code = cc) (hml : c.maxLocals = nL) (hsz : ls.size = nL) (w : Cond.methodLink own index y ∈ TB) (hD : MS y bytes maxL ret C np) {q : Int32} (hM : Met l y (Cond.code y bytes maxL ret :: TB) rm (PZ G n a As) (SI q) 0 0 NF) (hrc : rm.cells = 0) (hrs : rm.slots = 0) (hR : rm.frames + 1 ≤ R.frames ∧ 8 + (maxL + 11) + rm.locals ≤ R.locals) (hS : va_S (AW n a) s.heap H locs) (hn : As.length = np) (hst : st0 = As.reverse ++ rest) (hW : (rest.map fun v => v.category).sum ≤ 8) (hdg : decode cc pc = .ok (.invokestatic index, 3))
    (kk : W p l e R s m args below meth c H locs 0 0 Q (F0 m (pc + 3) ls (.int q :: rest))) : W p l e R s m args below meth c H locs 0 0 Q (F0 m pc ls st0) := by
  refine vp_callSi (W.runS (As := As) (rest := rest) (cf_A C0 hb hml) hM (cb_S C0.z w hD hrc hrs hR) (ps_Z C0 hS) rfl hn hsz hst (lv_room hW) hdg ⟨Nat.zero_le _, Nat.zero_le _⟩) ?_
  rintro r rfl
  exact kk
theorem m_zSv (C0 : CT p s args m own G kd n a) (hb : c.code = cc) (hml : c.maxLocals = nL) (hsz : ls.size = nL) (w : Cond.methodLink own index y ∈ TB) (hD : MS y bytes maxL ret C np) (hM : Met l y (Cond.code y bytes maxL ret :: TB) rm (PZ G n a As) SV 0 0 NF) (hrc : rm.cells = 0) (hrs : rm.slots = 0) (hR : rm.frames + 1 ≤ R.frames ∧ 8 + (maxL + 11) + rm.locals ≤ R.locals) (hS : va_S (AW n a) s.heap H locs) (hn : As.length = np) (hst : st0 = As.reverse ++ rest) (hW : (rest.map fun v => v.category).sum ≤ 8) (hdg : decode cc pc = .ok (.invokestatic index, 3))
    (kk : W p l e R s m args below meth c H locs 0 0 Q (F0 m (pc + 3) ls rest)) : W p l e R s m args below meth c H locs 0 0 Q (F0 m pc ls st0) := by
  have hr := W.runS (cells := 0) (slots := 0) (below := below) (meth := meth) (e := e) (locs := locs) (g := F0 m pc ls st0) (As := As) (rest := rest) (cf_A C0 hb hml) hM (cb_S C0.z w hD hrc hrs hR) (ps_Z C0 hS) rfl hn hsz hst (lv_room hW) hdg ⟨Nat.zero_le _, Nat.zero_le _⟩
  intro T hT X
  obtain ⟨v, st₀, t, T', L, h0, X', hL, e1, ⟨hv, -, hh⟩, st⟩ := hr T hT X
  cases hv
  obtain ⟨t2, a1, b1⟩ := kk T' (by rw [e1, hh, h0]) (Stand.forget X' (fun q h => (hL q h).elim))
  exact ⟨t2, st t2 a1, b1⟩
end MS1
set_option maxHeartbeats 4000000 in
theorem k_J3_checkIndex (l : Launch) (x0 x1 : Int32) (v : Value) (hv : v = .null ∨ ∃ t, v = .ref t) (h0 : ¬ x0 < 0) (h1 : x0 < x1) : Met l yJ3_checkIndex_8e157 (Cond.code yJ3_checkIndex_8e157 cJ3_checkIndex_8e157 3 (some .int) :: TB) ({ frames := 0, cells := 0, slots := 0, locals := 0 } : Room) (PN [.int x0, .int x1, v]) (SI x0) 0 0 NF := by
  have hlen : (lg_sl [.int x0, .int x1, v]).length ≤ 3 := by
    rcases hv with rfl | ⟨t, rfl⟩ <;> exact Nat.le_of_ble_eq_true rfl
  refine M_ofZ (by decide) hlen (fun p e s m below meth c ls C0 hb hml hr hlk hl => ?_)
  have hx := C0.1
  have hl : lv_has ls 3 [(0, .int x0), (1, .int x1), (2, v)] := hl
  refine lv_iload_n hx hb dJ3_checkIndex_8e157_0 rfl (lv_at hl 0 rfl) ?_
  refine lv_if_lt (tgt := 9) hx hb dJ3_checkIndex_8e157_1 (by decide) (fun c1 => absurd c1 h0) (fun c1 => ?_)
  refine lv_iload_n hx hb dJ3_checkIndex_8e157_4 rfl (lv_at hl 0 rfl) ?_
  refine lv_iload_n hx hb dJ3_checkIndex_8e157_5 rfl (lv_at hl 1 rfl) ?_
  refine lv_icmp_lt (tgt := 16) hx hb dJ3_checkIndex_8e157_6 (by decide) (fun c1 => ?_) (fun c1 => absurd h1 c1)
  refine lv_iload_n hx hb dJ3_checkIndex_8e157_16 rfl (lv_at hl 0 rfl) ?_
  exact m_si hx hb hr hlk rfl dJ3_checkIndex_8e157_17
set_option maxHeartbeats 4000000 in
theorem k_J0_checkIndex (l : Launch) (G : GG) (a : Nat → Nat) (hj : INJ nR a) (x0 x1 : Int32) (h0 : ¬ x0 < 0) (h1 : x0 < x1) : Met l yJ0_checkIndex_df160 (Cond.code yJ0_checkIndex_df160 cJ0_checkIndex_df160 2 none :: TB) ({ frames := 1, cells := 0, slots := 0, locals := 22 } : Room) (PZ G nR a [.int x0, .int x1]) SV 0 0 NF := by
  refine M_ofX (kd := kR) (by decide) hj kR_lt (Nat.le_of_ble_eq_true rfl) (fun p e s m below meth c ls C0 hb hml hr hlk hS hl => ?_)
  have C0 : CT p s _ m RJ0 G kR nR a := C0
  have hx := C0.1
  have hts := C0.2.1
  have hown := C0.2.2.1
  have hl : lv_has ls 2 [(0, .int x0), (1, .int x1)] := hl
  refine lv_iload_n hx hb dJ0_checkIndex_df160_0 rfl (lv_at hl 0 rfl) ?_
  refine lv_iload_n hx hb dJ0_checkIndex_df160_1 rfl (lv_at hl 1 rfl) ?_
  have key : ∀ v : Value, (v = .null ∨ ∃ t, v = .ref t) → va_Z "jdk/internal/util/Preconditions" "SIOOBE_FORMATTER" "Ljava/util/function/BiFunction;" v (AW nR a) s s.heap → W p l e ({ frames := 1, cells := 0, slots := 0, locals := 22 } : Room) s m ([.int x0, .int x1] : List Value).toArray below meth c s.heap [] 0 0 (MQ below SV ([.int x0, .int x1] : List Value).toArray s 0 0 NF) (F0 m 2 ls [.int x1, .int x0]) := by
    intro v hv hZ
    refine va_gets hx hb hZ hS hown (hts _ wf_J0_1053) (fun _ h => h) dJ0_checkIndex_df160_2 ?_
    refine m_pSi (As := [.int x0, .int x1, v]) (rest := []) C0.z hb hml hl.1 wm_J0_1059 md_J3_checkIndex_8e157 (k_J3_checkIndex l x0 x1 v hv h0 h1) rfl rfl ⟨Nat.le_of_ble_eq_true rfl, Nat.le_of_ble_eq_true rfl⟩ rfl rfl (Nat.le_of_ble_eq_true rfl) dJ0_checkIndex_df160_5 ?_
    refine lv_pop hx hb dJ0_checkIndex_df160_8 rfl ?_
    exact W.vret hx hb hr (fun t ht _ => ⟨rfl, trivial, ht⟩) (fun q h => by cases h) dJ0_checkIndex_df160_9
  rcases C0.2.2.2.1.2.2.2.2.2 with hZ | ⟨t, hZ⟩
  · exact key _ (Or.inl rfl) hZ
  · exact key _ (Or.inr ⟨t, rfl⟩) hZ
theorem sCh_raw : ∀ i, i < nStr → ∀ k, k < lenStr.getD i 0 → (((bytStr.getD i []).getD k 0 &&& 255).toUInt32 % 65536).toInt32 = (bytStr.getD i []).getD k 0 := by decide +kernel
theorem sCh_nar : ∀ i, i < nStr → ∀ k, k < lenStr.getD i 0 → narrow .char (.int ((bytStr.getD i []).getD k 0)) = .int ((bytStr.getD i []).getD k 0) := by decide +kernel
theorem sLen_small : ∀ i, i < nStr → lenStr.getD i 0 < 100 := by decide +kernel
set_option maxHeartbeats 4000000 in
theorem k_J1_charAt (l : Launch) (G : GG) (a : Nat → Nat) (hj : INJ nR a) (i : Nat) (hi : i < nStr) (k : Int32) (hk : vp_in k (lenStr.getD i 0)) : Met l yJ1_charAt_3b067 (Cond.code yJ1_charAt_3b067 cJ1_charAt_3b067 2 (some .char) :: TB) ({ frames := 2, cells := 0, slots := 0, locals := 43 } : Room) (PZ G nR a [.ref (G.2.2.2 i), .int k]) (SI (sCh i k)) 0 0 NF := by
  refine M_ofX (kd := kR) (by decide) hj kR_lt (Nat.le_of_ble_eq_true rfl) (fun p e s m below meth c ls C0 hb hml hr hlk hS hl => ?_)
  have C0 : CT p s _ m RJ1 G kR nR a := C0
  have hx := C0.1
  have hts := C0.2.1
  have hown := C0.2.2.1
  have hl : lv_has ls 2 [(0, .ref (G.2.2.2 i)), (1, .int k)] := hl
  obtain ⟨-, -, -, hT⟩ := C0.2.2.2.1.2.2.1.1 i hi
  have h0 : ¬ k < 0 := fun q => hk (Or.inl q)
  have hlt := vp_lt hk
  have hsm := sLen_small i hi
  have h1 : k < nI (lenStr.getD i 0) := by
    obtain ⟨j, hj2, rfl⟩ := vp_in_of hk (by omega)
    exact nI_lt hj2 (by omega)
  refine lv_iload_n hx hb dJ1_charAt_3b067_0 rfl (lv_at hl 1 rfl) ?_
  refine lv_aload_n hx hb dJ1_charAt_3b067_1 rfl (lv_at hl 0 rfl) ?_
  refine va_tlen hx hb hT hS (v := nI (lenStr.getD i 0)) rfl dJ1_charAt_3b067_2 ?_
  refine m_zSv (As := [.int k, .int (nI (lenStr.getD i 0))]) (rest := []) C0 hb hml hl.1 wm_J1_9 md_J0_checkIndex_df160 (k_J0_checkIndex l G a hj k (nI (lenStr.getD i 0)) h0 h1) rfl rfl ⟨Nat.le_of_ble_eq_true rfl, Nat.le_of_ble_eq_true rfl⟩ hS rfl rfl (Nat.le_of_ble_eq_true rfl) dJ1_charAt_3b067_3 ?_
  refine lv_aload_n hx hb dJ1_charAt_3b067_6 rfl (lv_at hl 0 rfl) ?_
  refine lv_iload_n hx hb dJ1_charAt_3b067_7 rfl (lv_at hl 1 rfl) ?_
  refine va_tb hx hb hT hS hk (v := .int ((bytStr.getD i []).getD k.toNatClampNeg 0)) rfl dJ1_charAt_3b067_8 ?_
  refine lv_sipush (v := 255) hx hb dJ1_charAt_3b067_9 (by decide) ?_
  refine lv_iand hx hb dJ1_charAt_3b067_12 ?_
  refine lv_i2c (v := (bytStr.getD i []).getD k.toNatClampNeg 0) hx hb dJ1_charAt_3b067_13 (sCh_raw i hi _ hlt) ?_
  exact W.zret hx hb hr (sCh_nar i hi _ hlt) (fun t ht _ => ⟨_, rfl, rfl, ht⟩) (fun q h => by cases h) dJ1_charAt_3b067_14
set_option maxHeartbeats 4000000 in
theorem k_J0_isLatin1 (l : Launch) (G : GG) (a : Nat → Nat) (hj : INJ nR a) (i : Nat) (hi : i < nStr) : Met l yJ0_isLatin1_aae02 (Cond.code yJ0_isLatin1_aae02 cJ0_isLatin1_aae02 1 (some .boolean) :: TB) ({ frames := 0, cells := 0, slots := 0, locals := 0 } : Room) (PZ G nR a [.ref (G.2.2.1 i)]) (SI 1) 0 0 NF := by
  refine M_ofX (kd := kR) (by decide) hj kR_lt (Nat.le_of_ble_eq_true rfl) (fun p e s m below meth c ls C0 hb hml hr hlk hS hl => ?_)
  have C0 : CT p s _ m RJ0 G kR nR a := C0
  have hx := C0.1
  have hts := C0.2.1
  have hown := C0.2.2.1
  have hl : lv_has ls 1 [(0, .ref (G.2.2.1 i))] := hl
  obtain ⟨-, hC, -, -⟩ := C0.2.2.2.1.2.2.1.1 i hi
  refine va_gets hx hb C0.2.2.2.1.2.2.2.2.1 hS hown (hts _ wf_J0_38) (fun _ h => h) dJ0_isLatin1_aae02_0 ?_
  refine lv_if_eq (tgt := 17) hx hb dJ0_isLatin1_aae02_3 (by decide) (fun c1 => absurd c1 (by decide)) (fun c1 => ?_)
  refine lv_aload_n hx hb dJ0_isLatin1_aae02_6 rfl (lv_at hl 0 rfl) ?_
  refine vk_getf hx hb hC hS hown (hts _ wf_J0_15) (fun _ h => h) dJ0_isLatin1_aae02_7 ?_
  refine lv_if_ne (tgt := 17) hx hb dJ0_isLatin1_aae02_10 (by decide) (fun c1 => absurd rfl c1) (fun c1 => ?_)
  refine lv_iconst (v := 1) hx hb dJ0_isLatin1_aae02_13 (by decide) ?_
  refine lv_goto (tgt := 18) hx hb dJ0_isLatin1_aae02_14 (by decide) ?_
  exact m_sz hx hb hr hlk (Or.inr rfl) rfl dJ0_isLatin1_aae02_18
set_option maxHeartbeats 4000000 in
theorem k_J0_coder (l : Launch) (G : GG) (a : Nat → Nat) (hj : INJ nR a) (i : Nat) (hi : i < nStr) : Met l yJ0_coder_7d493 (Cond.code yJ0_coder_7d493 cJ0_coder_7d493 1 (some .byte) :: TB) ({ frames := 0, cells := 0, slots := 0, locals := 0 } : Room) (PZ G nR a [.ref (G.2.2.1 i)]) (SI 0) 0 0 NF := by
  refine M_ofX (kd := kR) (by decide) hj kR_lt (Nat.le_of_ble_eq_true rfl) (fun p e s m below meth c ls C0 hb hml hr hlk hS hl => ?_)
  have C0 : CT p s _ m RJ0 G kR nR a := C0
  have hx := C0.1
  have hts := C0.2.1
  have hown := C0.2.2.1
  have hl : lv_has ls 1 [(0, .ref (G.2.2.1 i))] := hl
  obtain ⟨-, hC, -, -⟩ := C0.2.2.2.1.2.2.1.1 i hi
  refine va_gets hx hb C0.2.2.2.1.2.2.2.2.1 hS hown (hts _ wf_J0_38) (fun _ h => h) dJ0_coder_7d493_0 ?_
  refine lv_if_eq (tgt := 13) hx hb dJ0_coder_7d493_3 (by decide) (fun c1 => absurd c1 (by decide)) (fun c1 => ?_)
  refine lv_aload_n hx hb dJ0_coder_7d493_6 rfl (lv_at hl 0 rfl) ?_
  refine vk_getf hx hb hC hS hown (hts _ wf_J0_15) (fun _ h => h) dJ0_coder_7d493_7 ?_
  refine lv_goto (tgt := 14) hx hb dJ0_coder_7d493_10 (by decide) ?_
  exact W.zret hx hb hr rfl (fun t ht _ => ⟨_, rfl, rfl, ht⟩) (fun q h => by cases h) dJ0_coder_7d493_14
set_option maxHeartbeats 4000000 in
theorem k_J0_length (l : Launch) (G : GG) (a : Nat → Nat) (hj : INJ nR a) (i : Nat) (hi : i < nStr) : Met l yJ0_length_8abf5 (Cond.code yJ0_length_8abf5 cJ0_length_8abf5 1 (some .int) :: TB) ({ frames := 1, cells := 0, slots := 0, locals := 20 } : Room) (PZ G nR a [.ref (G.2.2.1 i)]) (SI (sLen i)) 0 0 NF := by
  refine M_ofX (kd := kR) (by decide) hj kR_lt (Nat.le_of_ble_eq_true rfl) (fun p e s m below meth c ls C0 hb hml hr hlk hS hl => ?_)
  have C0 : CT p s _ m RJ0 G kR nR a := C0
  have hx := C0.1
  have hts := C0.2.1
  have hown := C0.2.2.1
  have hl : lv_has ls 1 [(0, .ref (G.2.2.1 i))] := hl
  obtain ⟨-, -, hV, hT⟩ := C0.2.2.2.1.2.2.1.1 i hi
  have hsm := sLen_small i hi
  refine lv_aload_n hx hb dJ0_length_8abf5_0 rfl (lv_at hl 0 rfl) ?_
  refine vk_getf hx hb hV hS hown (hts _ wf_J0_9) (fun _ h => h) dJ0_length_8abf5_1 ?_
  refine va_tlen hx hb hT hS (v := nI (lenStr.getD i 0)) rfl dJ0_length_8abf5_4 ?_
  refine lv_aload_n hx hb dJ0_length_8abf5_5 rfl (lv_at hl 0 rfl) ?_
  refine m_rTi (As := []) (rest := [.int (nI (lenStr.getD i 0))]) C0 hb hml hl.1 wm_J0_335 md_J0_coder_7d493 hi (k_J0_coder l G a hj i hi) rfl rfl ⟨Nat.le_of_ble_eq_true rfl, Nat.le_of_ble_eq_true rfl⟩ hS rfl rfl (Nat.le_of_ble_eq_true rfl) dJ0_length_8abf5_6 ?_
  refine lv_ishr hx hb dJ0_length_8abf5_9 ?_
  exact m_si hx hb hr hlk (sc_shr0 (by omega)) dJ0_length_8abf5_10
set_option maxHeartbeats 4000000 in
theorem k_J0_charAt (l : Launch) (G : GG) (a : Nat → Nat) (hj : INJ nR a) (i : Nat) (hi : i < nStr) (k : Int32) (hk : vp_in k (lenStr.getD i 0)) : Met l yJ0_charAt_5068e (Cond.code yJ0_charAt_5068e cJ0_charAt_5068e 2 (some .char) :: TB) ({ frames := 3, cells := 0, slots := 0, locals := 64 } : Room) (PZ G nR a [.ref (G.2.2.1 i), .int k]) (SI (sCh i k)) 0 0 NF := by
  refine M_ofX (kd := kR) (by decide) hj kR_lt (Nat.le_of_ble_eq_true rfl) (fun p e s m below meth c ls C0 hb hml hr hlk hS hl => ?_)
  have C0 : CT p s _ m RJ0 G kR nR a := C0
  have hx := C0.1
  have hts := C0.2.1
  have hown := C0.2.2.1
  have hl : lv_has ls 2 [(0, .ref (G.2.2.1 i)), (1, .int k)] := hl
  obtain ⟨-, -, hV, hT⟩ := C0.2.2.2.1.2.2.1.1 i hi
  have hlt := vp_lt hk
  refine lv_aload_n hx hb dJ0_charAt_5068e_0 rfl (lv_at hl 0 rfl) ?_
  refine m_rTi (As := []) (rest := []) C0 hb hml hl.1 wm_J0_492 md_J0_isLatin1_aae02 hi (k_J0_isLatin1 l G a hj i hi) rfl rfl ⟨Nat.le_of_ble_eq_true rfl, Nat.le_of_ble_eq_true rfl⟩ hS rfl rfl (Nat.le_of_ble_eq_true rfl) dJ0_charAt_5068e_1 ?_
  refine lv_if_eq (tgt := 16) hx hb dJ0_charAt_5068e_4 (by decide) (fun c1 => absurd c1 (by decide)) (fun c1 => ?_)
  refine lv_aload_n hx hb dJ0_charAt_5068e_7 rfl (lv_at hl 0 rfl) ?_
  refine vk_getf hx hb hV hS hown (hts _ wf_J0_9) (fun _ h => h) dJ0_charAt_5068e_8 ?_
  refine lv_iload_n hx hb dJ0_charAt_5068e_11 rfl (lv_at hl 1 rfl) ?_
  refine m_zSi (As := [.ref (G.2.2.2 i), .int k]) (rest := []) C0 hb hml hl.1 wm_J0_495 md_J1_charAt_3b067 (k_J1_charAt l G a hj i hi k hk) rfl rfl ⟨Nat.le_of_ble_eq_true rfl, Nat.le_of_ble_eq_true rfl⟩ hS rfl rfl (Nat.le_of_ble_eq_true rfl) dJ0_charAt_5068e_12 ?_
  exact W.zret hx hb hr (sCh_nar i hi _ hlt) (fun t ht _ => ⟨_, rfl, rfl, ht⟩) (fun q h => by cases h) dJ0_charAt_5068e_15
section MS2
variable {p : Program} {l : Launch} {e : Env} {R : Room} {s : State} {m : MethodId} {args : Array Value} {below : List Frame} {meth : Method} {c : Code} {H : Heap} {locs : List Loc} {Q : State → Prop}
variable {cc : ByteArray} {pc : Nat} {ls : Array Slot} {rest st0 : List Value} {own : String} {G : GG} {a : Nat → Nat} {nL index i : Nat}
theorem m_slen (C0 : CT p s args m own G kR nR a) (hb : c.code = cc) (hml : c.maxLocals = nL) (hsz : ls.size = nL) (w : Cond.methodLink own index yJ0_length_8abf5 ∈ TB) (hi : i < nStr) (hS : va_S (AW nR a) s.heap H locs) (hR : 5 ≤ R.frames ∧ 140 ≤ R.locals) (hst : st0 = .ref (G.2.2.1 i) :: rest) (hW : (rest.map fun v => v.category).sum ≤ 8) (hdg : decode cc pc = .ok (.invokevirtual index, 3))
    (kk : W p l e R s m args below meth c H locs 0 0 Q (F0 m (pc + 3) ls (.int (sLen i) :: rest))) : W p l e R s m args below meth c H locs 0 0 Q (F0 m pc ls st0) :=
  m_rTi (As := []) C0 hb hml hsz w md_J0_length_8abf5 hi (k_J0_length l G a C0.2.2.2.2.1 i hi) rfl rfl ⟨by show 1 + 1 ≤ _; omega, by show 8 + (1 + 11) + 20 ≤ _; omega⟩ hS rfl hst hW hdg kk
theorem m_sch (C0 : CT p s args m own G kR nR a) (hb : c.code = cc) (hml : c.maxLocals = nL) (hsz : ls.size = nL) (w : Cond.methodLink own index yJ0_charAt_5068e ∈ TB) (hi : i < nStr) {k : Int32} (hk : vp_in k (lenStr.getD i 0)) (hS : va_S (AW nR a) s.heap H locs) (hR : 5 ≤ R.frames ∧ 140 ≤ R.locals) (hst : st0 = .int k :: .ref (G.2.2.1 i) :: rest) (hW : (rest.map fun v => v.category).sum ≤ 8) (hdg : decode cc pc = .ok (.invokevirtual index, 3))
    (kk : W p l e R s m args below meth c H locs 0 0 Q (F0 m (pc + 3) ls (.int (sCh i k) :: rest))) : W p l e R s m args below meth c H locs 0 0 Q (F0 m pc ls st0) :=
  m_rTi (As := [.int k]) C0 hb hml hsz w md_J0_charAt_5068e hi (k_J0_charAt l G a C0.2.2.2.2.1 i hi k hk) rfl rfl ⟨by show 3 + 1 ≤ _; omega, by show 8 + (2 + 11) + 64 ≤ _; omega⟩ hS rfl hst hW hdg kk
end MS2

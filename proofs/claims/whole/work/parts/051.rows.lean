section MR
variable {p : Program} {l : Launch} {e : Env} {R : Room} {s : State} {m : MethodId} {args : Array Value} {below : List Frame} {meth : Method} {c : Code} {H : Heap} {locs : List Loc} {cells slots : Nat} {Q : State → Prop}
variable {cc : ByteArray} {pc : Nat} {ls : Array Slot} {rest : List Value} {own : String} {G : GG} {kd : Nat → Nat} {n : Nat} {a : Nat → Nat} {σ : Mem} {H0 : Heap}
theorem m_get (C0 : CT p s args m own G kd n a) (hb : c.code = cc) {ref C : String} {T : u_T} {N ci index : Nat} (hin : ∀ w ∈ u_ws C T N, w ∈ TB) (hP : HP G kd n a σ H) {o : Nat} (ho : kd o < 900) {fs : List Value} (he : mkE G.2.1 a (kd o) o (σ o) = .inr (ci, fs)) (hc : vwCl[ci]? = some (C, T, N)) (k : Nat) (hk : k < N) (hlink : Cond.fieldLink own index ref (T k).2.1 (T k).2.2.1 ∈ TB) (hsame : (T k).1 = ref) {v : Value} (hv : fs[k]? = some v) (hdg : decode cc pc = .ok (.getfield index, 3))
    (kk : W p l e R s m args below meth c H locs cells slots Q (F0 m (pc + 3) ls (v :: rest))) : W p l e R s m args below meth c H locs cells slots Q (F0 m pc ls (.ref (a o) :: rest)) := by
  obtain ⟨hx, hts, hown, ⟨hK, -⟩, hJ, hn⟩ := C0
  have hw := WL_at (kd := kd) (y := G.2.1) (a := a) (σ := σ) (hn o ho)
  rw [he] at hw
  subst hsame
  exact va_get hx hb hts hin hown hK hP o hw hc k hk (hts _ hlink) (fun _ h => h) hv hdg kk
theorem m_put (C0 : CT p s args m own G kd n a) (hb : c.code = cc) {ref C : String} {T : u_T} {N ci index : Nat} (hin : ∀ w ∈ u_ws C T N, w ∈ TB) (ty0 : Nat → FieldType) (hty : ∀ k, k < N → parseFieldDescriptor (T k).2.2.1 = some (ty0 k)) (hnm : ∀ a, a < N → ∀ b, b < N → a ≠ b → (T a).2.1 ≠ (T b).2.1) (hP : HP G kd n a σ H) (hS : va_S (AW n a) H0 H locs) {o : Nat} (ho : kd o < 900) {fs : List Value} (he : mkE G.2.1 a (kd o) o (σ o) = .inr (ci, fs)) (hc : vwCl[ci]? = some (C, T, N)) (k : Nat) (hk : k < N) (hlink : Cond.fieldLink own index ref (T k).2.1 (T k).2.2.1 ∈ TB) (hsame : (T k).1 = ref) (hfin : (T k).2.2.2 = false) {x : Int32} (hn0 : narrow (ty0 k) (.int x) = .int x) (hfit : fits (ty0 k) (.int x) = true) (hl : k < fs.length) (he2 : mkE G.2.1 a (kd o) o (upd (σ o) k x) = .inr (ci, fs.set k (.int x)))
    (hdg : decode cc pc = .ok (.putfield index, 3)) (kk : ∀ (H1 : Heap) (locs1 : List Loc), HP G kd n a (mst σ o k x) H1 → va_S (AW n a) H0 H1 locs1 → W p l e R s m args below meth c H1 locs1 cells slots Q (F0 m (pc + 3) ls rest)) : W p l e R s m args below meth c H locs cells slots Q (F0 m pc ls (.int x :: .ref (a o) :: rest)) := by
  obtain ⟨hx, hts, hown, ⟨hK, -⟩, hJ, hn⟩ := C0
  have hw := WL_at (kd := kd) (y := G.2.1) (a := a) (σ := σ) (hn o ho)
  rw [he] at hw
  subst hsame
  refine va_put hx hb hts hin ty0 hty hnm hown hK hP (WL_DA hJ) hS o hw hc k hk (hts _ hlink) (fun _ h => h) hfin (hty k hk) hn0 hfit hl hdg (fun H1 l1 h1 h2 h3 => kk H1 l1 ?_ h3)
  rw [← he2, WL_set] at h1
  exact h1
theorem m_iald (C0 : CT p s args m own G kd n a) (hb : c.code = cc) (hP : HP G kd n a σ H) {o N : Nat} (hk : kd o = 100 + N) (hN : N < 700) {i : Int32} (hi : vp_in i N) {j : Nat} (hj : i.toNatClampNeg = j) (hdg : decode cc pc = .ok (.iaload, 1))
    (kk : W p l e R s m args below meth c H locs cells slots Q (F0 m (pc + 1) ls (.int (σ o j) :: rest))) : W p l e R s m args below meth c H locs cells slots Q (F0 m pc ls (.int i :: .ref (a o) :: rest)) := by
  obtain ⟨hx, hts, hown, ⟨hK, -⟩, hJ, hn⟩ := C0
  have hw := WL_at (kd := kd) (y := G.2.1) (a := a) (σ := σ) (hn o (by omega))
  rw [mkE_i hk] at hw
  subst hj
  exact va_iald hx hb hK hP o 0 hw rfl hi hdg kk
theorem m_iast (C0 : CT p s args m own G kd n a) (hb : c.code = cc) (hP : HP G kd n a σ H) (hS : va_S (AW n a) H0 H locs) {o N : Nat} (hk : kd o = 100 + N) (hN : N < 700) {i x : Int32} (hi : vp_in i N) {j : Nat} (hj : i.toNatClampNeg = j) (hdg : decode cc pc = .ok (.iastore, 1))
    (kk : ∀ (H1 : Heap) (locs1 : List Loc), HP G kd n a (mst σ o j x) H1 → va_S (AW n a) H0 H1 locs1 → W p l e R s m args below meth c H1 locs1 cells slots Q (F0 m (pc + 1) ls rest)) : W p l e R s m args below meth c H locs cells slots Q (F0 m pc ls (.int x :: .int i :: .ref (a o) :: rest)) := by
  obtain ⟨hx, hts, hown, ⟨hK, -⟩, hJ, hn⟩ := C0
  have hw := WL_at (kd := kd) (y := G.2.1) (a := a) (σ := σ) (hn o (by omega))
  rw [mkE_i hk] at hw
  subst hj
  refine va_iast hx hb hK hP (WL_DA hJ) hS o 0 hw rfl hi hdg (fun H1 l1 h1 h2 h3 => kk H1 l1 ?_ h3)
  rw [← mkE_i (y := G.2.1) (a := a) (c := o) hk, WL_set] at h1
  exact h1
theorem m_alen (C0 : CT p s args m own G kd n a) (hb : c.code = cc) (hP : HP G kd n a σ H) {o N : Nat} (hk : kd o = 100 + N) (hN : N < 700) (hdg : decode cc pc = .ok (.arraylength, 1))
    (kk : W p l e R s m args below meth c H locs cells slots Q (F0 m (pc + 1) ls (.int (Int32.ofNat N) :: rest))) : W p l e R s m args below meth c H locs cells slots Q (F0 m pc ls (.ref (a o) :: rest)) := by
  obtain ⟨hx, hts, hown, ⟨hK, -⟩, hJ, hn⟩ := C0
  have hw := WL_at (kd := kd) (y := G.2.1) (a := a) (σ := σ) (hn o (by omega))
  rw [mkE_i hk] at hw
  exact va_alen hx hb hK hP o 0 hw rfl rfl hdg kk
theorem m_aldW (C0 : CT p s args m own G kd n a) (hb : c.code = cc) (hP : HP G kd n a σ H) {o : Nat} (hk : kd o = 50) {i : Int32} (hi : vp_in i 8) {o2 : Nat} (h2 : o + 2 + i.toNatClampNeg = o2) (hdg : decode cc pc = .ok (.aaload, 1))
    (kk : W p l e R s m args below meth c H locs cells slots Q (F0 m (pc + 1) ls (.ref (a o2) :: rest))) : W p l e R s m args below meth c H locs cells slots Q (F0 m pc ls (.int i :: .ref (a o) :: rest)) := by
  obtain ⟨hx, hts, hown, ⟨hK, -⟩, hJ, hn⟩ := C0
  have hw := WL_at (kd := kd) (y := G.2.1) (a := a) (σ := σ) (hn o (by omega))
  rw [mkE_50 hk] at hw
  subst h2
  exact va_aldq hx hb hK hP o 1 hw rfl hi hdg kk
theorem m_aldS (C0 : CT p s args m own G kd n a) (hb : c.code = cc) (hP : HP G kd n a σ H) {o : Nat} (hk : kd o = 51) {i : Int32} (hi : vp_in i 4) {o2 : Nat} (h2 : o + 1 + 2 * i.toNatClampNeg = o2) (hdg : decode cc pc = .ok (.aaload, 1))
    (kk : W p l e R s m args below meth c H locs cells slots Q (F0 m (pc + 1) ls (.ref (a o2) :: rest))) : W p l e R s m args below meth c H locs cells slots Q (F0 m pc ls (.int i :: .ref (a o) :: rest)) := by
  obtain ⟨hx, hts, hown, ⟨hK, -⟩, hJ, hn⟩ := C0
  have hw := WL_at (kd := kd) (y := G.2.1) (a := a) (σ := σ) (hn o (by omega))
  rw [mkE_51 hk] at hw
  subst h2
  exact va_aldq hx hb hK hP o 2 hw rfl hi hdg kk
theorem ccp_s {sp n0 dp n1 n : Int32} {l0 l1 : Nat} {R : Type} {k : Option R} {r : R} (h : ccp sp n0 dp n1 n l0 l1 k = some r) : ((¬ sp < 0) ∧ (¬ dp < 0) ∧ (¬ n < 0) ∧ sp.toNatClampNeg + n.toNatClampNeg ≤ l0 ∧ dp.toNatClampNeg + n.toNatClampNeg ≤ l1) ∧ k = some r := by
  unfold ccp at h
  by_cases c : sp < 0 ∨ dp < 0 ∨ n < 0 ∨ l0 < sp.toNatClampNeg + n.toNatClampNeg ∨ l1 < dp.toNatClampNeg + n.toNatClampNeg
  · rw [if_pos c] at h; cases h
  · rw [if_neg c] at h
    exact ⟨⟨fun q => c (Or.inl q), fun q => c (Or.inr (Or.inl q)), fun q => c (Or.inr (Or.inr (Or.inl q))), Nat.not_lt.mp fun q => c (Or.inr (Or.inr (Or.inr (Or.inl q)))), Nat.not_lt.mp fun q => c (Or.inr (Or.inr (Or.inr (Or.inr q))))⟩, h⟩
theorem m_copy (C0 : CT p s args m own G kd n a) (hb : c.code = cc) {nL : Nat} (hml : c.maxLocals = nL) (hsz : ls.size = nL) {index : Nat} (hlink : Cond.methodLink own index arraycopyName ∈ TB) (hP : HP G kd n a σ H) (hS : va_S (AW n a) H0 H locs) {o o1 N N1 : Nat} (hk : kd o = 100 + N) (hN : N < 700) (hk1 : kd o1 = 100 + N1) (hN1 : N1 < 700) {sp dp z : Int32} (hz : (¬ sp < 0) ∧ (¬ dp < 0) ∧ (¬ z < 0) ∧ sp.toNatClampNeg + z.toNatClampNeg ≤ N ∧ dp.toNatClampNeg + z.toNatClampNeg ≤ N1)
    {sp' dp' z' : Nat} (e1 : sp.toNatClampNeg = sp') (e2 : dp.toNatClampNeg = dp') (e3 : z.toNatClampNeg = z') (hfr : 1 ≤ R.frames) (hlo : (rest.map fun v => v.category).sum + (nativeFrameWords "java/lang/System" "arraycopy" 5 + 11) ≤ R.locals) (hdg : decode cc pc = .ok (.invokestatic index, 3))
    (kk : ∀ (H1 : Heap) (locs1 : List Loc), HP G kd n a (mcp σ o1 (va_cpy (σ o) (σ o1) sp' dp' z')) H1 → va_S (AW n a) H0 H1 locs1 → W p l e R s m args below meth c H1 locs1 cells slots Q (F0 m (pc + 3) ls rest)) : W p l e R s m args below meth c H locs cells slots Q (F0 m pc ls (.int z :: .int dp :: .ref (a o1) :: .int sp :: .ref (a o) :: rest)) := by
  obtain ⟨hx, hts, hown, ⟨hK, -⟩, hJ, hn⟩ := C0
  have hw := WL_at (kd := kd) (y := G.2.1) (a := a) (σ := σ) (hn o (by omega))
  rw [mkE_i hk] at hw
  have hw1 := WL_at (kd := kd) (y := G.2.1) (a := a) (σ := σ) (hn o1 (by omega))
  rw [mkE_i hk1] at hw1
  obtain ⟨h1, h2, h3, h4, h5⟩ := hz
  subst e1; subst e2; subst e3
  refine va_copyi hx hb (by rw [hml, hsz]) hown (hts _ hlink) (hts _ wnat_arraycopy) (hts _ wst_arraycopy) (hts _ win_J10) hK hP (WL_DA hJ) hS o o1 0 0 hw hw1 rfl rfl rfl h1 h2 h3 h4 h5 (fun _ _ => rfl) hfr hlo hdg (fun H1 l1 h1 h2 h3 => kk H1 l1 ?_ h3)
  rw [← mkE_i (y := G.2.1) (a := a) (c := o1) hk1, WL_set] at h1
  exact h1
theorem m_min (C0 : CT p s args m own G kd n a) (hb : c.code = cc) {nL : Nat} (hml : c.maxLocals = nL) (hsz : ls.size = nL) {index : Nat} (hlink : Cond.methodLink own index Lib.Math.min.name ∈ TB) (hfr : 1 ≤ R.frames) (hlo : (rest.map fun v => v.category).sum + 13 ≤ R.locals) (hc : cells ≤ R.cells) (hs : slots ≤ R.slots) {x y : Int32} (hdg : decode cc pc = .ok (.invokestatic index, 3))
    (kk : W p l e R s m args below meth c H locs cells slots Q (F0 m (pc + 3) ls (.int (if y < x then y else x) :: rest))) : W p l e R s m args below meth c H locs cells slots Q (F0 m pc ls (.int y :: .int x :: rest)) := by
  obtain ⟨hx, hts, hown, ⟨hK, -⟩, hJ, hn⟩ := C0
  exact va_mmin hx hb (by rw [hml, hsz]) hown (hts _ hlink) (hts _ wst_min) (hts _ win_J9) (hts _ wc_min) hfr hlo hc hs hdg kk
theorem m_max (C0 : CT p s args m own G kd n a) (hb : c.code = cc) {nL : Nat} (hml : c.maxLocals = nL) (hsz : ls.size = nL) {index : Nat} (hlink : Cond.methodLink own index Lib.Math.max.name ∈ TB) (hfr : 1 ≤ R.frames) (hlo : (rest.map fun v => v.category).sum + 13 ≤ R.locals) (hc : cells ≤ R.cells) (hs : slots ≤ R.slots) {x y : Int32} (hdg : decode cc pc = .ok (.invokestatic index, 3))
    (kk : W p l e R s m args below meth c H locs cells slots Q (F0 m (pc + 3) ls (.int (if x < y then y else x) :: rest))) : W p l e R s m args below meth c H locs cells slots Q (F0 m pc ls (.int y :: .int x :: rest)) := by
  obtain ⟨hx, hts, hown, ⟨hK, -⟩, hJ, hn⟩ := C0
  exact va_mmax hx hb (by rw [hml, hsz]) hown (hts _ hlink) (hts _ wst_max) (hts _ win_J9) (hts _ wc_max) hfr hlo hc hs hdg kk
theorem m_abs (C0 : CT p s args m own G kd n a) (hb : c.code = cc) {nL : Nat} (hml : c.maxLocals = nL) (hsz : ls.size = nL) {index : Nat} (hlink : Cond.methodLink own index Lib.Math.abs.name ∈ TB) (hfr : 1 ≤ R.frames) (hlo : (rest.map fun v => v.category).sum + 13 ≤ R.locals) (hc : cells ≤ R.cells) (hs : slots ≤ R.slots) {x : Int32} (hdg : decode cc pc = .ok (.invokestatic index, 3))
    (kk : W p l e R s m args below meth c H locs cells slots Q (F0 m (pc + 3) ls (.int (if 0 ≤ x then x else 0 - x) :: rest))) : W p l e R s m args below meth c H locs cells slots Q (F0 m pc ls (.int x :: rest)) := by
  obtain ⟨hx, hts, hown, ⟨hK, -⟩, hJ, hn⟩ := C0
  exact va_mabs hx hb (by rw [hml, hsz]) hown (hts _ hlink) (hts _ wst_abs) (hts _ win_J9) (hts _ wc_abs) hfr hlo hc hs hdg kk
end MR

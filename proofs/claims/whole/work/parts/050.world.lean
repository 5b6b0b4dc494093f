/-! ===== our own world: cells by number, a memory of ints, references fixed by the shapes ===== -/
abbrev Mem : Type := Nat → Nat → Int32
abbrev CY : Type := ClassId × ClassId × ClassId
abbrev GG : Type := va_G × CY × (Nat → Nat) × (Nat → Nat)
def mst (σ : Mem) (c k : Nat) (v : Int32) : Mem := fun c' => if c' = c then upd (σ c) k v else σ c'
def mcp (σ : Mem) (c : Nat) (g : Nat → Int32) : Mem := fun c' => if c' = c then g else σ c'
/-- the contents of cell c of kind k: 0..6 objects of the classes, 50, 51 rows of references, 100 + n a row of n ints -/
def mkE (y : CY) (a : Nat → Nat) (k c : Nat) (f : Nat → Int32) : va_E :=
  if k = 0 then .inr (0, [.ref (a (c + 1)), .int (f 1), .int (f 2), .int (f 3), .int (f 4), .int (f 5)])
  else if k = 1 then .inr (1, [.ref (a (c + 1)), .int (f 1), .int (f 2)])
  else if k = 2 then .inr (2, [.ref (a (c + 1)), .ref (a (c + 5)), .ref (a (c + 6)), .int (f 3), .int (f 4)])
  else if k = 3 then .inr (3, [.int (f 0), .int (f 1), .int (f 2), .int (f 3), .int (f 4)])
  else if k = 4 then .inr (4, [.ref (a (c + 1)), .ref (a (c + 2)), .ref (a (c + 3)), .int (f 3), .int (f 4)])
  else if k = 5 then .inr (5, [.ref (a (c + 1)), .ref (a (c + 16)), .ref (a (c + 31)), .ref (a (c + 46)), .ref (a (c + 61)), .ref (a (c + 62)), .ref (a (c + 71)), .ref (a (c + 73)), .int (f 8)])
  else if k = 6 then .inr (6, [.ref (a (c + 1)), .ref (a (c + 2)), .ref (a (c + 3)), .ref (a (c + 4)), .ref (a (c + 5)), .int (f 5), .int (f 6), .ref (a (c + 6)), .int (f 8), .ref (a (c + 7)), .int (f 10), .int (f 11), .ref (a (c + 8)), .int (f 13), .int (f 14), .int (f 15), .int (f 16), .int (f 17), .ref (a (c + 9)), .ref (a (c + 10)), .ref (a (c + 11)), .ref (a (c + 12))])
  else if k = 50 then .inl (y.2.1, 8, .inr (.inr (.inr (.inr (fun i => some (a (c + 2 + i)))))))
  else if k = 51 then .inl (y.2.2, 4, .inr (.inr (.inr (.inr (fun i => some (a (c + 1 + 2 * i)))))))
  else .inl (y.1, k - 100, .inl f)
def WL (kd : Nat → Nat) (n : Nat) (y : CY) (a : Nat → Nat) (σ : Mem) : va_W := (List.range n).map (fun c => (a c, mkE y a (kd c) c (σ c)))
def TY (y : CY) : List (ClassId × FieldType) := [(y.1, .int), (y.2.1, .object "ValveRiver$Watcher"), (y.2.2, .object "ValveRiver$Sheet")]
def AW (n : Nat) (a : Nat → Nat) : Nat → Prop := fun q => ∃ i, i < n ∧ q = a i
def HP (G : GG) (kd : Nat → Nat) (n : Nat) (a : Nat → Nat) (σ : Mem) (H : Heap) : Prop := va_P G.1 vwCl (WL kd n G.2.1 a σ) H
def INJ (n : Nat) (a : Nat → Nat) : Prop := ∀ i j, i < n → j < n → a i = a j → i = j
/-- what stays as it is: the tables, the nest links, the texts -/
def XS (G : GG) (n : Nat) (a : Nat → Nat) (U : State) : Prop := va_K G.1 vwCl (TY G.2.1) U ∧ NW U ∧ vk_S nStr lenStr bytStr G.2.2.1 G.2.2.2 (AW n a) U U.heap ∧ (∀ (i : Nat) (q : Nat × String), idxStr[i]? = some q → vk_R ownStr q.1 q.2 (G.2.2.1 i) U) ∧ va_Z "java/lang/String" "COMPACT_STRINGS" "Z" (.int 1) (AW n a) U U.heap ∧ va_Zq "jdk/internal/util/Preconditions" "SIOOBE_FORMATTER" "Ljava/util/function/BiFunction;" (AW n a) U U.heap
theorem XS.at {G : GG} {n : Nat} {a : Nat → Nat} {s U : State} {H : Heap} {locs : List Loc} (h : XS G n a s) (hS : va_S (AW n a) s.heap H locs) (hU : U.heap = H) (hW : s.WarmedH U.vm) : XS G n a U := by
  refine ⟨va_K.moved hW.alike h.1, h.2.1.warm hW, ?_, fun i q hq => (h.2.2.2.1 i q hq).warm hW, ?_, ?_⟩
  · rw [hU]
    exact (h.2.2.1.moved hW.alike).kept (fun q h1 h2 => hS.2.1 q h1 h2)
  · rw [hU]
    exact (va_Z.moved hW.alike h.2.2.2.2.1).kept (fun q h1 h2 => hS.2.1 q h1 h2)
  · rw [hU]
    exact (va_Zq.moved hW.alike h.2.2.2.2.2).kept (fun q h1 h2 => hS.2.1 q h1 h2)
theorem XS.calling {G : GG} {n : Nat} {a : Nat → Nat} {U : State} (g : JFrame) (mk : MethodId) (v : Array Value) (h : XS G n a U) : XS G n a (U.calling g mk v) :=
  ⟨va_K.moved (u := U) (U := U.calling g mk v) (Vm.Alike.refl U.vm) h.1, NW.same (s := U) (U := U.calling g mk v) rfl h.2.1, vk_S.moved (u := U) (U := U.calling g mk v) (Vm.Alike.refl U.vm) h.2.2.1, fun i q hq => vk_R.same (u := U) (U := U.calling g mk v) rfl (h.2.2.2.1 i q hq), va_Z.moved (u := U) (U := U.calling g mk v) (Vm.Alike.refl U.vm) h.2.2.2.2.1, va_Zq.moved (u := U) (U := U.calling g mk v) (Vm.Alike.refl U.vm) h.2.2.2.2.2⟩
def CT (p : Program) (s : State) (args : Array Value) (m : MethodId) (own : String) (G : GG) (kd : Nat → Nat) (n : Nat) (a : Nat → Nat) : Prop :=
  p.tables.exec = Jvm.exec ∧ (∀ w ∈ TB, w.before args s = true) ∧ s.vm.findClass own = some m.cls ∧ XS G n a s ∧ INJ n a ∧ (∀ o, kd o < 900 → o < n)
theorem WL_at {kd : Nat → Nat} {n : Nat} {y : CY} {a : Nat → Nat} {σ : Mem} {c : Nat} (h : c < n) : (WL kd n y a σ)[c]? = some (a c, mkE y a (kd c) c (σ c)) := by
  simp [WL, h]
theorem WL_at' {kd : Nat → Nat} {n : Nat} {y : CY} {a : Nat → Nat} {σ : Mem} {c : Nat} {q : Nat × va_E} (h : (WL kd n y a σ)[c]? = some q) : c < n ∧ q = (a c, mkE y a (kd c) c (σ c)) := by
  have hl : c < n := by
    have := (List.getElem?_eq_some_iff.mp h).1
    simpa [WL] using this
  rw [WL_at hl] at h
  exact ⟨hl, (Option.some.inj h).symm⟩
theorem WL_D {A : Nat → Prop} {kd : Nat → Nat} {n : Nat} {y : CY} {a : Nat → Nat} {σ : Mem} (hj : INJ n a) (hA : ∀ i, i < n → A (a i)) : va_D A (WL kd n y a σ) := by
  refine ⟨fun i j p q h1 h2 e => ?_, fun k q h => ?_⟩
  · obtain ⟨l1, rfl⟩ := WL_at' h1
    obtain ⟨l2, rfl⟩ := WL_at' h2
    exact hj i j l1 l2 e
  · obtain ⟨l1, rfl⟩ := WL_at' h
    exact hA k l1
theorem AW_in {n i : Nat} {a : Nat → Nat} (h : i < n) : AW n a (a i) := ⟨i, h, rfl⟩
theorem WL_DA {kd : Nat → Nat} {n : Nat} {y : CY} {a : Nat → Nat} {σ : Mem} (hj : INJ n a) : va_D (AW n a) (WL kd n y a σ) := WL_D hj (fun _ h => AW_in h)
theorem WL_set {kd : Nat → Nat} {n : Nat} {y : CY} {a : Nat → Nat} {σ : Mem} {c : Nat} (g : Nat → Int32) : (WL kd n y a σ).set c (a c, mkE y a (kd c) c g) = WL kd n y a (mcp σ c g) := by
  apply List.ext_getElem?
  intro i
  by_cases hi : i = c
  · subst hi
    by_cases hn : i < n
    · rw [List.getElem?_set_self (by simpa [WL] using hn), WL_at hn]
      simp [mcp]
    · rw [List.getElem?_eq_none (by simp [WL]; omega), List.getElem?_eq_none (by simp [WL]; omega)]
  · rw [List.getElem?_set_ne (fun e => hi e.symm)]
    by_cases hn : i < n
    · rw [WL_at hn, WL_at hn]
      simp [mcp, hi]
    · rw [List.getElem?_eq_none (by simp [WL]; omega), List.getElem?_eq_none (by simp [WL]; omega)]
theorem mst_mcp (σ : Mem) (c k : Nat) (v : Int32) : mst σ c k v = mcp σ c (upd (σ c) k v) := rfl
theorem mkE_0 {y : CY} {a : Nat → Nat} {k c : Nat} {f : Nat → Int32} (h : k = 0) : mkE y a k c f = .inr (0, [.ref (a (c + 1)), .int (f 1), .int (f 2), .int (f 3), .int (f 4), .int (f 5)]) := by subst h; rfl
theorem mkE_1 {y : CY} {a : Nat → Nat} {k c : Nat} {f : Nat → Int32} (h : k = 1) : mkE y a k c f = .inr (1, [.ref (a (c + 1)), .int (f 1), .int (f 2)]) := by subst h; rfl
theorem mkE_2 {y : CY} {a : Nat → Nat} {k c : Nat} {f : Nat → Int32} (h : k = 2) : mkE y a k c f = .inr (2, [.ref (a (c + 1)), .ref (a (c + 5)), .ref (a (c + 6)), .int (f 3), .int (f 4)]) := by subst h; rfl
theorem mkE_3 {y : CY} {a : Nat → Nat} {k c : Nat} {f : Nat → Int32} (h : k = 3) : mkE y a k c f = .inr (3, [.int (f 0), .int (f 1), .int (f 2), .int (f 3), .int (f 4)]) := by subst h; rfl
theorem mkE_4 {y : CY} {a : Nat → Nat} {k c : Nat} {f : Nat → Int32} (h : k = 4) : mkE y a k c f = .inr (4, [.ref (a (c + 1)), .ref (a (c + 2)), .ref (a (c + 3)), .int (f 3), .int (f 4)]) := by subst h; rfl
theorem mkE_5 {y : CY} {a : Nat → Nat} {k c : Nat} {f : Nat → Int32} (h : k = 5) : mkE y a k c f = .inr (5, [.ref (a (c + 1)), .ref (a (c + 16)), .ref (a (c + 31)), .ref (a (c + 46)), .ref (a (c + 61)), .ref (a (c + 62)), .ref (a (c + 71)), .ref (a (c + 73)), .int (f 8)]) := by subst h; rfl
theorem mkE_6 {y : CY} {a : Nat → Nat} {k c : Nat} {f : Nat → Int32} (h : k = 6) : mkE y a k c f = .inr (6, [.ref (a (c + 1)), .ref (a (c + 2)), .ref (a (c + 3)), .ref (a (c + 4)), .ref (a (c + 5)), .int (f 5), .int (f 6), .ref (a (c + 6)), .int (f 8), .ref (a (c + 7)), .int (f 10), .int (f 11), .ref (a (c + 8)), .int (f 13), .int (f 14), .int (f 15), .int (f 16), .int (f 17), .ref (a (c + 9)), .ref (a (c + 10)), .ref (a (c + 11)), .ref (a (c + 12))]) := by subst h; rfl
theorem mkE_50 {y : CY} {a : Nat → Nat} {k c : Nat} {f : Nat → Int32} (h : k = 50) : mkE y a k c f = .inl (y.2.1, 8, .inr (.inr (.inr (.inr (fun i => some (a (c + 2 + i))))))) := by subst h; rfl
theorem mkE_51 {y : CY} {a : Nat → Nat} {k c : Nat} {f : Nat → Int32} (h : k = 51) : mkE y a k c f = .inl (y.2.2, 4, .inr (.inr (.inr (.inr (fun i => some (a (c + 1 + 2 * i))))))) := by subst h; rfl
theorem mkE_i {y : CY} {a : Nat → Nat} {k c n : Nat} {f : Nat → Int32} (h : k = 100 + n) : mkE y a k c f = .inl (y.1, n, .inl f) := by
  subst h
  unfold mkE
  rw [if_neg (by omega), if_neg (by omega), if_neg (by omega), if_neg (by omega), if_neg (by omega), if_neg (by omega), if_neg (by omega), if_neg (by omega), if_neg (by omega)]
  simp
def chk (i : Int32) (n : Nat) {R : Type} (k : Option R) : Option R := if i < 0 ∨ n ≤ i.toNatClampNeg then none else k
theorem chk_s {i : Int32} {n : Nat} {R : Type} {k : Option R} {r : R} (h : chk i n k = some r) : vp_in i n ∧ k = some r := by
  unfold chk at h
  by_cases c : i < 0 ∨ n ≤ i.toNatClampNeg
  · rw [if_pos c] at h; cases h
  · rw [if_neg c] at h; exact ⟨c, h⟩
theorem chk_ok {i : Int32} {n : Nat} {R : Type} {k : Option R} (h : vp_in i n) : chk i n k = k := if_neg h
def cnz (i : Int32) {R : Type} (k : Option R) : Option R := if i = 0 then none else k
theorem cnz_s {i : Int32} {R : Type} {k : Option R} {r : R} (h : cnz i k = some r) : (¬ i = 0) ∧ k = some r := by
  unfold cnz at h
  by_cases c : i = 0
  · rw [if_pos c] at h; cases h
  · rw [if_neg c] at h; exact ⟨c, h⟩
theorem cnz_ok {i : Int32} {R : Type} {k : Option R} (h : ¬ i = 0) : cnz i k = k := if_neg h
def cbz (i : Int32) {R : Type} (k : Option R) : Option R := if i = 0 ∨ i = 1 then k else none
theorem cbz_s {i : Int32} {R : Type} {k : Option R} {r : R} (h : cbz i k = some r) : (i = 0 ∨ i = 1) ∧ k = some r := by
  unfold cbz at h
  by_cases c : i = 0 ∨ i = 1
  · rw [if_pos c] at h; exact ⟨c, h⟩
  · rw [if_neg c] at h; cases h
theorem cbz_ok {i : Int32} {R : Type} {k : Option R} (h : i = 0 ∨ i = 1) : cbz i k = k := if_pos h
theorem bz_n {i : Int32} (h : i = 0 ∨ i = 1) : narrow .boolean (.int i) = .int i := by rcases h with rfl | rfl <;> rfl
theorem bz_f {i : Int32} (h : i = 0 ∨ i = 1) : fits .boolean (.int i) = true := by rcases h with rfl | rfl <;> rfl
def ccp (sp n0 dp n1 n : Int32) (l0 l1 : Nat) {R : Type} (k : Option R) : Option R := if sp < 0 ∨ dp < 0 ∨ n < 0 ∨ l0 < sp.toNatClampNeg + n.toNatClampNeg ∨ l1 < dp.toNatClampNeg + n.toNatClampNeg then none else k
theorem bd_s {A B : Type} {o : Option A} {f : A → Option B} {r : B} (h : o.bind f = some r) : ∃ q, o = some q ∧ f q = some r := by
  cases o with
  | none => cases h
  | some q => exact ⟨q, rfl, h⟩
theorem vp_lt {i : Int32} {n : Nat} (h : vp_in i n) : i.toNatClampNeg < n := Nat.not_le.mp fun q => h (Or.inr q)
def jmin (x y : Int32) : Int32 := if y < x then y else x
def jmax (x y : Int32) : Int32 := if x < y then y else x
def jabs (x : Int32) : Int32 := if 0 ≤ x then x else 0 - x
def jrem (x y : Int32) : Int32 := x - x / y * y
def jus (x y : Int32) : Int32 := (x.toUInt32 >>> (y.toUInt32 &&& Int32.toUInt32 31)).toInt32
def FU : Nat := 1000
def it1 {A R : Type} (f : (A → Option R) → A → Option R) : Nat → A → Option R
  | 0, _ => none
  | n + 1, a => f (it1 f n) a
def it2 {A B R : Type} (f : (A → B → Option R) → A → B → Option R) : Nat → A → B → Option R
  | 0, _, _ => none
  | n + 1, a, b => f (it2 f n) a b
def it3 {A B C R : Type} (f : (A → B → C → Option R) → A → B → C → Option R) : Nat → A → B → C → Option R
  | 0, _, _, _ => none
  | n + 1, a, b, c => f (it3 f n) a b c
def it4 {A B C D R : Type} (f : (A → B → C → D → Option R) → A → B → C → D → Option R) : Nat → A → B → C → D → Option R
  | 0, _, _, _, _ => none
  | n + 1, a, b, c, d => f (it4 f n) a b c d
def it5 {A B C D E R : Type} (f : (A → B → C → D → E → Option R) → A → B → C → D → E → Option R) : Nat → A → B → C → D → E → Option R
  | 0, _, _, _, _, _ => none
  | n + 1, a, b, c, d, e => f (it5 f n) a b c d e

def NW (U : State) : Prop := va_Nw (.methodLinkNest RX4 46 yX5_together "ValveRiver") U ∧ True
theorem NW.warm {s U : State} (hW : s.WarmedH U.vm) (h : NW s) : NW U := ⟨va_Nw.warmM hW h.1, trivial⟩
theorem NW.same {s U : State} (hv : s.vm = U.vm) (h : NW s) : NW U := ⟨va_Nw.same rfl hv h.1, trivial⟩
def NI (U : State) : Prop := va_Nw (.methodLinkNest RX2 35 yX3_init "ValveRiver") U ∧ va_Nw (.methodLinkNest RX5 31 yX1_init "ValveRiver") U ∧ va_Nw (.methodLinkNest RX5 38 yX0_init "ValveRiver") U ∧ True
theorem NI.warm {s U : State} (hW : s.WarmedH U.vm) (h : NI s) : NI U := ⟨va_Nw.warmM hW h.1, va_Nw.warmM hW h.2.1, va_Nw.warmM hW h.2.2.1, trivial⟩
theorem NI.same {s U : State} (hv : s.vm = U.vm) (h : NI s) : NI U := ⟨va_Nw.same rfl hv h.1, va_Nw.same rfl hv h.2.1, va_Nw.same rfl hv h.2.2.1, trivial⟩
def nStr : Nat := 13
def lenStr : List Nat := [4, 4, 9, 7, 4, 6, 7, 2, 5, 8, 5, 4, 6]
def bytStr : List (List Int32) := [[109, 105, 108, 108], [112, 111, 101, 116], [112, 114, 111, 102, 101, 115, 115, 111, 114], [100, 111, 117, 98, 116, 101, 114], [102, 105, 115, 104], [98, 114, 105, 100, 103, 101], [119, 97, 116, 99, 104, 101, 114], [97, 116], [119, 97, 110, 116, 115], [98, 101, 108, 105, 101, 118, 101, 115], [108, 101, 118, 101, 108], [112, 108, 97, 110], [115, 116, 101, 97, 100, 121]]
def idxStr : List (Nat × String) := [(128, "mill"), (130, "poet"), (132, "professor"), (134, "doubter"), (136, "fish"), (138, "bridge"), (140, "watcher"), (96, "at"), (107, "wants"), (112, "believes"), (53, "level"), (74, "plan"), (79, "steady")]
def ownStr : String := RX0

/-! what holds outside the cells that may change -/
def kBw (w : Cond) : Bool := match w with
  | .castable .. => true
  | .declares .. => true
  | _ => false
def kB : List Cond := lw_tbl.filter kBw
theorem kB_of {l : List Cond} (hl : ∀ w ∈ l, w ∈ lw_tbl) (i : Nat) {w : Cond} (h : l[i]? = some w) (hg : kBw w = true) : w ∈ kB := List.mem_filter.mpr ⟨hl w (List.mem_of_getElem? h), hg⟩
theorem kB_on {w : Cond} (h : kBw w = true) : w.onTables = true := by
  cases w <;> first | rfl | cases h
theorem kB_warm {w : Cond} (h : kBw w = true) {s U : State} (hW : s.WarmedH U.vm) (hZ : va_Nw w s) : va_Nw w U := by
  cases w <;> first | (cases h; done) | exact va_Nw.warmC hW hZ | exact va_tabs rfl (rfl : (s.setVm U.vm).vm = U.vm) (by rw [Cond.declares_setVm hW.alike]; exact hZ)
def kSt : List (String × Nat × String) := [("PoetFines", 91, "the tape has not so many bytes"), ("PoetFines", 145, "no such count"), ("PoetFines", 340, "no such person"), ("PoetFines", 346, "no such what"), ("PoetFines", 342, "no such poet"), ("PoetFines", 344, "no such line"), ("PoetFines", 348, "a number beyond its bounds"), ("PoetFines", 317, "both are one")]
def kEm (ae : Nat → Nat) (A : Nat → Prop) (U : State) (H : Heap) : Prop := True
theorem kEm.kept {ae : Nat → Nat} {A : Nat → Prop} {u U : State} {H0 H : Heap} (h : kEm ae A u H0) (hW : u.WarmedH U.vm) (hq : ∀ q : Nat, q < H0.size → ¬ A q → H[q]? = H0[q]?) : kEm ae A U H := trivial
def kEn (ae : Nat → Nat) (A : Nat → Prop) (U : State) (H : Heap) : Prop :=
  (∀ w ∈ kB, va_Nw w U) ∧ vx_Zq Bundle.tN "UNASSIGNED_STACK" Bundle.steD A U H ∧ vx_Zq Bundle.tN "SUPPRESSED_SENTINEL" Bundle.listD A U H ∧ (∀ q ∈ kSt, ∃ sa, vk_R q.1 q.2.1 q.2.2 sa U) ∧ kEm ae A U H
theorem kEn.kept {ae : Nat → Nat} {A : Nat → Prop} {u U : State} {H0 H : Heap} (h : kEn ae A u H0) (hW : u.WarmedH U.vm) (hq : ∀ q : Nat, q < H0.size → ¬ A q → H[q]? = H0[q]?) : kEn ae A U H := by
  obtain ⟨h1, h2, h3, h4, h5⟩ := h
  refine ⟨fun w hw => kB_warm (List.mem_filter.mp hw).2 hW (h1 w hw), (vx_Zq.moved hW.alike h2).kept hq, (vx_Zq.moved hW.alike h3).kept hq, fun q hq => ?_, h5.kept hW hq⟩
  obtain ⟨sa, hs⟩ := h4 q hq
  exact ⟨sa, hs.warm hW⟩

/-! what holds outside the cells that may change -/
def kBw (w : Cond) : Bool := match w with
  | .castable .. => true
  | .declares .. => true
  | _ => false
def kB : List Cond := lw_tbl.filter kBw
theorem kB_of {l : List Cond} (hl : ∀ w ∈ l, w ∈ lw_tbl) (i : Nat) {w : Cond} (h : l[i]? = some w) (hg : kBw w = true) : w ∈ kB := List.mem_filter.mpr ⟨hl w (List.mem_of_getElem? h), hg⟩
theorem kB_on {w : Cond} (h : kBw w = true) : w.onTables = true := by
  cases w <;> first | rfl | cases h
theorem kB_warm {w : Cond} (h : kBw w = true) {s U : State} (hW : s.WarmedH U.vm) (hZ : va_Nw w s) : va_Nw w U := by
  cases w <;> first | (cases h; done) | exact va_Nw.warmC hW hZ | exact va_tabs rfl (rfl : (s.setVm U.vm).vm = U.vm) (by rw [Cond.declares_setVm hW.alike]; exact hZ)
def kSt : List (String × Nat × String) := [("PoetFines", 91, "the tape has not so many bytes"), ("PoetFines", 145, "no such count"), ("PoetFines", 340, "no such person"), ("PoetFines", 346, "no such what"), ("PoetFines", 342, "no such poet"), ("PoetFines", 344, "no such line"), ("PoetFines", 348, "a number beyond its bounds"), ("PoetFines", 317, "both are one")]
def kNm : List String := ["TOPICS", "PERSON", "POET", "HITS", "FINES", "BUYS", "OR", "AND", "NOT", "SCARS", "PURSE", "BEFORE", "YEAR", "DEPTH", "TRUE", "INCHES", "RHYMES", "UNKNOWN"]
def kPlL : List Int32 := [(-1), (-1), (-1), (-1), (-1), (-1), (-1), (-1), (-1), 0, 1, 2, 3, 4, 5, 6, 7, (-1)]
def kRuL : List Int32 := [0, 0, 0, 0, 0, 0, 0, 0, 0, 7, 7, 7, 7, 1, 1, 2, 2, 0]
def kLen : List Nat := [6, 6, 4, 4, 5, 4, 2, 3, 3, 5, 5, 6, 4, 5, 4, 6, 6, 0, 9]
def kByt : List (List Int32) := [[116, 111, 112, 105, 99, 115], [112, 101, 114, 115, 111, 110], [112, 111, 101, 116], [104, 105, 116, 115], [102, 105, 110, 101, 115], [98, 117, 121, 115], [111, 114], [97, 110, 100], [110, 111, 116], [115, 99, 97, 114, 115], [112, 117, 114, 115, 101], [98, 101, 102, 111, 114, 101], [121, 101, 97, 114], [100, 101, 112, 116, 104], [116, 114, 117, 101], [105, 110, 99, 104, 101, 115], [114, 104, 121, 109, 101, 115], [], [59, 40, 41, 43, 45, 42, 47, 60, 61]]
def kSig : String × Nat × String := ("PoetFines$Tokens", 72, ";()+-*/<=")
abbrev kNestI : Nat := 48
def kEm (ae : Nat → Nat) (A : Nat → Prop) (U : State) (H : Heap) : Prop :=
  va_En "PoetFines$Word" "LPoetFines$Word;" kNm [("PoetFines$Word", "place", "I", kPlL), ("PoetFines$Word", "rules", "I", kRuL)] (fun i => ae (4 * i)) A U H ∧
  va_Z "PoetFines$Word" "ALL" "[LPoetFines$Word;" (.ref (ae 3)) A U H ∧ va_T (.object "PoetFines$Word") (ae 3) 18 (fun j => .ref (ae (4 * j))) A U H ∧
  va_Ef 18 "PoetFines$Word" "text" "Ljava/lang/String;" (fun i => .ref (ae (4 * i + 1))) (fun i => ae (4 * i)) A U H ∧ vk_S 19 kLen kByt (fun i => ae (4 * i + 1)) (fun i => ae (4 * i + 2)) A U H ∧
  vk_R kSig.1 kSig.2.1 kSig.2.2 (ae (4 * 18 + 1)) U ∧ va_Z "java/lang/String" "COMPACT_STRINGS" "Z" (.int 1) A U H ∧
  (va_Z "jdk/internal/util/Preconditions" "SIOOBE_FORMATTER" "Ljava/util/function/BiFunction;" .null A U H ∨ va_Z "jdk/internal/util/Preconditions" "SIOOBE_FORMATTER" "Ljava/util/function/BiFunction;" (.ref (ae 7)) A U H) ∧
  va_Nw (.fieldLinkNest "PoetFines$Tokens" kNestI "PoetFines$Word" "ALL" "[LPoetFines$Word;" "PoetFines") U
theorem kEm.kept {ae : Nat → Nat} {A : Nat → Prop} {u U : State} {H0 H : Heap} (h : kEm ae A u H0) (hW : u.WarmedH U.vm) (hq : ∀ q : Nat, q < H0.size → ¬ A q → H[q]? = H0[q]?) : kEm ae A U H := by
  obtain ⟨h1, h2, h3, h4, h5, h6, h7, h8, h9⟩ := h
  exact ⟨(va_En.moved hW.alike h1).kept hq, (va_Z.moved hW.alike h2).kept hq, (va_T.moved hW.alike h3).kept hq, (va_Ef.moved hW.alike h4).kept hq, (vk_S.moved hW.alike h5).kept hq, h6.warm hW, (va_Z.moved hW.alike h7).kept hq, h8.imp (fun h => (va_Z.moved hW.alike h).kept hq) (fun h => (va_Z.moved hW.alike h).kept hq), va_Nw.warmF hW h9⟩
def kEn (ae : Nat → Nat) (A : Nat → Prop) (U : State) (H : Heap) : Prop :=
  (∀ w ∈ kB, va_Nw w U) ∧ vx_Zq Bundle.tN "UNASSIGNED_STACK" Bundle.steD A U H ∧ vx_Zq Bundle.tN "SUPPRESSED_SENTINEL" Bundle.listD A U H ∧ (∀ q ∈ kSt, ∃ sa, vk_R q.1 q.2.1 q.2.2 sa U) ∧ kEm ae A U H
theorem kEn.kept {ae : Nat → Nat} {A : Nat → Prop} {u U : State} {H0 H : Heap} (h : kEn ae A u H0) (hW : u.WarmedH U.vm) (hq : ∀ q : Nat, q < H0.size → ¬ A q → H[q]? = H0[q]?) : kEn ae A U H := by
  obtain ⟨h1, h2, h3, h4, h5⟩ := h
  refine ⟨fun w hw => kB_warm (List.mem_filter.mp hw).2 hW (h1 w hw), (vx_Zq.moved hW.alike h2).kept hq, (vx_Zq.moved hW.alike h3).kept hq, fun q hq => ?_, h5.kept hW hq⟩
  obtain ⟨sa, hs⟩ := h4 q hq
  exact ⟨sa, hs.warm hW⟩

/-! THE FLAT MEMORY: cells by number, places in them, whole numbers. KW: the machine at a pc, its locals and stack by numbers, its heap by such a memory. -/
abbrev kM : Type := Nat → Nat → Int
abbrev kV : Type := Int ⊕ Int ⊕ Nat ⊕ Int
abbrev ki (v : Int) : kV := Sum.inl v
abbrev kl (v : Int) : kV := Sum.inr (Sum.inl v)
abbrev kr (k : Nat) : kV := Sum.inr (Sum.inr (Sum.inl k))
abbrev ke (v : Int) : kV := Sum.inr (Sum.inr (Sum.inr v))
def kc (ad ae : Nat → Nat) : kV → Value
  | .inl v => .int (Int32.ofInt v)
  | .inr (.inl v) => .long (Int64.ofInt v)
  | .inr (.inr (.inl k)) => .ref (ad k)
  | .inr (.inr (.inr v)) => if v < 0 then .null else .ref (ae v.toNat)
def kR32 (v : Int) : Prop := -2147483648 ≤ v ∧ v < 2147483648
def kR64 (v : Int) : Prop := -9223372036854775808 ≤ v ∧ v < 9223372036854775808
def kok : kV → Prop
  | .inl v => kR32 v
  | .inr (.inl v) => kR64 v
  | _ => True
def kcat1 : kV → Bool
  | .inr (.inl _) => false
  | _ => true
theorem kcat (ad ae : Nat → Nat) : ∀ v : kV, kcat1 v = true → (kc ad ae v).category = 1
  | .inl _, _ => rfl
  | .inr (.inl _), h => by cases h
  | .inr (.inr (.inl _)), _ => rfl
  | .inr (.inr (.inr v)), _ => by
    show (if v < 0 then Value.null else Value.ref (ae v.toNat)).category = 1
    split <;> rfl
def w32 (v : Int) : Int := (v + 2147483648) % 4294967296 - 2147483648
theorem k32_toInt (v : Int) : (Int32.ofInt v).toInt = w32 v := by
  rw [Int32.toInt_ofInt]
  show Int.bmod v 4294967296 = _
  unfold w32
  rw [Int.bmod_def]
  split <;> omega
theorem w32_id {v : Int} (h : kR32 v) : w32 v = v := by
  obtain ⟨h1, h2⟩ := h
  unfold w32
  omega
theorem w32_rng (v : Int) : kR32 (w32 v) := by
  unfold w32 kR32
  omega
theorem k32_w32 (v : Int) : Int32.ofInt (w32 v) = Int32.ofInt v := by rw [← k32_toInt, Int32.ofInt_toInt]
theorem k32_of (z : Int32) : Int32.ofInt z.toInt = z := Int32.ofInt_toInt z
theorem k32_rng (z : Int32) : kR32 z.toInt := ⟨Int32.le_toInt z, Int32.toInt_lt z⟩
theorem k32_lt {a b : Int} (ha : kR32 a) (hb : kR32 b) : Int32.ofInt a < Int32.ofInt b ↔ a < b := by
  rw [Int32.lt_iff_toInt_lt, k32_toInt, k32_toInt, w32_id ha, w32_id hb]
theorem k32_le {a b : Int} (ha : kR32 a) (hb : kR32 b) : Int32.ofInt a ≤ Int32.ofInt b ↔ a ≤ b := by
  rw [Int32.le_iff_toInt_le, k32_toInt, k32_toInt, w32_id ha, w32_id hb]
theorem k32_eq {a b : Int} (ha : kR32 a) (hb : kR32 b) : Int32.ofInt a = Int32.ofInt b ↔ a = b := by
  rw [← Int32.toInt_inj, k32_toInt, k32_toInt, w32_id ha, w32_id hb]
theorem k32_0 : kR32 0 := by unfold kR32; omega
theorem k32_cl {v : Int} (h : kR32 v) : (Int32.ofInt v).toNatClampNeg = v.toNat := Int32.toNatClampNeg_ofInt_of_le h.1 h.2
theorem k32_in {v : Int} {n : Nat} (h : kR32 v) (h0 : 0 ≤ v) (h1 : v < (n : Int)) : vp_in (Int32.ofInt v) n := by
  rw [vp_in_iff, k32_toInt, w32_id h]
  exact ⟨h0, h1⟩
theorem k32_nlt0 {v : Int} (h : kR32 v) (h0 : 0 ≤ v) : ¬ Int32.ofInt v < 0 := by
  rw [show (0 : Int32) = Int32.ofInt 0 from rfl, k32_lt h k32_0]
  omega
theorem k64_of (z : Int64) : Int64.ofInt z.toInt = z := Int64.ofInt_toInt z
theorem k64_rng (z : Int64) : kR64 z.toInt := ⟨Int64.le_toInt z, Int64.toInt_lt z⟩
theorem k64_toInt {v : Int} (h : kR64 v) : (Int64.ofInt v).toInt = v := Int64.toInt_ofInt_of_le h.1 h.2
/-- the layout: an array of a type's number and its length, or an object of a class's number and its fields (an int, a long, a cell) -/
abbrev kF : Type := Bool ⊕ Nat
abbrev kD : Type := (Nat × Nat) ⊕ (Nat × List kF)
def kT : Nat → FieldType
  | 0 => .int
  | 1 => .byte
  | 2 => .boolean
  | _ => .long
def ktys (cA : Nat → ClassId) : List (ClassId × FieldType) := [(cA 0, .int), (cA 1, .byte), (cA 2, .boolean), (cA 3, .long)]
def kfv (ad : Nat → Nat) (f : Nat → Int) (j : Nat) : kF → Value
  | .inl false => .int (Int32.ofInt (f j))
  | .inl true => .long (Int64.ofInt (f j))
  | .inr k => .ref (ad k)
def kE (ad : Nat → Nat) (cA : Nat → ClassId) (f : Nat → Int) : kD → va_E
  | .inl (3, n) => .inl (cA 3, (n, .inr (.inl (fun j => Int64.ofInt (f j)))))
  | .inl (t, n) => .inl (cA t, (n, .inl (fun j => Int32.ofInt (f j))))
  | .inr (ci, fs) => .inr (ci, fs.mapIdx (fun j d => kfv ad f j d))
def kws (ad : Nat → Nat) (cA : Nat → ClassId) (Y : List kD) (σ : kM) : va_W := Y.mapIdx (fun k d => (ad k, kE ad cA (σ k) d))
def kst (σ : kM) (k : Nat) (f : Nat → Int) : kM := fun q => if q = k then f else σ q
def kup (f : Nat → Int) (j : Nat) (v : Int) : Nat → Int := fun i => if i = j then v else f i
def klong (Y : List kD) (k j : Nat) : Bool := match Y[k]? with
  | some (.inl (t, _)) => t == 3
  | some (.inr (_, fs)) => fs[j]? == some (.inl true)
  | none => false
def kgood (Y : List kD) (σ : kM) : Prop := ∀ k j : Nat, if klong Y k j = true then kR64 (σ k j) else kR32 (σ k j)
theorem kgood.i {Y : List kD} {σ : kM} (h : kgood Y σ) {k j : Nat} (hl : klong Y k j = false) : kR32 (σ k j) := by
  have := h k j
  rw [if_neg (by rw [hl]; decide)] at this
  exact this
theorem kgood.l {Y : List kD} {σ : kM} (h : kgood Y σ) {k j : Nat} (hl : klong Y k j = true) : kR64 (σ k j) := by
  have := h k j
  rw [if_pos hl] at this
  exact this
theorem kgood.set {Y : List kD} {σ : kM} (h : kgood Y σ) {k j : Nat} {v : Int} (hv : if klong Y k j = true then kR64 v else kR32 v) : kgood Y (kst σ k (kup (σ k) j v)) := by
  intro q i
  unfold kst
  by_cases hq : q = k
  · subst hq
    rw [if_pos rfl]
    unfold kup
    by_cases hi : i = j
    · subst hi
      rw [if_pos rfl]
      exact hv
    · rw [if_neg hi]
      exact h q i
  · rw [if_neg hq]
    exact h q i
theorem kws_at {ad : Nat → Nat} {cA : Nat → ClassId} {Y : List kD} {σ : kM} {k : Nat} {d : kD} (h : Y[k]? = some d) : (kws ad cA Y σ)[k]? = some (ad k, kE ad cA (σ k) d) := by
  unfold kws
  rw [List.getElem?_mapIdx, h]
  rfl
theorem kws_set {ad : Nat → Nat} {cA : Nat → ClassId} {Y : List kD} {σ : kM} {k : Nat} {d : kD} (h : Y[k]? = some d) (f : Nat → Int) : (kws ad cA Y σ).set k (ad k, kE ad cA f d) = kws ad cA Y (kst σ k f) := by
  apply List.ext_getElem?
  intro i
  unfold kws
  rw [List.getElem?_mapIdx, List.getElem?_set]
  by_cases hi : k = i
  · subst hi
    have hlt : k < Y.length := (List.getElem?_eq_some_iff.mp h).1
    rw [if_pos rfl, if_pos (by simpa using hlt), h]
    simp [kst]
  · rw [if_neg hi, List.getElem?_mapIdx]
    cases Y[i]? with
    | none => rfl
    | some d' => simp [kst, Ne.symm hi]
theorem kfs_set {ad : Nat → Nat} {f : Nat → Int} {fs : List kF} {j : Nat} {v : Int} {b : Bool} (h : fs[j]? = some (.inl b)) : (fs.mapIdx (fun i d => kfv ad f i d)).set j (kfv ad (fun _ => v) j (.inl b)) = fs.mapIdx (fun i d => kfv ad (kup f j v) i d) := by
  apply List.ext_getElem?
  intro i
  rw [List.getElem?_mapIdx, List.getElem?_set]
  by_cases hi : j = i
  · subst hi
    have hlt : j < fs.length := (List.getElem?_eq_some_iff.mp h).1
    rw [if_pos rfl, if_pos (by simpa using hlt), h]
    cases b <;> simp [kfv, kup]
  · rw [if_neg hi, List.getElem?_mapIdx]
    cases fs[i]? with
    | none => rfl
    | some d' =>
      rcases d' with (_ | _) | _ <;> simp [kfv, kup, Ne.symm hi]
/-- the locals -/
def klv (ad ae : Nat → Nat) (L : List (Option kV)) : List (Nat × Value) := (List.range L.length).filterMap (fun i => (L[i]?.join).map (fun v => (i, kc ad ae v)))
theorem klv_mem {ad ae : Nat → Nat} {L : List (Option kV)} {i : Nat} {v : kV} (h : L[i]? = some (some v)) : (i, kc ad ae v) ∈ klv ad ae L := by
  unfold klv
  rw [List.mem_filterMap]
  exact ⟨i, List.mem_range.mpr (List.getElem?_eq_some_iff.mp h).1, by rw [h]; rfl⟩
def kloc (ad ae : Nat → Nat) (ls : Array Slot) (nL : Nat) (L : List (Option kV)) : Prop := lv_has ls nL (klv ad ae L)
theorem kloc.at {ad ae : Nat → Nat} {ls : Array Slot} {nL : Nat} {L : List (Option kV)} (h : kloc ad ae ls nL L) {i : Nat} {v : kV} (hi : L[i]? = some (some v)) : ls[i]? = some (.val (kc ad ae v)) := h.2.2 _ (klv_mem hi)
theorem klv_of {ad ae : Nat → Nat} {L : List (Option kV)} {q : Nat × Value} (h : q ∈ klv ad ae L) : ∃ v, L[q.1]? = some (some v) ∧ q.2 = kc ad ae v := by
  unfold klv at h
  rw [List.mem_filterMap] at h
  obtain ⟨i, -, h2⟩ := h
  cases hx : L[i]? with
  | none => rw [hx] at h2; simp at h2
  | some o =>
    cases o with
    | none => rw [hx] at h2; simp at h2
    | some v =>
      rw [hx] at h2
      simp at h2
      obtain ⟨rfl, rfl⟩ := h2
      exact ⟨v, hx, rfl⟩
def kno (L : List (Option kV)) : Nat → Bool
  | 0 => true
  | j + 1 => match L[j]? with
    | some (some v) => kcat1 v
    | _ => true
theorem kloc.set1 {ad ae : Nat → Nat} {ls' : Array Slot} {nL : Nat} {L : List (Option kV)} {i : Nat} {v : kV} (hno : kno L i = true)
    (h : lv_has ls' nL ((i, kc ad ae v) :: (klv ad ae L).filter (fun q => !(q.1 == i) && !(q.1 + 1 == i && q.2.category == 2)))) : kloc ad ae ls' nL (L.set i (some v)) := by
  refine ⟨h.1, h.2.1, fun q hq => ?_⟩
  obtain ⟨u, h1, h2⟩ := klv_of hq
  obtain ⟨j, z⟩ := q
  dsimp only at h1 h2
  subst h2
  rw [List.getElem?_set] at h1
  by_cases hij : i = j
  · subst hij
    rw [if_pos rfl] at h1
    split at h1
    · cases h1
      exact h.2.2 _ List.mem_cons_self
    · cases h1
  · rw [if_neg hij] at h1
    refine h.2.2 _ (List.mem_cons_of_mem _ (List.mem_filter.mpr ⟨klv_mem h1, ?_⟩))
    simp only [Bool.and_eq_true, Bool.not_eq_true', beq_eq_false_iff_ne]
    refine ⟨fun e => hij e.symm, ?_⟩
    cases hc : (j + 1 == i) with
    | false => rfl
    | true =>
      have hji : i = j + 1 := (beq_iff_eq.mp hc).symm
      subst hji
      have : kcat1 u = true := by
        have q : (match L[j]? with | some (some v) => kcat1 v | _ => true) = true := hno
        rw [h1] at q
        exact q
      rw [kcat ad ae u this]
      rfl
theorem kloc.set2 {ad ae : Nat → Nat} {ls' : Array Slot} {nL : Nat} {L : List (Option kV)} {i : Nat} {v : kV} (hno : kno L i = true)
    (h : lv_has ls' nL ((i, kc ad ae v) :: (klv ad ae L).filter (fun q => !(q.1 == i) && (!(q.1 == i + 1) && !(q.1 + 1 == i && q.2.category == 2))))) : kloc ad ae ls' nL ((L.set i (some v)).set (i + 1) none) := by
  refine ⟨h.1, h.2.1, fun q hq => ?_⟩
  obtain ⟨u, h1, h2⟩ := klv_of hq
  obtain ⟨j, z⟩ := q
  dsimp only at h1 h2
  subst h2
  rw [List.getElem?_set] at h1
  by_cases hi1 : i + 1 = j
  · rw [if_pos hi1] at h1
    split at h1 <;> cases h1
  · rw [if_neg hi1, List.getElem?_set] at h1
    by_cases hij : i = j
    · subst hij
      rw [if_pos rfl] at h1
      split at h1
      · cases h1
        exact h.2.2 _ List.mem_cons_self
      · cases h1
    · rw [if_neg hij] at h1
      refine h.2.2 _ (List.mem_cons_of_mem _ (List.mem_filter.mpr ⟨klv_mem h1, ?_⟩))
      simp only [Bool.and_eq_true, Bool.not_eq_true', beq_eq_false_iff_ne]
      refine ⟨fun e => hij e.symm, fun e => hi1 e.symm, ?_⟩
      cases hc : (j + 1 == i) with
      | false => rfl
      | true =>
        have hji : i = j + 1 := (beq_iff_eq.mp hc).symm
        subst hji
        have : kcat1 u = true := by
          have q : (match L[j]? with | some (some v) => kcat1 v | _ => true) = true := hno
          rw [h1] at q
          exact q
        rw [kcat ad ae u this]
        rfl
/-- the words that every method here has beside its own code -/
def kG : List Cond := lw_tbl.filter goodWord
theorem kG_in {w : Cond} (i : Nat) (h : lw_tbl[i]? = some w) (hg : goodWord w = true) : w ∈ kG := List.mem_filter.mpr ⟨List.mem_of_getElem? h, hg⟩
/-- where a walk stands: the machine, and the heap's layout -/
abbrev kX : Type := (Program × Launch × Env × Room × State × MethodId × Array Value × List Frame × Method × Code) × (va_G × List vw_C × (Nat → ClassId) × (Nat → Nat) × (Nat → Nat) × List kD × (Nat → Prop) × Nat)
def kCx (x : kX) (cc : ByteArray) (own : String) (ret : Option FieldType) (cl0 : List vw_C) (Y0 : List kD) (n0 : Nat) (l0 : Launch) (R0 : Room) : Prop := match x with
  | ((p, l, _, R, s, m, args, _, meth, c), (D, cl, cA, _, ae, Y, A, nL)) => cl = cl0 ∧ Y = Y0 ∧ nL = n0 ∧ l = l0 ∧ R = R0 ∧ kEn ae A s s.heap ∧ p.tables.exec = Jvm.exec ∧ c.code = cc ∧ c.maxLocals = nL ∧ meth.sig.returnType = ret ∧ s.vm.findClass own = some m.cls ∧ (∀ w ∈ kG, w.before args s = true) ∧ va_K D cl (ktys cA) s ∧ meth.locks = false ∧ ∀ q : Nat, s.heap.size ≤ q → A q
def KW (x : kX) (cells slots : Nat) (Q : State → Prop) (σ : kM) (pc : Nat) (L : List (Option kV)) (S : List kV) : Prop := match x with
  | ((p, l, e, R, s, m, args, below, meth, c), (D, cl, cA, ad, ae, Y, A, nL)) => kgood Y σ → (∀ v, some v ∈ L → kok v) → (∀ v ∈ S, kok v) → ∀ (H : Heap) (locs : List Loc) (ls : Array Slot), va_P D cl (kws ad cA Y σ) H → va_D A (kws ad cA Y σ) → va_S A s.heap H locs → kloc ad ae ls nL L →
      W p l e R s m args below meth c H locs cells slots Q (F0 m pc ls (S.map (kc ad ae)))
theorem kS1 {v : kV} {S : List kV} (h : ∀ u ∈ v :: S, kok u) : kok v ∧ ∀ u ∈ S, kok u := List.forall_mem_cons.mp h
theorem kS1' {v : kV} {S : List kV} (h : kok v) (hS : ∀ u ∈ S, kok u) : ∀ u ∈ v :: S, kok u := List.forall_mem_cons.mpr ⟨h, hS⟩
theorem kL1 {L : List (Option kV)} (h : ∀ v, some v ∈ L → kok v) {i : Nat} {v : kV} (hi : L[i]? = some (some v)) : kok v := h v (List.mem_of_getElem? hi)
theorem kLset {L : List (Option kV)} (h : ∀ v, some v ∈ L → kok v) {i : Nat} {v : kV} (hv : kok v) : ∀ u, some u ∈ L.set i (some v) → kok u := by
  intro u hu
  rcases List.mem_or_eq_of_mem_set hu with h1 | h1
  · exact h u h1
  · cases h1
    exact hv
theorem kLsetN {L : List (Option kV)} (h : ∀ v, some v ∈ L → kok v) {i : Nat} : ∀ u, some u ∈ L.set i none → kok u := by
  intro u hu
  rcases List.mem_or_eq_of_mem_set hu with h1 | h1
  · exact h u h1
  · cases h1
section KWR
variable {x : kX} {cc : ByteArray} {own : String} {ret : Option FieldType} {cl0 : List vw_C} {Y0 : List kD} {n0 : Nat} {l0 : Launch} {R0 : Room} {cells slots : Nat} {Q : State → Prop} {σ : kM} {pc : Nat} {L : List (Option kV)} {S : List kV}
theorem kw_iconst {n v : Int} (C : kCx x cc own ret cl0 Y0 n0 l0 R0) (hd : decode cc pc = .ok (.iconst n, 1)) (pc' : Nat) (hpc : pc + 1 = pc') (hv : n = v) (hrg : kR32 v) (k : KW x cells slots Q σ pc' L (ki v :: S)) : KW x cells slots Q σ pc L S := by
  obtain ⟨⟨p, l, e, R, s, m, args, below, meth, c⟩, ⟨D, cl, cA, ad, ae, Y, A, nL⟩⟩ := x
  obtain ⟨rfl, rfl, rfl, rfl, rfl, hEn, hx, hb, hml, hr, hown, hts, hK, hlocks, hA⟩ := C
  subst hpc
  subst hv
  intro hg hL hS H locs ls hP hD hSv hl
  exact lv_iconst hx hb hd rfl (k hg hL (kS1' hrg hS) H locs ls hP hD hSv hl)
theorem kw_bipush {n v : Int} (C : kCx x cc own ret cl0 Y0 n0 l0 R0) (hd : decode cc pc = .ok (.bipush n, 2)) (pc' : Nat) (hpc : pc + 2 = pc') (hv : (Int8.ofInt n).toInt32 = Int32.ofInt v) (hrg : kR32 v) (k : KW x cells slots Q σ pc' L (ki v :: S)) : KW x cells slots Q σ pc L S := by
  obtain ⟨⟨p, l, e, R, s, m, args, below, meth, c⟩, ⟨D, cl, cA, ad, ae, Y, A, nL⟩⟩ := x
  obtain ⟨rfl, rfl, rfl, rfl, rfl, hEn, hx, hb, hml, hr, hown, hts, hK, hlocks, hA⟩ := C
  subst hpc
  intro hg hL hS H locs ls hP hD hSv hl
  exact lv_bipush hx hb hd hv (k hg hL (kS1' hrg hS) H locs ls hP hD hSv hl)
theorem kw_sipush {n v : Int} (C : kCx x cc own ret cl0 Y0 n0 l0 R0) (hd : decode cc pc = .ok (.sipush n, 3)) (pc' : Nat) (hpc : pc + 3 = pc') (hv : (Int16.ofInt n).toInt32 = Int32.ofInt v) (hrg : kR32 v) (k : KW x cells slots Q σ pc' L (ki v :: S)) : KW x cells slots Q σ pc L S := by
  obtain ⟨⟨p, l, e, R, s, m, args, below, meth, c⟩, ⟨D, cl, cA, ad, ae, Y, A, nL⟩⟩ := x
  obtain ⟨rfl, rfl, rfl, rfl, rfl, hEn, hx, hb, hml, hr, hown, hts, hK, hlocks, hA⟩ := C
  subst hpc
  intro hg hL hS H locs ls hP hD hSv hl
  exact lv_sipush hx hb hd hv (k hg hL (kS1' hrg hS) H locs ls hP hD hSv hl)
theorem kw_ldc {index : Nat} {v : Int} (C : kCx x cc own ret cl0 Y0 n0 l0 R0) (hd : decode cc pc = .ok (.ldc index, 2)) (pc' : Nat) (hpc : pc + 2 = pc') (hw : Cond.constant own index (Int32.ofInt v) ∈ kG) (hrg : kR32 v) (k : KW x cells slots Q σ pc' L (ki v :: S)) : KW x cells slots Q σ pc L S := by
  obtain ⟨⟨p, l, e, R, s, m, args, below, meth, c⟩, ⟨D, cl, cA, ad, ae, Y, A, nL⟩⟩ := x
  obtain ⟨rfl, rfl, rfl, rfl, rfl, hEn, hx, hb, hml, hr, hown, hts, hK, hlocks, hA⟩ := C
  subst hpc
  intro hg hL hS H locs ls hP hD hSv hl
  exact lv_ldc hx hb hown (hts _ hw) hd (k hg hL (kS1' hrg hS) H locs ls hP hD hSv hl)
theorem kw_ldcw {index : Nat} {v : Int} (C : kCx x cc own ret cl0 Y0 n0 l0 R0) (hd : decode cc pc = .ok (.ldc_w index, 3)) (pc' : Nat) (hpc : pc + 3 = pc') (hw : Cond.constant own index (Int32.ofInt v) ∈ kG) (hrg : kR32 v) (k : KW x cells slots Q σ pc' L (ki v :: S)) : KW x cells slots Q σ pc L S := by
  obtain ⟨⟨p, l, e, R, s, m, args, below, meth, c⟩, ⟨D, cl, cA, ad, ae, Y, A, nL⟩⟩ := x
  obtain ⟨rfl, rfl, rfl, rfl, rfl, hEn, hx, hb, hml, hr, hown, hts, hK, hlocks, hA⟩ := C
  subst hpc
  intro hg hL hS H locs ls hP hD hSv hl
  exact lv_ldcw hx hb hown (hts _ hw) hd (k hg hL (kS1' hrg hS) H locs ls hP hD hSv hl)
theorem kw_ldc2 {index : Nat} {v : Int} (C : kCx x cc own ret cl0 Y0 n0 l0 R0) (hd : decode cc pc = .ok (.ldc2_w index, 3)) (pc' : Nat) (hpc : pc + 3 = pc') (hw : Cond.constantLong own index (Int64.ofInt v) ∈ kG) (hrg : kR64 v) (k : KW x cells slots Q σ pc' L (kl v :: S)) : KW x cells slots Q σ pc L S := by
  obtain ⟨⟨p, l, e, R, s, m, args, below, meth, c⟩, ⟨D, cl, cA, ad, ae, Y, A, nL⟩⟩ := x
  obtain ⟨rfl, rfl, rfl, rfl, rfl, hEn, hx, hb, hml, hr, hown, hts, hK, hlocks, hA⟩ := C
  subst hpc
  intro hg hL hS H locs ls hP hD hSv hl
  exact lv_ldc2 hx hb hown (hts _ hw) hd (k hg hL (kS1' hrg hS) H locs ls hP hD hSv hl)
theorem kw_lconst {n : Fin 2} {v : Int} (C : kCx x cc own ret cl0 Y0 n0 l0 R0) (hd : decode cc pc = .ok (.lconst n, 1)) (pc' : Nat) (hpc : pc + 1 = pc') (hv : Int64.ofNat (n : Nat) = Int64.ofInt v) (hrg : kR64 v) (k : KW x cells slots Q σ pc' L (kl v :: S)) : KW x cells slots Q σ pc L S := by
  obtain ⟨⟨p, l, e, R, s, m, args, below, meth, c⟩, ⟨D, cl, cA, ad, ae, Y, A, nL⟩⟩ := x
  obtain ⟨rfl, rfl, rfl, rfl, rfl, hEn, hx, hb, hml, hr, hown, hts, hK, hlocks, hA⟩ := C
  subst hpc
  intro hg hL hS H locs ls hP hD hSv hl
  exact lv_lconst hx hb hd hv (k hg hL (kS1' hrg hS) H locs ls hP hD hSv hl)
theorem kw_iload_n {k4 : Fin 4} {i : Nat} {v : Int} (C : kCx x cc own ret cl0 Y0 n0 l0 R0) (hd : decode cc pc = .ok (.iload_n k4, 1)) (hi : (k4 : Nat) = i) (pc' : Nat) (hpc : pc + 1 = pc') (hv : L[i]? = some (some (ki v))) (k : KW x cells slots Q σ pc' L (ki v :: S)) : KW x cells slots Q σ pc L S := by
  obtain ⟨⟨p, l, e, R, s, m, args, below, meth, c⟩, ⟨D, cl, cA, ad, ae, Y, A, nL⟩⟩ := x
  obtain ⟨rfl, rfl, rfl, rfl, rfl, hEn, hx, hb, hml, hr, hown, hts, hK, hlocks, hA⟩ := C
  subst hpc
  intro hg hL hS H locs ls hP hD hSv hl
  exact lv_iload_n hx hb hd hi (kloc.at hl hv) (k hg hL (kS1' (kL1 hL hv) hS) H locs ls hP hD hSv hl)
theorem kw_iload {i : Nat} {v : Int} (C : kCx x cc own ret cl0 Y0 n0 l0 R0) (hd : decode cc pc = .ok (.iload i, 2)) (pc' : Nat) (hpc : pc + 2 = pc') (hv : L[i]? = some (some (ki v))) (k : KW x cells slots Q σ pc' L (ki v :: S)) : KW x cells slots Q σ pc L S := by
  obtain ⟨⟨p, l, e, R, s, m, args, below, meth, c⟩, ⟨D, cl, cA, ad, ae, Y, A, nL⟩⟩ := x
  obtain ⟨rfl, rfl, rfl, rfl, rfl, hEn, hx, hb, hml, hr, hown, hts, hK, hlocks, hA⟩ := C
  subst hpc
  intro hg hL hS H locs ls hP hD hSv hl
  exact lv_iload hx hb hd (kloc.at hl hv) (k hg hL (kS1' (kL1 hL hv) hS) H locs ls hP hD hSv hl)
theorem kw_lload_n {k4 : Fin 4} {i : Nat} {v : Int} (C : kCx x cc own ret cl0 Y0 n0 l0 R0) (hd : decode cc pc = .ok (.lload_n k4, 1)) (hi : (k4 : Nat) = i) (pc' : Nat) (hpc : pc + 1 = pc') (hv : L[i]? = some (some (kl v))) (k : KW x cells slots Q σ pc' L (kl v :: S)) : KW x cells slots Q σ pc L S := by
  obtain ⟨⟨p, l, e, R, s, m, args, below, meth, c⟩, ⟨D, cl, cA, ad, ae, Y, A, nL⟩⟩ := x
  obtain ⟨rfl, rfl, rfl, rfl, rfl, hEn, hx, hb, hml, hr, hown, hts, hK, hlocks, hA⟩ := C
  subst hpc
  intro hg hL hS H locs ls hP hD hSv hl
  exact lv_lload_n hx hb hd hi (kloc.at hl hv) (k hg hL (kS1' (kL1 hL hv) hS) H locs ls hP hD hSv hl)
theorem kw_lload {i : Nat} {v : Int} (C : kCx x cc own ret cl0 Y0 n0 l0 R0) (hd : decode cc pc = .ok (.lload i, 2)) (pc' : Nat) (hpc : pc + 2 = pc') (hv : L[i]? = some (some (kl v))) (k : KW x cells slots Q σ pc' L (kl v :: S)) : KW x cells slots Q σ pc L S := by
  obtain ⟨⟨p, l, e, R, s, m, args, below, meth, c⟩, ⟨D, cl, cA, ad, ae, Y, A, nL⟩⟩ := x
  obtain ⟨rfl, rfl, rfl, rfl, rfl, hEn, hx, hb, hml, hr, hown, hts, hK, hlocks, hA⟩ := C
  subst hpc
  intro hg hL hS H locs ls hP hD hSv hl
  exact lv_lload hx hb hd (kloc.at hl hv) (k hg hL (kS1' (kL1 hL hv) hS) H locs ls hP hD hSv hl)
theorem kw_aload_n {k4 : Fin 4} {i : Nat} {v : Nat} (C : kCx x cc own ret cl0 Y0 n0 l0 R0) (hd : decode cc pc = .ok (.aload_n k4, 1)) (hi : (k4 : Nat) = i) (pc' : Nat) (hpc : pc + 1 = pc') (hv : L[i]? = some (some (kr v))) (k : KW x cells slots Q σ pc' L (kr v :: S)) : KW x cells slots Q σ pc L S := by
  obtain ⟨⟨p, l, e, R, s, m, args, below, meth, c⟩, ⟨D, cl, cA, ad, ae, Y, A, nL⟩⟩ := x
  obtain ⟨rfl, rfl, rfl, rfl, rfl, hEn, hx, hb, hml, hr, hown, hts, hK, hlocks, hA⟩ := C
  subst hpc
  intro hg hL hS H locs ls hP hD hSv hl
  exact lv_aload_n hx hb hd hi (kloc.at hl hv) (k hg hL (kS1' (kL1 hL hv) hS) H locs ls hP hD hSv hl)
theorem kw_aload {i : Nat} {v : Nat} (C : kCx x cc own ret cl0 Y0 n0 l0 R0) (hd : decode cc pc = .ok (.aload i, 2)) (pc' : Nat) (hpc : pc + 2 = pc') (hv : L[i]? = some (some (kr v))) (k : KW x cells slots Q σ pc' L (kr v :: S)) : KW x cells slots Q σ pc L S := by
  obtain ⟨⟨p, l, e, R, s, m, args, below, meth, c⟩, ⟨D, cl, cA, ad, ae, Y, A, nL⟩⟩ := x
  obtain ⟨rfl, rfl, rfl, rfl, rfl, hEn, hx, hb, hml, hr, hown, hts, hK, hlocks, hA⟩ := C
  subst hpc
  intro hg hL hS H locs ls hP hD hSv hl
  exact lv_aload hx hb hd (kloc.at hl hv) (k hg hL (kS1' (kL1 hL hv) hS) H locs ls hP hD hSv hl)
theorem kw_istore_n {k4 : Fin 4} {i : Nat} {v : Int} {L' : List (Option kV)} (C : kCx x cc own ret cl0 Y0 n0 l0 R0) (hd : decode cc pc = .ok (.istore_n k4, 1)) (hi : (k4 : Nat) = i) (pc' : Nat) (hpc : pc + 1 = pc') (hn : i < n0) (hno : kno L i = true) (hL' : L.set i (some (ki v)) = L') (k : KW x cells slots Q σ pc' L' S) : KW x cells slots Q σ pc L (ki v :: S) := by
  obtain ⟨⟨p, l, e, R, s, m, args, below, meth, c⟩, ⟨D, cl, cA, ad, ae, Y, A, nL⟩⟩ := x
  obtain ⟨rfl, rfl, rfl, rfl, rfl, hEn, hx, hb, hml, hr, hown, hts, hK, hlocks, hA⟩ := C
  subst hpc
  subst hL'
  intro hg hL hS H locs ls hP hD hSv hl
  obtain ⟨hv, hS⟩ := kS1 hS
  exact lv_istore_n hx hb hd hi hl hn rfl (fun ls' h' => k hg (kLset hL hv) hS H locs ls' hP hD hSv (kloc.set1 (v := ki v) hno h'))
theorem kw_istore {i : Nat} {v : Int} {L' : List (Option kV)} (C : kCx x cc own ret cl0 Y0 n0 l0 R0) (hd : decode cc pc = .ok (.istore i, 2)) (pc' : Nat) (hpc : pc + 2 = pc') (hn : i < n0) (hno : kno L i = true) (hL' : L.set i (some (ki v)) = L') (k : KW x cells slots Q σ pc' L' S) : KW x cells slots Q σ pc L (ki v :: S) := by
  obtain ⟨⟨p, l, e, R, s, m, args, below, meth, c⟩, ⟨D, cl, cA, ad, ae, Y, A, nL⟩⟩ := x
  obtain ⟨rfl, rfl, rfl, rfl, rfl, hEn, hx, hb, hml, hr, hown, hts, hK, hlocks, hA⟩ := C
  subst hpc
  subst hL'
  intro hg hL hS H locs ls hP hD hSv hl
  obtain ⟨hv, hS⟩ := kS1 hS
  exact lv_istore hx hb hd hl hn rfl (fun ls' h' => k hg (kLset hL hv) hS H locs ls' hP hD hSv (kloc.set1 (v := ki v) hno h'))
theorem kw_astore_n {k4 : Fin 4} {i : Nat} {v : Nat} {L' : List (Option kV)} (C : kCx x cc own ret cl0 Y0 n0 l0 R0) (hd : decode cc pc = .ok (.astore_n k4, 1)) (hi : (k4 : Nat) = i) (pc' : Nat) (hpc : pc + 1 = pc') (hn : i < n0) (hno : kno L i = true) (hL' : L.set i (some (kr v)) = L') (k : KW x cells slots Q σ pc' L' S) : KW x cells slots Q σ pc L (kr v :: S) := by
  obtain ⟨⟨p, l, e, R, s, m, args, below, meth, c⟩, ⟨D, cl, cA, ad, ae, Y, A, nL⟩⟩ := x
  obtain ⟨rfl, rfl, rfl, rfl, rfl, hEn, hx, hb, hml, hr, hown, hts, hK, hlocks, hA⟩ := C
  subst hpc
  subst hL'
  intro hg hL hS H locs ls hP hD hSv hl
  obtain ⟨hv, hS⟩ := kS1 hS
  exact lv_astore_n hx hb hd hi hl hn rfl (fun ls' h' => k hg (kLset hL hv) hS H locs ls' hP hD hSv (kloc.set1 (v := kr v) hno h'))
theorem kw_astore {i : Nat} {v : Nat} {L' : List (Option kV)} (C : kCx x cc own ret cl0 Y0 n0 l0 R0) (hd : decode cc pc = .ok (.astore i, 2)) (pc' : Nat) (hpc : pc + 2 = pc') (hn : i < n0) (hno : kno L i = true) (hL' : L.set i (some (kr v)) = L') (k : KW x cells slots Q σ pc' L' S) : KW x cells slots Q σ pc L (kr v :: S) := by
  obtain ⟨⟨p, l, e, R, s, m, args, below, meth, c⟩, ⟨D, cl, cA, ad, ae, Y, A, nL⟩⟩ := x
  obtain ⟨rfl, rfl, rfl, rfl, rfl, hEn, hx, hb, hml, hr, hown, hts, hK, hlocks, hA⟩ := C
  subst hpc
  subst hL'
  intro hg hL hS H locs ls hP hD hSv hl
  obtain ⟨hv, hS⟩ := kS1 hS
  exact lv_astore hx hb hd hl hn rfl (fun ls' h' => k hg (kLset hL hv) hS H locs ls' hP hD hSv (kloc.set1 (v := kr v) hno h'))
theorem kw_eload_n {k4 : Fin 4} {i : Nat} {v : Int} (C : kCx x cc own ret cl0 Y0 n0 l0 R0) (hd : decode cc pc = .ok (.aload_n k4, 1)) (hi : (k4 : Nat) = i) (pc' : Nat) (hpc : pc + 1 = pc') (hv : L[i]? = some (some (ke v))) (k : KW x cells slots Q σ pc' L (ke v :: S)) : KW x cells slots Q σ pc L S := by
  obtain ⟨⟨p, l, e, R, s, m, args, below, meth, c⟩, ⟨D, cl, cA, ad, ae, Y, A, nL⟩⟩ := x
  obtain ⟨rfl, rfl, rfl, rfl, rfl, hEn, hx, hb, hml, hr, hown, hts, hK, hlocks, hA⟩ := C
  subst hpc
  intro hg hL hS H locs ls hP hD hSv hl
  have k' := k hg hL (kS1' (kL1 hL hv) hS) H locs ls hP hD hSv hl
  have h9 := kloc.at hl hv
  by_cases hn : v < 0
  · rw [show kc ad ae (ke v) = Value.null from if_pos hn] at h9
    rw [List.map_cons, show kc ad ae (ke v) = Value.null from if_pos hn] at k'
    exact lv_aload_nN hx hb hd hi h9 k'
  · rw [show kc ad ae (ke v) = Value.ref (ae v.toNat) from if_neg hn] at h9
    rw [List.map_cons, show kc ad ae (ke v) = Value.ref (ae v.toNat) from if_neg hn] at k'
    exact lv_aload_n hx hb hd hi h9 k'
theorem kw_estore_n {k4 : Fin 4} {i : Nat} {v : Int} {L' : List (Option kV)} (C : kCx x cc own ret cl0 Y0 n0 l0 R0) (hd : decode cc pc = .ok (.astore_n k4, 1)) (hi : (k4 : Nat) = i) (pc' : Nat) (hpc : pc + 1 = pc') (hn : i < n0) (hno : kno L i = true) (hL' : L.set i (some (ke v)) = L') (k : KW x cells slots Q σ pc' L' S) : KW x cells slots Q σ pc L (ke v :: S) := by
  obtain ⟨⟨p, l, e, R, s, m, args, below, meth, c⟩, ⟨D, cl, cA, ad, ae, Y, A, nL⟩⟩ := x
  obtain ⟨rfl, rfl, rfl, rfl, rfl, hEn, hx, hb, hml, hr, hown, hts, hK, hlocks, hA⟩ := C
  subst hpc
  subst hL'
  intro hg hL hS H locs ls hP hD hSv hl
  obtain ⟨hv, hS⟩ := kS1 hS
  rw [List.map_cons]
  by_cases hz : v < 0
  · have e9 : kc ad ae (ke v) = Value.null := if_pos hz
    rw [e9]
    exact lv_astore_nN hx hb hd hi hl hn rfl (fun ls' h' => k hg (kLset hL hv) hS H locs ls' hP hD hSv (kloc.set1 (v := ke v) hno (by rw [e9]; exact h')))
  · have e9 : kc ad ae (ke v) = Value.ref (ae v.toNat) := if_neg hz
    rw [e9]
    exact lv_astore_n hx hb hd hi hl hn rfl (fun ls' h' => k hg (kLset hL hv) hS H locs ls' hP hD hSv (kloc.set1 (v := ke v) hno (by rw [e9]; exact h')))
theorem kw_eload {i : Nat} {v : Int} (C : kCx x cc own ret cl0 Y0 n0 l0 R0) (hd : decode cc pc = .ok (.aload i, 2)) (pc' : Nat) (hpc : pc + 2 = pc') (hv : L[i]? = some (some (ke v))) (k : KW x cells slots Q σ pc' L (ke v :: S)) : KW x cells slots Q σ pc L S := by
  obtain ⟨⟨p, l, e, R, s, m, args, below, meth, c⟩, ⟨D, cl, cA, ad, ae, Y, A, nL⟩⟩ := x
  obtain ⟨rfl, rfl, rfl, rfl, rfl, hEn, hx, hb, hml, hr, hown, hts, hK, hlocks, hA⟩ := C
  subst hpc
  intro hg hL hS H locs ls hP hD hSv hl
  have k' := k hg hL (kS1' (kL1 hL hv) hS) H locs ls hP hD hSv hl
  have h9 := kloc.at hl hv
  by_cases hn : v < 0
  · rw [show kc ad ae (ke v) = Value.null from if_pos hn] at h9
    rw [List.map_cons, show kc ad ae (ke v) = Value.null from if_pos hn] at k'
    exact lv_aloadN hx hb hd h9 k'
  · rw [show kc ad ae (ke v) = Value.ref (ae v.toNat) from if_neg hn] at h9
    rw [List.map_cons, show kc ad ae (ke v) = Value.ref (ae v.toNat) from if_neg hn] at k'
    exact lv_aload hx hb hd h9 k'
theorem kw_estore {i : Nat} {v : Int} {L' : List (Option kV)} (C : kCx x cc own ret cl0 Y0 n0 l0 R0) (hd : decode cc pc = .ok (.astore i, 2)) (pc' : Nat) (hpc : pc + 2 = pc') (hn : i < n0) (hno : kno L i = true) (hL' : L.set i (some (ke v)) = L') (k : KW x cells slots Q σ pc' L' S) : KW x cells slots Q σ pc L (ke v :: S) := by
  obtain ⟨⟨p, l, e, R, s, m, args, below, meth, c⟩, ⟨D, cl, cA, ad, ae, Y, A, nL⟩⟩ := x
  obtain ⟨rfl, rfl, rfl, rfl, rfl, hEn, hx, hb, hml, hr, hown, hts, hK, hlocks, hA⟩ := C
  subst hpc
  subst hL'
  intro hg hL hS H locs ls hP hD hSv hl
  obtain ⟨hv, hS⟩ := kS1 hS
  rw [List.map_cons]
  by_cases hz : v < 0
  · have e9 : kc ad ae (ke v) = Value.null := if_pos hz
    rw [e9]
    exact lv_astoreN hx hb hd hl hn rfl (fun ls' h' => k hg (kLset hL hv) hS H locs ls' hP hD hSv (kloc.set1 (v := ke v) hno (by rw [e9]; exact h')))
  · have e9 : kc ad ae (ke v) = Value.ref (ae v.toNat) := if_neg hz
    rw [e9]
    exact lv_astore hx hb hd hl hn rfl (fun ls' h' => k hg (kLset hL hv) hS H locs ls' hP hD hSv (kloc.set1 (v := ke v) hno (by rw [e9]; exact h')))
theorem kw_lstore {i : Nat} {v : Int} {L' : List (Option kV)} (C : kCx x cc own ret cl0 Y0 n0 l0 R0) (hd : decode cc pc = .ok (.lstore i, 2)) (pc' : Nat) (hpc : pc + 2 = pc') (hn : i + 1 < n0) (hno : kno L i = true) (hL' : (L.set i (some (kl v))).set (i + 1) none = L') (k : KW x cells slots Q σ pc' L' S) : KW x cells slots Q σ pc L (kl v :: S) := by
  obtain ⟨⟨p, l, e, R, s, m, args, below, meth, c⟩, ⟨D, cl, cA, ad, ae, Y, A, nL⟩⟩ := x
  obtain ⟨rfl, rfl, rfl, rfl, rfl, hEn, hx, hb, hml, hr, hown, hts, hK, hlocks, hA⟩ := C
  subst hpc
  subst hL'
  intro hg hL hS H locs ls hP hD hSv hl
  obtain ⟨hv, hS⟩ := kS1 hS
  exact lv_lstore hx hb hd hl hn rfl (fun ls' h' => k hg (kLsetN (kLset hL hv)) hS H locs ls' hP hD hSv (kloc.set2 (v := kl v) hno h'))
theorem kw_iinc {i : Nat} {n v : Int} {L' : List (Option kV)} (C : kCx x cc own ret cl0 Y0 n0 l0 R0) (hd : decode cc pc = .ok (.iinc i n, 3)) (pc' : Nat) (hpc : pc + 3 = pc') (hv : L[i]? = some (some (ki v))) (hn : i < n0) (hno : kno L i = true) (hL' : L.set i (some (ki (w32 (v + n)))) = L') (k : KW x cells slots Q σ pc' L' S) : KW x cells slots Q σ pc L S := by
  obtain ⟨⟨p, l, e, R, s, m, args, below, meth, c⟩, ⟨D, cl, cA, ad, ae, Y, A, nL⟩⟩ := x
  obtain ⟨rfl, rfl, rfl, rfl, rfl, hEn, hx, hb, hml, hr, hown, hts, hK, hlocks, hA⟩ := C
  subst hpc
  subst hL'
  intro hg hL hS H locs ls hP hD hSv hl
  obtain ⟨j, hj⟩ := List.getElem?_of_mem (klv_mem (ad := ad) (ae := ae) hv)
  exact lv_iinc (v := Int32.ofInt (w32 (v + n))) hx hb hd hl (k := j) (x := Int32.ofInt v) hj (by rw [k32_w32, Int32.ofInt_add]) hn rfl (fun ls' h' => k hg (kLset hL (w32_rng _)) hS H locs ls' hP hD hSv (kloc.set1 (v := ki (w32 (v + n))) hno h'))
theorem kw_iadd {a b : Int} (C : kCx x cc own ret cl0 Y0 n0 l0 R0) (hd : decode cc pc = .ok (.iadd, 1)) (pc' : Nat) (hpc : pc + 1 = pc') (k : KW x cells slots Q σ pc' L (ki (w32 (a + b)) :: S)) : KW x cells slots Q σ pc L (ki b :: ki a :: S) := by
  obtain ⟨⟨p, l, e, R, s, m, args, below, meth, c⟩, ⟨D, cl, cA, ad, ae, Y, A, nL⟩⟩ := x
  obtain ⟨rfl, rfl, rfl, rfl, rfl, hEn, hx, hb, hml, hr, hown, hts, hK, hlocks, hA⟩ := C
  subst hpc
  intro hg hL hS H locs ls hP hD hSv hl
  obtain ⟨hvb, hS⟩ := kS1 hS
  obtain ⟨hva, hS⟩ := kS1 hS
  have k' := k hg hL (kS1' (v := ki (w32 (a + b))) (w32_rng _) hS) H locs ls hP hD hSv hl
  rw [List.map_cons, show kc ad ae (ki (w32 (a + b))) = Value.int (Int32.ofInt a + Int32.ofInt b) from by rw [← Int32.ofInt_add]; exact congrArg Value.int (k32_w32 _)] at k'
  exact lv_iadd hx hb hd k'
theorem kw_isub {a b : Int} (C : kCx x cc own ret cl0 Y0 n0 l0 R0) (hd : decode cc pc = .ok (.isub, 1)) (pc' : Nat) (hpc : pc + 1 = pc') (k : KW x cells slots Q σ pc' L (ki (w32 (a - b)) :: S)) : KW x cells slots Q σ pc L (ki b :: ki a :: S) := by
  obtain ⟨⟨p, l, e, R, s, m, args, below, meth, c⟩, ⟨D, cl, cA, ad, ae, Y, A, nL⟩⟩ := x
  obtain ⟨rfl, rfl, rfl, rfl, rfl, hEn, hx, hb, hml, hr, hown, hts, hK, hlocks, hA⟩ := C
  subst hpc
  intro hg hL hS H locs ls hP hD hSv hl
  obtain ⟨hvb, hS⟩ := kS1 hS
  obtain ⟨hva, hS⟩ := kS1 hS
  have k' := k hg hL (kS1' (v := ki (w32 (a - b))) (w32_rng _) hS) H locs ls hP hD hSv hl
  rw [List.map_cons, show kc ad ae (ki (w32 (a - b))) = Value.int (Int32.ofInt a - Int32.ofInt b) from by rw [← Int32.ofInt_sub]; exact congrArg Value.int (k32_w32 _)] at k'
  exact lv_isub hx hb hd k'
theorem kw_imul {a b : Int} (C : kCx x cc own ret cl0 Y0 n0 l0 R0) (hd : decode cc pc = .ok (.imul, 1)) (pc' : Nat) (hpc : pc + 1 = pc') (k : KW x cells slots Q σ pc' L (ki (w32 (a * b)) :: S)) : KW x cells slots Q σ pc L (ki b :: ki a :: S) := by
  obtain ⟨⟨p, l, e, R, s, m, args, below, meth, c⟩, ⟨D, cl, cA, ad, ae, Y, A, nL⟩⟩ := x
  obtain ⟨rfl, rfl, rfl, rfl, rfl, hEn, hx, hb, hml, hr, hown, hts, hK, hlocks, hA⟩ := C
  subst hpc
  intro hg hL hS H locs ls hP hD hSv hl
  obtain ⟨hvb, hS⟩ := kS1 hS
  obtain ⟨hva, hS⟩ := kS1 hS
  have k' := k hg hL (kS1' (v := ki (w32 (a * b))) (w32_rng _) hS) H locs ls hP hD hSv hl
  rw [List.map_cons, show kc ad ae (ki (w32 (a * b))) = Value.int (Int32.ofInt a * Int32.ofInt b) from by rw [← Int32.ofInt_mul]; exact congrArg Value.int (k32_w32 _)] at k'
  exact lv_imul hx hb hd k'
def kand (a b : Int) : Int := (Int32.ofInt a &&& Int32.ofInt b).toInt
def kor (a b : Int) : Int := (Int32.ofInt a ||| Int32.ofInt b).toInt
def kxor (a b : Int) : Int := (Int32.ofInt a ^^^ Int32.ofInt b).toInt
def kshl (a b : Int) : Int := (Int32.ofInt a <<< (Int32.ofInt b &&& 31)).toInt
def kshr (a b : Int) : Int := (Int32.ofInt a >>> (Int32.ofInt b &&& 31)).toInt
def kushr (a b : Int) : Int := ((Int32.ofInt a).toUInt32 >>> ((Int32.ofInt b).toUInt32 &&& Int32.toUInt32 31)).toInt32.toInt
def kdiv (a b : Int) : Int := (Int32.ofInt a / Int32.ofInt b).toInt
def krem (a b : Int) : Int := (Int32.ofInt a - Int32.ofInt a / Int32.ofInt b * Int32.ofInt b).toInt
theorem kw_iand {a b : Int} (C : kCx x cc own ret cl0 Y0 n0 l0 R0) (hd : decode cc pc = .ok (.iand, 1)) (pc' : Nat) (hpc : pc + 1 = pc') (k : KW x cells slots Q σ pc' L (ki (kand a b) :: S)) : KW x cells slots Q σ pc L (ki b :: ki a :: S) := by
  obtain ⟨⟨p, l, e, R, s, m, args, below, meth, c⟩, ⟨D, cl, cA, ad, ae, Y, A, nL⟩⟩ := x
  obtain ⟨rfl, rfl, rfl, rfl, rfl, hEn, hx, hb, hml, hr, hown, hts, hK, hlocks, hA⟩ := C
  subst hpc
  intro hg hL hS H locs ls hP hD hSv hl
  obtain ⟨hvb, hS⟩ := kS1 hS
  obtain ⟨hva, hS⟩ := kS1 hS
  have k' := k hg hL (kS1' (v := ki (kand a b)) (k32_rng _) hS) H locs ls hP hD hSv hl
  rw [List.map_cons, show kc ad ae (ki (kand a b)) = Value.int (Int32.ofInt a &&& Int32.ofInt b) from congrArg Value.int (k32_of _)] at k'
  exact lv_iand hx hb hd k'
theorem kw_ior {a b : Int} (C : kCx x cc own ret cl0 Y0 n0 l0 R0) (hd : decode cc pc = .ok (.ior, 1)) (pc' : Nat) (hpc : pc + 1 = pc') (k : KW x cells slots Q σ pc' L (ki (kor a b) :: S)) : KW x cells slots Q σ pc L (ki b :: ki a :: S) := by
  obtain ⟨⟨p, l, e, R, s, m, args, below, meth, c⟩, ⟨D, cl, cA, ad, ae, Y, A, nL⟩⟩ := x
  obtain ⟨rfl, rfl, rfl, rfl, rfl, hEn, hx, hb, hml, hr, hown, hts, hK, hlocks, hA⟩ := C
  subst hpc
  intro hg hL hS H locs ls hP hD hSv hl
  obtain ⟨hvb, hS⟩ := kS1 hS
  obtain ⟨hva, hS⟩ := kS1 hS
  have k' := k hg hL (kS1' (v := ki (kor a b)) (k32_rng _) hS) H locs ls hP hD hSv hl
  rw [List.map_cons, show kc ad ae (ki (kor a b)) = Value.int (Int32.ofInt a ||| Int32.ofInt b) from congrArg Value.int (k32_of _)] at k'
  exact lv_ior hx hb hd k'
theorem kw_ixor {a b : Int} (C : kCx x cc own ret cl0 Y0 n0 l0 R0) (hd : decode cc pc = .ok (.ixor, 1)) (pc' : Nat) (hpc : pc + 1 = pc') (k : KW x cells slots Q σ pc' L (ki (kxor a b) :: S)) : KW x cells slots Q σ pc L (ki b :: ki a :: S) := by
  obtain ⟨⟨p, l, e, R, s, m, args, below, meth, c⟩, ⟨D, cl, cA, ad, ae, Y, A, nL⟩⟩ := x
  obtain ⟨rfl, rfl, rfl, rfl, rfl, hEn, hx, hb, hml, hr, hown, hts, hK, hlocks, hA⟩ := C
  subst hpc
  intro hg hL hS H locs ls hP hD hSv hl
  obtain ⟨hvb, hS⟩ := kS1 hS
  obtain ⟨hva, hS⟩ := kS1 hS
  have k' := k hg hL (kS1' (v := ki (kxor a b)) (k32_rng _) hS) H locs ls hP hD hSv hl
  rw [List.map_cons, show kc ad ae (ki (kxor a b)) = Value.int (Int32.ofInt a ^^^ Int32.ofInt b) from congrArg Value.int (k32_of _)] at k'
  exact lv_ixor hx hb hd k'
theorem kw_ishl {a b : Int} (C : kCx x cc own ret cl0 Y0 n0 l0 R0) (hd : decode cc pc = .ok (.ishl, 1)) (pc' : Nat) (hpc : pc + 1 = pc') (k : KW x cells slots Q σ pc' L (ki (kshl a b) :: S)) : KW x cells slots Q σ pc L (ki b :: ki a :: S) := by
  obtain ⟨⟨p, l, e, R, s, m, args, below, meth, c⟩, ⟨D, cl, cA, ad, ae, Y, A, nL⟩⟩ := x
  obtain ⟨rfl, rfl, rfl, rfl, rfl, hEn, hx, hb, hml, hr, hown, hts, hK, hlocks, hA⟩ := C
  subst hpc
  intro hg hL hS H locs ls hP hD hSv hl
  obtain ⟨hvb, hS⟩ := kS1 hS
  obtain ⟨hva, hS⟩ := kS1 hS
  have k' := k hg hL (kS1' (v := ki (kshl a b)) (k32_rng _) hS) H locs ls hP hD hSv hl
  rw [List.map_cons, show kc ad ae (ki (kshl a b)) = Value.int (Int32.ofInt a <<< (Int32.ofInt b &&& 31)) from congrArg Value.int (k32_of _)] at k'
  exact lv_ishl hx hb hd k'
theorem kw_ishr {a b : Int} (C : kCx x cc own ret cl0 Y0 n0 l0 R0) (hd : decode cc pc = .ok (.ishr, 1)) (pc' : Nat) (hpc : pc + 1 = pc') (k : KW x cells slots Q σ pc' L (ki (kshr a b) :: S)) : KW x cells slots Q σ pc L (ki b :: ki a :: S) := by
  obtain ⟨⟨p, l, e, R, s, m, args, below, meth, c⟩, ⟨D, cl, cA, ad, ae, Y, A, nL⟩⟩ := x
  obtain ⟨rfl, rfl, rfl, rfl, rfl, hEn, hx, hb, hml, hr, hown, hts, hK, hlocks, hA⟩ := C
  subst hpc
  intro hg hL hS H locs ls hP hD hSv hl
  obtain ⟨hvb, hS⟩ := kS1 hS
  obtain ⟨hva, hS⟩ := kS1 hS
  have k' := k hg hL (kS1' (v := ki (kshr a b)) (k32_rng _) hS) H locs ls hP hD hSv hl
  rw [List.map_cons, show kc ad ae (ki (kshr a b)) = Value.int (Int32.ofInt a >>> (Int32.ofInt b &&& 31)) from congrArg Value.int (k32_of _)] at k'
  exact lv_ishr hx hb hd k'
theorem kw_iushr {a b : Int} (C : kCx x cc own ret cl0 Y0 n0 l0 R0) (hd : decode cc pc = .ok (.iushr, 1)) (pc' : Nat) (hpc : pc + 1 = pc') (k : KW x cells slots Q σ pc' L (ki (kushr a b) :: S)) : KW x cells slots Q σ pc L (ki b :: ki a :: S) := by
  obtain ⟨⟨p, l, e, R, s, m, args, below, meth, c⟩, ⟨D, cl, cA, ad, ae, Y, A, nL⟩⟩ := x
  obtain ⟨rfl, rfl, rfl, rfl, rfl, hEn, hx, hb, hml, hr, hown, hts, hK, hlocks, hA⟩ := C
  subst hpc
  intro hg hL hS H locs ls hP hD hSv hl
  obtain ⟨hvb, hS⟩ := kS1 hS
  obtain ⟨hva, hS⟩ := kS1 hS
  have k' := k hg hL (kS1' (v := ki (kushr a b)) (k32_rng _) hS) H locs ls hP hD hSv hl
  rw [List.map_cons, show kc ad ae (ki (kushr a b)) = Value.int (((Int32.ofInt a).toUInt32 >>> ((Int32.ofInt b).toUInt32 &&& Int32.toUInt32 31)).toInt32) from congrArg Value.int (k32_of _)] at k'
  exact lv_iushr hx hb hd rfl k'
theorem kw_idiv {a b : Int} (C : kCx x cc own ret cl0 Y0 n0 l0 R0) (hd : decode cc pc = .ok (.idiv, 1)) (pc' : Nat) (hpc : pc + 1 = pc') (hne : ¬ b = 0) (k : KW x cells slots Q σ pc' L (ki (kdiv a b) :: S)) : KW x cells slots Q σ pc L (ki b :: ki a :: S) := by
  obtain ⟨⟨p, l, e, R, s, m, args, below, meth, c⟩, ⟨D, cl, cA, ad, ae, Y, A, nL⟩⟩ := x
  obtain ⟨rfl, rfl, rfl, rfl, rfl, hEn, hx, hb, hml, hr, hown, hts, hK, hlocks, hA⟩ := C
  subst hpc
  intro hg hL hS H locs ls hP hD hSv hl
  obtain ⟨hvb, hS⟩ := kS1 hS
  obtain ⟨hva, hS⟩ := kS1 hS
  have k' := k hg hL (kS1' (v := ki (kdiv a b)) (k32_rng _) hS) H locs ls hP hD hSv hl
  rw [List.map_cons, show kc ad ae (ki (kdiv a b)) = Value.int (Int32.ofInt a / Int32.ofInt b) from congrArg Value.int (k32_of _)] at k'
  exact lv_idiv hx hb hd (fun h => hne ((k32_eq hvb k32_0).mp h)) k'
theorem kw_irem {a b : Int} (C : kCx x cc own ret cl0 Y0 n0 l0 R0) (hd : decode cc pc = .ok (.irem, 1)) (pc' : Nat) (hpc : pc + 1 = pc') (hne : ¬ b = 0) (k : KW x cells slots Q σ pc' L (ki (krem a b) :: S)) : KW x cells slots Q σ pc L (ki b :: ki a :: S) := by
  obtain ⟨⟨p, l, e, R, s, m, args, below, meth, c⟩, ⟨D, cl, cA, ad, ae, Y, A, nL⟩⟩ := x
  obtain ⟨rfl, rfl, rfl, rfl, rfl, hEn, hx, hb, hml, hr, hown, hts, hK, hlocks, hA⟩ := C
  subst hpc
  intro hg hL hS H locs ls hP hD hSv hl
  obtain ⟨hvb, hS⟩ := kS1 hS
  obtain ⟨hva, hS⟩ := kS1 hS
  have k' := k hg hL (kS1' (v := ki (krem a b)) (k32_rng _) hS) H locs ls hP hD hSv hl
  rw [List.map_cons, show kc ad ae (ki (krem a b)) = Value.int (Int32.ofInt a - Int32.ofInt a / Int32.ofInt b * Int32.ofInt b) from congrArg Value.int (k32_of _)] at k'
  exact lv_irem hx hb hd (fun h => hne ((k32_eq hvb k32_0).mp h)) k'
def kb8 (a : Int) : Int := (Int32.ofInt a).toInt8.toInt32.toInt
def kc16 (a : Int) : Int := ((Int32.ofInt a).toUInt32 % 65536).toInt32.toInt
def kb8s (a : Int) : Int := (vp_nar .byte (Int32.ofInt a)).toInt
def kz1s (a : Int) : Int := (vp_nar .boolean (Int32.ofInt a)).toInt
theorem kw_i2b {a : Int} (C : kCx x cc own ret cl0 Y0 n0 l0 R0) (hd : decode cc pc = .ok (.i2b, 1)) (pc' : Nat) (hpc : pc + 1 = pc') (k : KW x cells slots Q σ pc' L (ki (kb8 a) :: S)) : KW x cells slots Q σ pc L (ki a :: S) := by
  obtain ⟨⟨p, l, e, R, s, m, args, below, meth, c⟩, ⟨D, cl, cA, ad, ae, Y, A, nL⟩⟩ := x
  obtain ⟨rfl, rfl, rfl, rfl, rfl, hEn, hx, hb, hml, hr, hown, hts, hK, hlocks, hA⟩ := C
  subst hpc
  intro hg hL hS H locs ls hP hD hSv hl
  obtain ⟨hva, hS⟩ := kS1 hS
  exact lv_i2b hx hb hd (k32_of _).symm (k hg hL (kS1' (v := ki (kb8 a)) (k32_rng _) hS) H locs ls hP hD hSv hl)
theorem kw_i2c {a : Int} (C : kCx x cc own ret cl0 Y0 n0 l0 R0) (hd : decode cc pc = .ok (.i2c, 1)) (pc' : Nat) (hpc : pc + 1 = pc') (k : KW x cells slots Q σ pc' L (ki (kc16 a) :: S)) : KW x cells slots Q σ pc L (ki a :: S) := by
  obtain ⟨⟨p, l, e, R, s, m, args, below, meth, c⟩, ⟨D, cl, cA, ad, ae, Y, A, nL⟩⟩ := x
  obtain ⟨rfl, rfl, rfl, rfl, rfl, hEn, hx, hb, hml, hr, hown, hts, hK, hlocks, hA⟩ := C
  subst hpc
  intro hg hL hS H locs ls hP hD hSv hl
  obtain ⟨hva, hS⟩ := kS1 hS
  exact lv_i2c hx hb hd (k32_of _).symm (k hg hL (kS1' (v := ki (kc16 a)) (k32_rng _) hS) H locs ls hP hD hSv hl)
theorem kw_i2l {a : Int} (C : kCx x cc own ret cl0 Y0 n0 l0 R0) (hd : decode cc pc = .ok (.i2l, 1)) (pc' : Nat) (hpc : pc + 1 = pc') (k : KW x cells slots Q σ pc' L (kl a :: S)) : KW x cells slots Q σ pc L (ki a :: S) := by
  obtain ⟨⟨p, l, e, R, s, m, args, below, meth, c⟩, ⟨D, cl, cA, ad, ae, Y, A, nL⟩⟩ := x
  obtain ⟨rfl, rfl, rfl, rfl, rfl, hEn, hx, hb, hml, hr, hown, hts, hK, hlocks, hA⟩ := C
  subst hpc
  intro hg hL hS H locs ls hP hD hSv hl
  obtain ⟨hva, hS⟩ := kS1 hS
  have h1 : kR32 a := hva
  have h2 : kR64 a := by
    obtain ⟨q1, q2⟩ := h1
    exact ⟨by omega, by omega⟩
  refine lv_i2l hx hb hd ?_ (k hg hL (kS1' (v := kl a) h2 hS) H locs ls hP hD hSv hl)
  rw [← Int64.toInt_inj, k64_toInt h2, Int32.toInt_toInt64, k32_toInt, w32_id h1]
def klshl (a b : Int) : Int := (Int64.ofInt a <<< ((Int32.ofInt b).toInt64 &&& 63)).toInt
def klor (a b : Int) : Int := (Int64.ofInt a ||| Int64.ofInt b).toInt
def klsub (a b : Int) : Int := (Int64.ofInt a - Int64.ofInt b).toInt
def kcmp (a b : Int) : Int := (lg_cmp (Int64.ofInt a) (Int64.ofInt b)).toInt
theorem kw_lshl {a b : Int} (C : kCx x cc own ret cl0 Y0 n0 l0 R0) (hd : decode cc pc = .ok (.lshl, 1)) (pc' : Nat) (hpc : pc + 1 = pc') (k : KW x cells slots Q σ pc' L (kl (klshl a b) :: S)) : KW x cells slots Q σ pc L (ki b :: kl a :: S) := by
  obtain ⟨⟨p, l, e, R, s, m, args, below, meth, c⟩, ⟨D, cl, cA, ad, ae, Y, A, nL⟩⟩ := x
  obtain ⟨rfl, rfl, rfl, rfl, rfl, hEn, hx, hb, hml, hr, hown, hts, hK, hlocks, hA⟩ := C
  subst hpc
  intro hg hL hS H locs ls hP hD hSv hl
  obtain ⟨hvb, hS⟩ := kS1 hS
  obtain ⟨hva, hS⟩ := kS1 hS
  exact lv_lshl hx hb hd (k64_of _).symm (k hg hL (kS1' (v := kl (klshl a b)) (k64_rng _) hS) H locs ls hP hD hSv hl)
theorem kw_lor {a b : Int} (C : kCx x cc own ret cl0 Y0 n0 l0 R0) (hd : decode cc pc = .ok (.lor, 1)) (pc' : Nat) (hpc : pc + 1 = pc') (k : KW x cells slots Q σ pc' L (kl (klor a b) :: S)) : KW x cells slots Q σ pc L (kl b :: kl a :: S) := by
  obtain ⟨⟨p, l, e, R, s, m, args, below, meth, c⟩, ⟨D, cl, cA, ad, ae, Y, A, nL⟩⟩ := x
  obtain ⟨rfl, rfl, rfl, rfl, rfl, hEn, hx, hb, hml, hr, hown, hts, hK, hlocks, hA⟩ := C
  subst hpc
  intro hg hL hS H locs ls hP hD hSv hl
  obtain ⟨hvb, hS⟩ := kS1 hS
  obtain ⟨hva, hS⟩ := kS1 hS
  have k' := k hg hL (kS1' (v := kl (klor a b)) (k64_rng _) hS) H locs ls hP hD hSv hl
  rw [List.map_cons, show kc ad ae (kl (klor a b)) = Value.long (Int64.ofInt a ||| Int64.ofInt b) from congrArg Value.long (k64_of _)] at k'
  exact lv_lor hx hb hd k'
theorem kw_lsub {a b : Int} (C : kCx x cc own ret cl0 Y0 n0 l0 R0) (hd : decode cc pc = .ok (.lsub, 1)) (pc' : Nat) (hpc : pc + 1 = pc') (k : KW x cells slots Q σ pc' L (kl (klsub a b) :: S)) : KW x cells slots Q σ pc L (kl b :: kl a :: S) := by
  obtain ⟨⟨p, l, e, R, s, m, args, below, meth, c⟩, ⟨D, cl, cA, ad, ae, Y, A, nL⟩⟩ := x
  obtain ⟨rfl, rfl, rfl, rfl, rfl, hEn, hx, hb, hml, hr, hown, hts, hK, hlocks, hA⟩ := C
  subst hpc
  intro hg hL hS H locs ls hP hD hSv hl
  obtain ⟨hvb, hS⟩ := kS1 hS
  obtain ⟨hva, hS⟩ := kS1 hS
  have k' := k hg hL (kS1' (v := kl (klsub a b)) (k64_rng _) hS) H locs ls hP hD hSv hl
  rw [List.map_cons, show kc ad ae (kl (klsub a b)) = Value.long (Int64.ofInt a - Int64.ofInt b) from congrArg Value.long (k64_of _)] at k'
  exact lv_lsub hx hb hd k'
theorem kw_lcmp {a b : Int} (C : kCx x cc own ret cl0 Y0 n0 l0 R0) (hd : decode cc pc = .ok (.lcmp, 1)) (pc' : Nat) (hpc : pc + 1 = pc') (k : KW x cells slots Q σ pc' L (ki (kcmp a b) :: S)) : KW x cells slots Q σ pc L (kl b :: kl a :: S) := by
  obtain ⟨⟨p, l, e, R, s, m, args, below, meth, c⟩, ⟨D, cl, cA, ad, ae, Y, A, nL⟩⟩ := x
  obtain ⟨rfl, rfl, rfl, rfl, rfl, hEn, hx, hb, hml, hr, hown, hts, hK, hlocks, hA⟩ := C
  subst hpc
  intro hg hL hS H locs ls hP hD hSv hl
  obtain ⟨hvb, hS⟩ := kS1 hS
  obtain ⟨hva, hS⟩ := kS1 hS
  have k' := k hg hL (kS1' (v := ki (kcmp a b)) (k32_rng _) hS) H locs ls hP hD hSv hl
  rw [List.map_cons, show kc ad ae (ki (kcmp a b)) = Value.int (lg_cmp (Int64.ofInt a) (Int64.ofInt b)) from congrArg Value.int (k32_of _)] at k'
  exact W.lcmp hx hb hd k'
def klushr (a b : Int) : Int := ((Int64.ofInt a).toUInt64 >>> ((Int32.ofInt b).toInt64.toUInt64 &&& Int64.toUInt64 63)).toInt64.toInt
def kland (a b : Int) : Int := (Int64.ofInt a &&& Int64.ofInt b).toInt
def kladd (a b : Int) : Int := (Int64.ofInt a + Int64.ofInt b).toInt
def kl2i (a : Int) : Int := (Int64.ofInt a).toInt32.toInt
theorem kw_lushr {a b : Int} (C : kCx x cc own ret cl0 Y0 n0 l0 R0) (hd : decode cc pc = .ok (.lushr, 1)) (pc' : Nat) (hpc : pc + 1 = pc') (k : KW x cells slots Q σ pc' L (kl (klushr a b) :: S)) : KW x cells slots Q σ pc L (ki b :: kl a :: S) := by
  obtain ⟨⟨p, l, e, R, s, m, args, below, meth, c⟩, ⟨D, cl, cA, ad, ae, Y, A, nL⟩⟩ := x
  obtain ⟨rfl, rfl, rfl, rfl, rfl, hEn, hx, hb, hml, hr, hown, hts, hK, hlocks, hA⟩ := C
  subst hpc
  intro hg hL hS H locs ls hP hD hSv hl
  obtain ⟨hvb, hS⟩ := kS1 hS
  obtain ⟨hva, hS⟩ := kS1 hS
  exact lv_lushr hx hb hd (k64_of _).symm (k hg hL (kS1' (v := kl (klushr a b)) (k64_rng _) hS) H locs ls hP hD hSv hl)
theorem kw_land {a b : Int} (C : kCx x cc own ret cl0 Y0 n0 l0 R0) (hd : decode cc pc = .ok (.land, 1)) (pc' : Nat) (hpc : pc + 1 = pc') (k : KW x cells slots Q σ pc' L (kl (kland a b) :: S)) : KW x cells slots Q σ pc L (kl b :: kl a :: S) := by
  obtain ⟨⟨p, l, e, R, s, m, args, below, meth, c⟩, ⟨D, cl, cA, ad, ae, Y, A, nL⟩⟩ := x
  obtain ⟨rfl, rfl, rfl, rfl, rfl, hEn, hx, hb, hml, hr, hown, hts, hK, hlocks, hA⟩ := C
  subst hpc
  intro hg hL hS H locs ls hP hD hSv hl
  obtain ⟨hvb, hS⟩ := kS1 hS
  obtain ⟨hva, hS⟩ := kS1 hS
  have k' := k hg hL (kS1' (v := kl (kland a b)) (k64_rng _) hS) H locs ls hP hD hSv hl
  rw [List.map_cons, show kc ad ae (kl (kland a b)) = Value.long (Int64.ofInt a &&& Int64.ofInt b) from congrArg Value.long (k64_of _)] at k'
  exact lv_land hx hb hd k'
theorem kw_ladd {a b : Int} (C : kCx x cc own ret cl0 Y0 n0 l0 R0) (hd : decode cc pc = .ok (.ladd, 1)) (pc' : Nat) (hpc : pc + 1 = pc') (k : KW x cells slots Q σ pc' L (kl (kladd a b) :: S)) : KW x cells slots Q σ pc L (kl b :: kl a :: S) := by
  obtain ⟨⟨p, l, e, R, s, m, args, below, meth, c⟩, ⟨D, cl, cA, ad, ae, Y, A, nL⟩⟩ := x
  obtain ⟨rfl, rfl, rfl, rfl, rfl, hEn, hx, hb, hml, hr, hown, hts, hK, hlocks, hA⟩ := C
  subst hpc
  intro hg hL hS H locs ls hP hD hSv hl
  obtain ⟨hvb, hS⟩ := kS1 hS
  obtain ⟨hva, hS⟩ := kS1 hS
  have k' := k hg hL (kS1' (v := kl (kladd a b)) (k64_rng _) hS) H locs ls hP hD hSv hl
  rw [List.map_cons, show kc ad ae (kl (kladd a b)) = Value.long (Int64.ofInt a + Int64.ofInt b) from congrArg Value.long (k64_of _)] at k'
  exact lv_ladd hx hb hd k'
theorem kw_l2i {a : Int} (C : kCx x cc own ret cl0 Y0 n0 l0 R0) (hd : decode cc pc = .ok (.l2i, 1)) (pc' : Nat) (hpc : pc + 1 = pc') (k : KW x cells slots Q σ pc' L (ki (kl2i a) :: S)) : KW x cells slots Q σ pc L (kl a :: S) := by
  obtain ⟨⟨p, l, e, R, s, m, args, below, meth, c⟩, ⟨D, cl, cA, ad, ae, Y, A, nL⟩⟩ := x
  obtain ⟨rfl, rfl, rfl, rfl, rfl, hEn, hx, hb, hml, hr, hown, hts, hK, hlocks, hA⟩ := C
  subst hpc
  intro hg hL hS H locs ls hP hD hSv hl
  obtain ⟨hva, hS⟩ := kS1 hS
  exact lv_l2i hx hb hd (k32_of _).symm (k hg hL (kS1' (v := ki (kl2i a)) (k32_rng _) hS) H locs ls hP hD hSv hl)
theorem kw_lstore_n {k4 : Fin 4} {i : Nat} {v : Int} {L' : List (Option kV)} (C : kCx x cc own ret cl0 Y0 n0 l0 R0) (hd : decode cc pc = .ok (.lstore_n k4, 1)) (hi : (k4 : Nat) = i) (pc' : Nat) (hpc : pc + 1 = pc') (hn : i + 1 < n0) (hno : kno L i = true) (hL' : (L.set i (some (kl v))).set (i + 1) none = L') (k : KW x cells slots Q σ pc' L' S) : KW x cells slots Q σ pc L (kl v :: S) := by
  obtain ⟨⟨p, l, e, R, s, m, args, below, meth, c⟩, ⟨D, cl, cA, ad, ae, Y, A, nL⟩⟩ := x
  obtain ⟨rfl, rfl, rfl, rfl, rfl, hEn, hx, hb, hml, hr, hown, hts, hK, hlocks, hA⟩ := C
  subst hpc
  subst hL'
  intro hg hL hS H locs ls hP hD hSv hl
  obtain ⟨hv, hS⟩ := kS1 hS
  exact lv_lstore_n hx hb hd hi hl hn rfl (fun ls' h' => k hg (kLsetN (kLset hL hv)) hS H locs ls' hP hD hSv (kloc.set2 (v := kl v) hno h'))
theorem kw_dup {v : kV} (C : kCx x cc own ret cl0 Y0 n0 l0 R0) (hd : decode cc pc = .ok (.dup, 1)) (pc' : Nat) (hpc : pc + 1 = pc') (hc : kcat1 v = true) (k : KW x cells slots Q σ pc' L (v :: v :: S)) : KW x cells slots Q σ pc L (v :: S) := by
  obtain ⟨⟨p, l, e, R, s, m, args, below, meth, c⟩, ⟨D, cl, cA, ad, ae, Y, A, nL⟩⟩ := x
  obtain ⟨rfl, rfl, rfl, rfl, rfl, hEn, hx, hb, hml, hr, hown, hts, hK, hlocks, hA⟩ := C
  subst hpc
  intro hg hL hS H locs ls hP hD hSv hl
  exact lv_dup hx hb hd (kcat ad ae v hc) (k hg hL (kS1' (kS1 hS).1 hS) H locs ls hP hD hSv hl)
theorem kw_pop {v : kV} (C : kCx x cc own ret cl0 Y0 n0 l0 R0) (hd : decode cc pc = .ok (.pop, 1)) (pc' : Nat) (hpc : pc + 1 = pc') (hc : kcat1 v = true) (k : KW x cells slots Q σ pc' L S) : KW x cells slots Q σ pc L (v :: S) := by
  obtain ⟨⟨p, l, e, R, s, m, args, below, meth, c⟩, ⟨D, cl, cA, ad, ae, Y, A, nL⟩⟩ := x
  obtain ⟨rfl, rfl, rfl, rfl, rfl, hEn, hx, hb, hml, hr, hown, hts, hK, hlocks, hA⟩ := C
  subst hpc
  intro hg hL hS H locs ls hP hD hSv hl
  exact lv_pop hx hb hd (kcat ad ae v hc) (k hg hL (kS1 hS).2 H locs ls hP hD hSv hl)
theorem kw_dup2 {v u : kV} (C : kCx x cc own ret cl0 Y0 n0 l0 R0) (hd : decode cc pc = .ok (.dup2, 1)) (pc' : Nat) (hpc : pc + 1 = pc') (hc : kcat1 v = true) (hc2 : kcat1 u = true) (k : KW x cells slots Q σ pc' L (v :: u :: v :: u :: S)) : KW x cells slots Q σ pc L (v :: u :: S) := by
  obtain ⟨⟨p, l, e, R, s, m, args, below, meth, c⟩, ⟨D, cl, cA, ad, ae, Y, A, nL⟩⟩ := x
  obtain ⟨rfl, rfl, rfl, rfl, rfl, hEn, hx, hb, hml, hr, hown, hts, hK, hlocks, hA⟩ := C
  subst hpc
  intro hg hL hS H locs ls hP hD hSv hl
  exact lv_dup2_11 hx hb hd (kcat ad ae v hc) (kcat ad ae u hc2) (k hg hL (kS1' (kS1 hS).1 (kS1' (kS1 (kS1 hS).2).1 hS)) H locs ls hP hD hSv hl)
theorem kw_goto {off : Int} (C : kCx x cc own ret cl0 Y0 n0 l0 R0) (hd : decode cc pc = .ok (.goto off, 3)) (pc' : Nat) (hpc : (pc : Int) + off = (pc' : Int)) (k : KW x cells slots Q σ pc' L S) : KW x cells slots Q σ pc L S := by
  obtain ⟨⟨p, l, e, R, s, m, args, below, meth, c⟩, ⟨D, cl, cA, ad, ae, Y, A, nL⟩⟩ := x
  obtain ⟨rfl, rfl, rfl, rfl, rfl, hEn, hx, hb, hml, hr, hown, hts, hK, hlocks, hA⟩ := C
  intro hg hL hS H locs ls hP hD hSv hl
  exact lv_goto hx hb hd hpc (k hg hL hS H locs ls hP hD hSv hl)
theorem kw_icmp_eq {a b : Int} {off : Int} (C : kCx x cc own ret cl0 Y0 n0 l0 R0) (hd : decode cc pc = .ok (.if_icmp .eq off, 3)) (pt pc' : Nat) (ht : (pc : Int) + off = (pt : Int)) (hpc : pc + 3 = pc') (kt : a = b → KW x cells slots Q σ pt L S) (kf : ¬ a = b → KW x cells slots Q σ pc' L S) : KW x cells slots Q σ pc L (ki b :: ki a :: S) := by
  obtain ⟨⟨p, l, e, R, s, m, args, below, meth, c⟩, ⟨D, cl, cA, ad, ae, Y, A, nL⟩⟩ := x
  obtain ⟨rfl, rfl, rfl, rfl, rfl, hEn, hx, hb, hml, hr, hown, hts, hK, hlocks, hA⟩ := C
  subst hpc
  intro hg hL hS H locs ls hP hD hSv hl
  obtain ⟨hvb, hS⟩ := kS1 hS
  obtain ⟨hva, hS⟩ := kS1 hS
  exact lv_icmp_eq hx hb hd ht (fun h => kt ((k32_eq hva hvb).mp h) hg hL hS H locs ls hP hD hSv hl) (fun h => kf (fun h2 => h ((k32_eq hva hvb).mpr h2)) hg hL hS H locs ls hP hD hSv hl)
theorem kw_icmp_ne {a b : Int} {off : Int} (C : kCx x cc own ret cl0 Y0 n0 l0 R0) (hd : decode cc pc = .ok (.if_icmp .ne off, 3)) (pt pc' : Nat) (ht : (pc : Int) + off = (pt : Int)) (hpc : pc + 3 = pc') (kt : ¬ a = b → KW x cells slots Q σ pt L S) (kf : a = b → KW x cells slots Q σ pc' L S) : KW x cells slots Q σ pc L (ki b :: ki a :: S) := by
  obtain ⟨⟨p, l, e, R, s, m, args, below, meth, c⟩, ⟨D, cl, cA, ad, ae, Y, A, nL⟩⟩ := x
  obtain ⟨rfl, rfl, rfl, rfl, rfl, hEn, hx, hb, hml, hr, hown, hts, hK, hlocks, hA⟩ := C
  subst hpc
  intro hg hL hS H locs ls hP hD hSv hl
  obtain ⟨hvb, hS⟩ := kS1 hS
  obtain ⟨hva, hS⟩ := kS1 hS
  exact lv_icmp_ne hx hb hd ht (fun h => kt (fun h2 => h (congrArg _ h2)) hg hL hS H locs ls hP hD hSv hl) (fun h => kf ((k32_eq hva hvb).mp (h)) hg hL hS H locs ls hP hD hSv hl)
theorem kw_icmp_lt {a b : Int} {off : Int} (C : kCx x cc own ret cl0 Y0 n0 l0 R0) (hd : decode cc pc = .ok (.if_icmp .lt off, 3)) (pt pc' : Nat) (ht : (pc : Int) + off = (pt : Int)) (hpc : pc + 3 = pc') (kt : a < b → KW x cells slots Q σ pt L S) (kf : ¬ a < b → KW x cells slots Q σ pc' L S) : KW x cells slots Q σ pc L (ki b :: ki a :: S) := by
  obtain ⟨⟨p, l, e, R, s, m, args, below, meth, c⟩, ⟨D, cl, cA, ad, ae, Y, A, nL⟩⟩ := x
  obtain ⟨rfl, rfl, rfl, rfl, rfl, hEn, hx, hb, hml, hr, hown, hts, hK, hlocks, hA⟩ := C
  subst hpc
  intro hg hL hS H locs ls hP hD hSv hl
  obtain ⟨hvb, hS⟩ := kS1 hS
  obtain ⟨hva, hS⟩ := kS1 hS
  exact lv_icmp_lt hx hb hd ht (fun h => kt ((k32_lt hva hvb).mp h) hg hL hS H locs ls hP hD hSv hl) (fun h => kf (fun h2 => h ((k32_lt hva hvb).mpr h2)) hg hL hS H locs ls hP hD hSv hl)
theorem kw_icmp_ge {a b : Int} {off : Int} (C : kCx x cc own ret cl0 Y0 n0 l0 R0) (hd : decode cc pc = .ok (.if_icmp .ge off, 3)) (pt pc' : Nat) (ht : (pc : Int) + off = (pt : Int)) (hpc : pc + 3 = pc') (kt : b ≤ a → KW x cells slots Q σ pt L S) (kf : ¬ b ≤ a → KW x cells slots Q σ pc' L S) : KW x cells slots Q σ pc L (ki b :: ki a :: S) := by
  obtain ⟨⟨p, l, e, R, s, m, args, below, meth, c⟩, ⟨D, cl, cA, ad, ae, Y, A, nL⟩⟩ := x
  obtain ⟨rfl, rfl, rfl, rfl, rfl, hEn, hx, hb, hml, hr, hown, hts, hK, hlocks, hA⟩ := C
  subst hpc
  intro hg hL hS H locs ls hP hD hSv hl
  obtain ⟨hvb, hS⟩ := kS1 hS
  obtain ⟨hva, hS⟩ := kS1 hS
  exact lv_icmp_ge hx hb hd ht (fun h => kt ((k32_le hvb hva).mp h) hg hL hS H locs ls hP hD hSv hl) (fun h => kf (fun h2 => h ((k32_le hvb hva).mpr h2)) hg hL hS H locs ls hP hD hSv hl)
theorem kw_icmp_gt {a b : Int} {off : Int} (C : kCx x cc own ret cl0 Y0 n0 l0 R0) (hd : decode cc pc = .ok (.if_icmp .gt off, 3)) (pt pc' : Nat) (ht : (pc : Int) + off = (pt : Int)) (hpc : pc + 3 = pc') (kt : b < a → KW x cells slots Q σ pt L S) (kf : ¬ b < a → KW x cells slots Q σ pc' L S) : KW x cells slots Q σ pc L (ki b :: ki a :: S) := by
  obtain ⟨⟨p, l, e, R, s, m, args, below, meth, c⟩, ⟨D, cl, cA, ad, ae, Y, A, nL⟩⟩ := x
  obtain ⟨rfl, rfl, rfl, rfl, rfl, hEn, hx, hb, hml, hr, hown, hts, hK, hlocks, hA⟩ := C
  subst hpc
  intro hg hL hS H locs ls hP hD hSv hl
  obtain ⟨hvb, hS⟩ := kS1 hS
  obtain ⟨hva, hS⟩ := kS1 hS
  exact lv_icmp_gt hx hb hd ht (fun h => kt ((k32_lt hvb hva).mp h) hg hL hS H locs ls hP hD hSv hl) (fun h => kf (fun h2 => h ((k32_lt hvb hva).mpr h2)) hg hL hS H locs ls hP hD hSv hl)
theorem kw_icmp_le {a b : Int} {off : Int} (C : kCx x cc own ret cl0 Y0 n0 l0 R0) (hd : decode cc pc = .ok (.if_icmp .le off, 3)) (pt pc' : Nat) (ht : (pc : Int) + off = (pt : Int)) (hpc : pc + 3 = pc') (kt : a ≤ b → KW x cells slots Q σ pt L S) (kf : ¬ a ≤ b → KW x cells slots Q σ pc' L S) : KW x cells slots Q σ pc L (ki b :: ki a :: S) := by
  obtain ⟨⟨p, l, e, R, s, m, args, below, meth, c⟩, ⟨D, cl, cA, ad, ae, Y, A, nL⟩⟩ := x
  obtain ⟨rfl, rfl, rfl, rfl, rfl, hEn, hx, hb, hml, hr, hown, hts, hK, hlocks, hA⟩ := C
  subst hpc
  intro hg hL hS H locs ls hP hD hSv hl
  obtain ⟨hvb, hS⟩ := kS1 hS
  obtain ⟨hva, hS⟩ := kS1 hS
  exact lv_icmp_le hx hb hd ht (fun h => kt ((k32_le hva hvb).mp h) hg hL hS H locs ls hP hD hSv hl) (fun h => kf (fun h2 => h ((k32_le hva hvb).mpr h2)) hg hL hS H locs ls hP hD hSv hl)
theorem kw_if_eq {a : Int} {off : Int} (C : kCx x cc own ret cl0 Y0 n0 l0 R0) (hd : decode cc pc = .ok (.ifCond .eq off, 3)) (pt pc' : Nat) (ht : (pc : Int) + off = (pt : Int)) (hpc : pc + 3 = pc') (kt : a = 0 → KW x cells slots Q σ pt L S) (kf : ¬ a = 0 → KW x cells slots Q σ pc' L S) : KW x cells slots Q σ pc L (ki a :: S) := by
  obtain ⟨⟨p, l, e, R, s, m, args, below, meth, c⟩, ⟨D, cl, cA, ad, ae, Y, A, nL⟩⟩ := x
  obtain ⟨rfl, rfl, rfl, rfl, rfl, hEn, hx, hb, hml, hr, hown, hts, hK, hlocks, hA⟩ := C
  subst hpc
  intro hg hL hS H locs ls hP hD hSv hl
  obtain ⟨hva, hS⟩ := kS1 hS
  exact lv_if_eq hx hb hd ht (fun h => kt ((k32_eq hva k32_0).mp h) hg hL hS H locs ls hP hD hSv hl) (fun h => kf (fun h2 => h ((k32_eq hva k32_0).mpr h2)) hg hL hS H locs ls hP hD hSv hl)
theorem kw_if_ne {a : Int} {off : Int} (C : kCx x cc own ret cl0 Y0 n0 l0 R0) (hd : decode cc pc = .ok (.ifCond .ne off, 3)) (pt pc' : Nat) (ht : (pc : Int) + off = (pt : Int)) (hpc : pc + 3 = pc') (kt : ¬ a = 0 → KW x cells slots Q σ pt L S) (kf : a = 0 → KW x cells slots Q σ pc' L S) : KW x cells slots Q σ pc L (ki a :: S) := by
  obtain ⟨⟨p, l, e, R, s, m, args, below, meth, c⟩, ⟨D, cl, cA, ad, ae, Y, A, nL⟩⟩ := x
  obtain ⟨rfl, rfl, rfl, rfl, rfl, hEn, hx, hb, hml, hr, hown, hts, hK, hlocks, hA⟩ := C
  subst hpc
  intro hg hL hS H locs ls hP hD hSv hl
  obtain ⟨hva, hS⟩ := kS1 hS
  exact lv_if_ne hx hb hd ht (fun h => kt (fun h2 => h (congrArg Int32.ofInt h2)) hg hL hS H locs ls hP hD hSv hl) (fun h => kf ((k32_eq hva k32_0).mp (h)) hg hL hS H locs ls hP hD hSv hl)
theorem kw_if_lt {a : Int} {off : Int} (C : kCx x cc own ret cl0 Y0 n0 l0 R0) (hd : decode cc pc = .ok (.ifCond .lt off, 3)) (pt pc' : Nat) (ht : (pc : Int) + off = (pt : Int)) (hpc : pc + 3 = pc') (kt : a < 0 → KW x cells slots Q σ pt L S) (kf : ¬ a < 0 → KW x cells slots Q σ pc' L S) : KW x cells slots Q σ pc L (ki a :: S) := by
  obtain ⟨⟨p, l, e, R, s, m, args, below, meth, c⟩, ⟨D, cl, cA, ad, ae, Y, A, nL⟩⟩ := x
  obtain ⟨rfl, rfl, rfl, rfl, rfl, hEn, hx, hb, hml, hr, hown, hts, hK, hlocks, hA⟩ := C
  subst hpc
  intro hg hL hS H locs ls hP hD hSv hl
  obtain ⟨hva, hS⟩ := kS1 hS
  exact lv_if_lt hx hb hd ht (fun h => kt ((k32_lt hva k32_0).mp h) hg hL hS H locs ls hP hD hSv hl) (fun h => kf (fun h2 => h ((k32_lt hva k32_0).mpr h2)) hg hL hS H locs ls hP hD hSv hl)
theorem kw_if_ge {a : Int} {off : Int} (C : kCx x cc own ret cl0 Y0 n0 l0 R0) (hd : decode cc pc = .ok (.ifCond .ge off, 3)) (pt pc' : Nat) (ht : (pc : Int) + off = (pt : Int)) (hpc : pc + 3 = pc') (kt : 0 ≤ a → KW x cells slots Q σ pt L S) (kf : ¬ 0 ≤ a → KW x cells slots Q σ pc' L S) : KW x cells slots Q σ pc L (ki a :: S) := by
  obtain ⟨⟨p, l, e, R, s, m, args, below, meth, c⟩, ⟨D, cl, cA, ad, ae, Y, A, nL⟩⟩ := x
  obtain ⟨rfl, rfl, rfl, rfl, rfl, hEn, hx, hb, hml, hr, hown, hts, hK, hlocks, hA⟩ := C
  subst hpc
  intro hg hL hS H locs ls hP hD hSv hl
  obtain ⟨hva, hS⟩ := kS1 hS
  exact lv_if_ge hx hb hd ht (fun h => kt ((k32_le k32_0 hva).mp h) hg hL hS H locs ls hP hD hSv hl) (fun h => kf (fun h2 => h ((k32_le k32_0 hva).mpr h2)) hg hL hS H locs ls hP hD hSv hl)
theorem kw_if_gt {a : Int} {off : Int} (C : kCx x cc own ret cl0 Y0 n0 l0 R0) (hd : decode cc pc = .ok (.ifCond .gt off, 3)) (pt pc' : Nat) (ht : (pc : Int) + off = (pt : Int)) (hpc : pc + 3 = pc') (kt : 0 < a → KW x cells slots Q σ pt L S) (kf : ¬ 0 < a → KW x cells slots Q σ pc' L S) : KW x cells slots Q σ pc L (ki a :: S) := by
  obtain ⟨⟨p, l, e, R, s, m, args, below, meth, c⟩, ⟨D, cl, cA, ad, ae, Y, A, nL⟩⟩ := x
  obtain ⟨rfl, rfl, rfl, rfl, rfl, hEn, hx, hb, hml, hr, hown, hts, hK, hlocks, hA⟩ := C
  subst hpc
  intro hg hL hS H locs ls hP hD hSv hl
  obtain ⟨hva, hS⟩ := kS1 hS
  exact lv_if_gt hx hb hd ht (fun h => kt ((k32_lt k32_0 hva).mp h) hg hL hS H locs ls hP hD hSv hl) (fun h => kf (fun h2 => h ((k32_lt k32_0 hva).mpr h2)) hg hL hS H locs ls hP hD hSv hl)
theorem kw_if_le {a : Int} {off : Int} (C : kCx x cc own ret cl0 Y0 n0 l0 R0) (hd : decode cc pc = .ok (.ifCond .le off, 3)) (pt pc' : Nat) (ht : (pc : Int) + off = (pt : Int)) (hpc : pc + 3 = pc') (kt : a ≤ 0 → KW x cells slots Q σ pt L S) (kf : ¬ a ≤ 0 → KW x cells slots Q σ pc' L S) : KW x cells slots Q σ pc L (ki a :: S) := by
  obtain ⟨⟨p, l, e, R, s, m, args, below, meth, c⟩, ⟨D, cl, cA, ad, ae, Y, A, nL⟩⟩ := x
  obtain ⟨rfl, rfl, rfl, rfl, rfl, hEn, hx, hb, hml, hr, hown, hts, hK, hlocks, hA⟩ := C
  subst hpc
  intro hg hL hS H locs ls hP hD hSv hl
  obtain ⟨hva, hS⟩ := kS1 hS
  exact lv_if_le hx hb hd ht (fun h => kt ((k32_le hva k32_0).mp h) hg hL hS H locs ls hP hD hSv hl) (fun h => kf (fun h2 => h ((k32_le hva k32_0).mpr h2)) hg hL hS H locs ls hP hD hSv hl)
end KWR

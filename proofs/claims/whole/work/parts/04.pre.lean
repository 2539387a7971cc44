/-! the words of the pure functions: a name, a test, a loop; and how a walk uses them -/
def klet {α β : Type} (a : α) (f : α → β) : β := f a
theorem klet_h {α β : Type} {a : α} {f : α → Option β} {b : β} (h : klet a f = some b) : ∃ v, v = a ∧ f v = some b := ⟨a, rfl, h⟩
def kchk {α : Type} (c : Prop) [Decidable c] (t : Option α) : Option α := if c then t else none
theorem kchk_h {α : Type} {c : Prop} [Decidable c] {t : Option α} {b : α} (h : kchk c t = some b) : c ∧ t = some b := by
  unfold kchk at h
  by_cases hc : c
  · rw [if_pos hc] at h
    exact ⟨hc, h⟩
  · rw [if_neg hc] at h
    cases h
theorem kchk_t {α : Type} {c : Prop} [Decidable c] {t : Option α} (hc : c) : kchk c t = t := if_pos hc
theorem kbind_h {α β : Type} {o : Option α} {f : α → Option β} {b : β} (h : o.bind f = some b) : ∃ q, o = some q ∧ f q = some b := by
  cases o with
  | none => cases h
  | some q => exact ⟨q, rfl, h⟩
def kFuel : Nat := 100000000
def kloop {α β : Type} (body : α → Option (α ⊕ β)) : Nat → α → Option β
  | 0, _ => none
  | n + 1, a => match body a with
    | none => none
    | some (.inl a') => kloop body n a'
    | some (.inr b) => some b
theorem kloop_ind {α β : Type} {body : α → Option (α ⊕ β)} {P : α → Prop} {ex : β} (hstep : ∀ (a : α) (out : α ⊕ β), body a = some out → (∀ a', out = .inl a' → P a') → (∀ b, out = .inr b → b = ex) → P a) : ∀ (n : Nat) (a : α), kloop body n a = some ex → P a := by
  intro n
  induction n with
  | zero => intro a h; cases h
  | succ n ih =>
    intro a h
    unfold kloop at h
    cases hb : body a with
    | none => rw [hb] at h; cases h
    | some out =>
      rw [hb] at h
      refine hstep a out hb (fun a' e => ?_) (fun b e => ?_)
      · subst e
        exact ih a' h
      · subst e
        exact Option.some.inj h
def kle : List (Option kV) → List (Option kV) → Prop
  | [], _ => True
  | none :: t, u => kle t u.tail
  | some v :: t, some w :: u => v = w ∧ kle t u
  | some _ :: _, _ => False
theorem kle_at : ∀ (L' L : List (Option kV)), kle L' L → ∀ (i : Nat) (v : kV), L'[i]? = some (some v) → L[i]? = some (some v) := by
  intro L'
  induction L' with
  | nil => intro L _ i v h; simp at h
  | cons o t ih =>
    intro L hk i v h
    cases o with
    | none =>
      cases i with
      | zero => simp at h
      | succ i =>
        have h1 : kle t L.tail := hk
        have h2 := ih L.tail h1 i v (by simpa using h)
        cases L with
        | nil => simp at h2
        | cons a u => simpa using h2
    | some w =>
      cases L with
      | nil => exact hk.elim
      | cons a u =>
        cases a with
        | none => exact hk.elim
        | some z =>
          obtain ⟨e, hk⟩ : w = z ∧ kle t u := hk
          cases i with
          | zero =>
            simp at h
            simp [← e, h]
          | succ i => simpa using ih u hk i v (by simpa using h)
section KPRE
variable {x : kX} {cc : ByteArray} {own : String} {ret : Option FieldType} {cl0 : List vw_C} {Y0 : List kD} {n0 : Nat} {l0 : Launch} {R0 : Room} {cells slots : Nat} {Q : State → Prop} {σ : kM} {pc : Nat} {L : List (Option kV)} {S : List kV}
theorem kw_sub {L' : List (Option kV)} (h : kle L' L) (k : KW x cells slots Q σ pc L' S) : KW x cells slots Q σ pc L S := by
  obtain ⟨⟨p, l, e, R, s, m, args, below, meth, c⟩, ⟨D, cl, cA, ad, ae, Y, A, nL⟩⟩ := x
  intro hg hL hS H locs ls hP hD hSv hl
  have h1 := kle_at L' L h
  refine k hg (fun v hv => ?_) hS H locs ls hP hD hSv ⟨hl.1, hl.2.1, fun q hq => ?_⟩
  · obtain ⟨i, hi⟩ := List.getElem?_of_mem hv
    exact hL v (List.mem_of_getElem? (h1 i v hi))
  · obtain ⟨v, h2, h3⟩ := klv_of hq
    rw [h3]
    exact kloc.at hl (h1 _ _ h2)
theorem kw_top {v e : Int} (hv : v = e) (k : KW x cells slots Q σ pc L (ki v :: S)) : KW x cells slots Q σ pc L (ki e :: S) := hv ▸ k
theorem kw_topl {v e : Int} (hv : v = e) (k : KW x cells slots Q σ pc L (kl v :: S)) : KW x cells slots Q σ pc L (kl e :: S) := hv ▸ k
theorem kw_tope {v e : Int} (hv : v = e) (k : KW x cells slots Q σ pc L (ke v :: S)) : KW x cells slots Q σ pc L (ke e :: S) := hv ▸ k
theorem kw_top2 {v e : Int} {w : kV} (hv : v = e) (k : KW x cells slots Q σ pc L (w :: ki v :: S)) : KW x cells slots Q σ pc L (w :: ki e :: S) := hv ▸ k
theorem kw_sig {σ1 σe : kM} (hv : σ1 = σe) (k : KW x cells slots Q σ1 pc L S) : KW x cells slots Q σe pc L S := hv ▸ k
theorem kw_Q {Q' : State → Prop} (h : Q = Q') (k : KW x cells slots Q' σ pc L S) : KW x cells slots Q σ pc L S := h ▸ k
def kdecs (cc : ByteArray) (l : List (Nat × Instr × Nat)) : Bool := l.all (fun q => decide (decode cc q.1 = .ok q.2))
theorem kdec {cc : ByteArray} {l : List (Nat × Instr × Nat)} (h : kdecs cc l = true) (i : Nat) {pc : Nat} {ins : Instr} {n : Nat} (hi : l[i]? = some (pc, ins, n)) : decode cc pc = .ok (ins, n) := by
  have h1 := List.all_eq_true.mp h _ (List.mem_of_getElem? hi)
  exact of_decide_eq_true h1
theorem kw_table {dflt lo hi : Int} {offs : Array Int} {len : Nat} {a : Int} (C : kCx x cc own ret cl0 Y0 n0 l0 R0) (hd : decode cc pc = .ok (.tableswitch dflt lo hi offs, len)) (pt : Nat) (ht : (a < lo ∨ hi < a) ∧ (pc : Int) + dflt = (pt : Int) ∨ lo ≤ a ∧ a ≤ hi ∧ ∃ off, offs[(a - lo).toNat]? = some off ∧ (pc : Int) + off = (pt : Int)) (k : KW x cells slots Q σ pt L S) : KW x cells slots Q σ pc L (ki a :: S) := by
  obtain ⟨⟨p, l, e, R, s, m, args, below, meth, c⟩, ⟨D, cl, cA, ad, ae, Y, A, nL⟩⟩ := x
  obtain ⟨rfl, rfl, rfl, rfl, rfl, hEn, hx, hb, hml, hr, hown, hts, hK, hlocks, hA⟩ := C
  intro hg hL hS H locs ls hP hD hSv hl
  obtain ⟨hva, hS⟩ := kS1 hS
  have hva : kR32 a := hva
  have e1 : (Int32.ofInt a).toInt = a := by rw [k32_toInt, w32_id hva]
  rcases ht with ⟨h1, h2⟩ | ⟨h1, h2, off, h3, h4⟩
  · exact lv_tableOut hx hb hd (by rw [e1]; exact h1) h2 (k hg hL hS H locs ls hP hD hSv hl)
  · exact lv_tableIn hx hb hd (by rw [e1]; omega) (by rw [e1]; omega) (by rw [e1]; exact h3) h4 (k hg hL hS H locs ls hP hD hSv hl)
theorem kw_lookup {dflt off : Int} {ps : Array (Int × Int)} {len : Nat} {a : Int} (C : kCx x cc own ret cl0 Y0 n0 l0 R0) (hd : decode cc pc = .ok (.lookupswitch dflt ps, len)) (pt : Nat) (hp : (ps.toList.zip (ps.toList.drop 1)).all (fun (a, next) => a.1 < next.1) = true) (ho : Op.lookupswitch.offset ps.toList dflt a = off) (ht : (pc : Int) + off = (pt : Int)) (k : KW x cells slots Q σ pt L S) : KW x cells slots Q σ pc L (ki a :: S) := by
  obtain ⟨⟨p, l, e, R, s, m, args, below, meth, c⟩, ⟨D, cl, cA, ad, ae, Y, A, nL⟩⟩ := x
  obtain ⟨rfl, rfl, rfl, rfl, rfl, hEn, hx, hb, hml, hr, hown, hts, hK, hlocks, hA⟩ := C
  intro hg hL hS H locs ls hP hD hSv hl
  obtain ⟨hva, hS⟩ := kS1 hS
  have hva : kR32 a := hva
  have e1 : (Int32.ofInt a).toInt = a := by rw [k32_toInt, w32_id hva]
  exact lv_lookup hx hb hd hp (by rw [e1]; exact ho) ht (k hg hL hS H locs ls hP hD hSv hl)
end KPRE
theorem kMet.of' {l : Launch} {y : MethodName} {cc : ByteArray} {nL : Nat} {ret : Option FieldType} {rm : Room} {cl : List vw_C} {Y : List kD} {σ : kM} {As : List kV} {r : Option kV} {σ' : kM} (L0 : List (Option kV)) (hy : plainName y.cls = true) (hlen : (kEnt As).length ≤ nL) (hL0 : kle L0 (kEnt As))
    (body : ∀ x : kX, kCx x cc y.cls ret cl Y nL l rm → KW x 0 0 (kQ x r σ' 0 0) σ 0 L0 []) : kMet l y cc nL ret rm cl Y σ As r σ' := kMet.of L0 hy hlen (kle_at _ _ hL0) body
theorem kG_all {w : List Cond} (ix : Nat → Nat) (h : ∀ k, k < w.length → lw_tbl[ix k]? = w[k]?) (hg : w.all goodWord = true) : ∀ u ∈ w, u ∈ kG := by
  intro u hu
  obtain ⟨k, hk⟩ := List.getElem?_of_mem hu
  have hlt := (List.getElem?_eq_some_iff.mp hk).1
  exact kG_in (ix k) ((h k hlt).trans hk) (List.all_eq_true.mp hg u hu)

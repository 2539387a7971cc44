/-! CATCHING: a throw that comes out of a callee, into a handler of the method's own table -/
section CTH
variable {e : Env}
/-- one row of the table that covers the place and names a class -/
theorem ct_row {Q : Handler → Pre} {E : CtlPost} {d : Bool} {acts : List Action} {S : State} {f : JFrame} {a : Addr} {x : ExceptionTableEntry} {t : List ExceptionTableEntry} {c : ClassId} {cell : Cell} (hx : covers x f.pc = true) (h0 : x.catchType ≠ 0) (hl : S.vm.ClassLinks e.platform f.method.cls x.catchType c) (hcell : S.heap[a]? = some cell) (hobj : ∀ k, cell.vm ≠ .statics k)
    (hk : ∃ k, S.vm.classes[cell.cls]? = some k) (hc : ∃ k, S.vm.classes[c]? = some k) :
    (S.vm.assignable cell.cls c = true → (wp (findHandler.go f a (x :: t)) Q E e d acts S ↔ Q (.found x.handlerPc) d acts (S.setVm (S.vm.noted f.method.cls x.catchType (.cls c))))) ∧
    (S.vm.assignable cell.cls c = false → (wp (findHandler.go f a (x :: t)) Q E e d acts S ↔ wp (findHandler.go f a t) Q E e d acts (S.setVm (S.vm.noted f.method.cls x.catchType (.cls c))))) := by
  have hal : S.vm.Alike (S.vm.noted f.method.cls x.catchType (.cls c)) := (Vm.Alike.refl S.vm).noted _ _ _
  have hb : ∀ v : Bool, S.vm.assignable cell.cls c = v → (S.vm.noted f.method.cls x.catchType (.cls c)).assignable cell.cls c = v := fun v h => by rw [hal.assignable]; exact h
  obtain ⟨k1, hk1⟩ := hk
  obtain ⟨k2, hk2⟩ := hc
  obtain ⟨j1, hj1, -⟩ := hal.2.2 _ _ hk1
  obtain ⟨j2, hj2, -⟩ := hal.2.2 _ _ hk2
  obtain ⟨r1, r2⟩ := (resolveClass_links e.toSetting hl).op (op := VmOp.resolveClass f.method.cls x.catchType) rfl
  simp only [covers] at hx
  refine ⟨fun h => ?_, fun h => ?_⟩
  · have h9 := hb _ h
    simp [findHandler.go, hx, h0, r1, r2, hcell, hobj, hj1, hj2, h9, VmOp.dirties, VmOp.acts]
  · have h9 := hb _ h
    simp [findHandler.go, hx, h0, r1, r2, hcell, hobj, hj1, hj2, h9, VmOp.dirties, VmOp.acts]
/-- what a row of the table is to a thrown class -/
def ct_is (pl : Platform) (s : State) (d : ClassId) (pc : Nat) (th : ClassId) (v : Bool) (x : ExceptionTableEntry) : Prop := covers x pc = true ∧ x.catchType ≠ 0 ∧ ∃ c, s.vm.ClassLinks pl d x.catchType c ∧ s.vm.assignable th c = v
theorem ct_go {s : State} {f : JFrame} {a : Addr} {cell : Cell} (hobj : ∀ k, cell.vm ≠ .statics k) (hk : ∃ k, s.vm.classes[cell.cls]? = some k) {x : ExceptionTableEntry} {rest : List ExceptionTableEntry} (hx : ct_is e.platform s f.method.cls f.pc cell.cls true x) :
    ∀ (pre : List ExceptionTableEntry) (S : State), s.WarmedH S.vm → S.heap[a]? = some cell → (∀ y ∈ pre, ct_is e.platform s f.method.cls f.pc cell.cls false y) →
      ∃ vm', s.WarmedH vm' ∧ ∀ (Q : Handler → Pre) (E : CtlPost) (d : Bool) (acts : List Action), wp (findHandler.go f a (pre ++ x :: rest)) Q E e d acts S ↔ Q (.found x.handlerPc) d acts (S.setVm vm') := by
  obtain ⟨k0, hk0⟩ := hk
  have one : ∀ (v : Bool) (y : ExceptionTableEntry) (S : State), s.WarmedH S.vm → ct_is e.platform s f.method.cls f.pc cell.cls v y → ∃ c, S.vm.ClassLinks e.platform f.method.cls y.catchType c ∧ S.vm.assignable cell.cls c = v ∧ (∃ k, S.vm.classes[cell.cls]? = some k) ∧ (∃ k, S.vm.classes[c]? = some k) ∧ s.WarmedH (S.vm.noted f.method.cls y.catchType (.cls c)) := by
    intro v y S hW hy
    obtain ⟨-, -, c, hl, hv⟩ := hy
    obtain ⟨k1, hk1, -⟩ := hW.alike.2.2 _ _ hk0
    obtain ⟨dk, _, _, kt, hd, _, _, _, _, hkt, _, hopen⟩ := hl.here
    obtain ⟨k2, hk2, -⟩ := hW.alike.2.2 _ _ hkt
    exact ⟨c, hW.classLinks hl, by rw [hW.alike.assignable]; exact hv, ⟨k1, hk1⟩, ⟨k2, hk2⟩, hW.noted hd hopen (State.rightAt_cls hl)⟩
  intro pre
  induction pre with
  | nil =>
    intro S hW hcell _
    obtain ⟨c, h1, h2, h3, h4, h5⟩ := one true x S hW hx
    exact ⟨_, h5, fun Q E d acts => (ct_row hx.1 hx.2.1 h1 hcell hobj h3 h4).1 h2⟩
  | cons y ys ih =>
    intro S hW hcell hp
    have hy := hp y List.mem_cons_self
    obtain ⟨c, h1, h2, h3, h4, h5⟩ := one false y S hW hy
    obtain ⟨vm', g1, g2⟩ := ih (S.setVm (S.vm.noted f.method.cls y.catchType (.cls c))) h5 hcell (fun z hz => hp z (List.mem_cons_of_mem _ hz))
    exact ⟨vm', g1, fun Q E d acts => ((ct_row hy.1 hy.2.1 h1 hcell hobj h3 h4).2 h2).trans (g2 Q E d acts)⟩
end CTH
section CTW
variable {p : Program} {l : Launch} {e : Env} {R : Room} {s : State} {m : MethodId} {args : Array Value} {below : List Frame} {meth : Method} {c : Code} {H : Heap} {locs : List Loc} {cells slots : Nat} {Q : State → Prop} {ls : Array Slot} {st : List Value} {pc : Nat} {q : Addr}
theorem ct_step {S : State} {a : Addr} {f : JFrame} {r : List Frame} {h : Nat} {vm' : Vm} (hf : ∀ (Q : Handler → Pre) (E : CtlPost) (d : Bool) (acts : List Action), wp (findHandler f a) Q E e d acts S ↔ Q (.found h) d acts (S.setVm vm')) :
    (stepThrowing e S a (.java f :: r)).Is ((S.setVm vm').setFrames (.java { f with pc := h, stack := [.ref a] } :: r)) [] := by
  simp only [stepThrowing, searchFrame, vmDo]
  generalize hr : Sem.go _ e false [] S = res
  obtain ⟨as, rfl, ha⟩ := Sem.eq_ok_of hr (a := Handler.found h) (s' := S.setVm vm') (acts' := []) (by simp [hf _ _ _ _])
  exact ⟨rfl, ha⟩
/-- into the handler -/
theorem ct_catch {cell : Cell} (hcell : H[q]? = some cell) (hobj : cell.vm = .none) (hk : ∃ k, s.vm.classes[cell.cls]? = some k) {pre rest : List ExceptionTableEntry} {x : ExceptionTableEntry} (ht : c.exceptionTable.toList = pre ++ x :: rest) (hp : ∀ y ∈ pre, ct_is e.platform s m.cls pc cell.cls false y) (hx : ct_is e.platform s m.cls pc cell.cls true x)
    (k : W p l e R s m args below meth c H locs cells slots Q (F0 m x.handlerPc ls [.ref q])) : vx_W p l e R s m args below meth c H locs cells slots Q (F0 m pc ls st) q := by
  intro T hT X
  have hobj' : ∀ k, cell.vm ≠ .statics k := fun k hh => by rw [hobj] at hh; cases hh
  obtain ⟨vm', hW', hf⟩ := ct_go (e := e) (s := s) (f := F0 m pc ls st) (a := q) (cell := cell) (rest := rest) hobj' hk hx pre ((T.setTop (F0 m pc ls st)).pushFrame (.throwing q)) X.warmed (by show T.heap[q]? = some cell; rw [hT]; exact hcell) hp
  have hfind : ∀ (Q : Handler → Pre) (E : CtlPost) (d : Bool) (acts : List Action), wp (findHandler (F0 m pc ls st) q) Q E e d acts ((T.setTop (F0 m pc ls st)).pushFrame (.throwing q)) ↔ Q (.found x.handlerPc) d acts (((T.setTop (F0 m pc ls st)).pushFrame (.throwing q)).setVm vm') := by
    intro Q E d acts
    rw [W.findHandler_eq (meth := meth) (code := c) X.method' X.code, ht]
    exact hf Q E d acts
  obtain ⟨t, a1, a2⟩ := k (T.setVm vm') hT (X.noted hW')
  refine ⟨t, ?_, a2⟩
  obtain ⟨hgo, hw⟩ := At.throwing (g := F0 m pc ls st) X.here q
  refine Steps.head hgo hw ?_
  rw [stepThread_throwing (frames_entered X.here.top _), (ct_step hfind).1]
  obtain ⟨g0, hg⟩ := Option.isSome_iff_exists.mp X.here.top
  obtain ⟨r, hr⟩ := State.topJava?_eq_some.mp hg
  have hr' : (T.setVm vm').frames = .java g0 :: r := hr
  have e9 : ∀ (u : State) (F G : List Frame), ((u.setFrames F).setVm vm').setFrames G = (u.setVm vm').setFrames G := fun u F G => by
    rw [show (u.setFrames F).setVm vm' = (u.setVm vm').setFrames F from rfl, State.setFrames_setFrames]
  rw [State.setTop_of_frames _ hr'] at a1
  rw [hr, List.tail_cons, State.pushFrame, e9, State.setTop_of_frames _ hr, e9]
  exact a1
end CTW

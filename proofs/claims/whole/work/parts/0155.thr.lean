/-! 'throw new E("..")' of an exception whose constructor hands its text on by any entry of its pool (NoSuchElementException's by 13, where the laws above take 7). Goes the way of the library's own law (JvmDerived/BundleOwnThrow.lean), the first link of the chain being free, and says less of the new cell. -/
section KTHR
variable {p : Program} {l : Launch} {e : Env} {R : Room} {s : State} {m : MethodId} {args : Array Value} {below : List Frame} {meth : Method} {c : Code} {locs : List Loc} {cells slots : Nat}
/-- the words: Throwable's, the first link by index j and the bytes bj, the rest of the chain, the class's own -/
def kt_own (own : String) (ic : Nat) (E : String) : List Cond := [.methodLink own ic (Bundle.initS E), .instantiable E 6, .castable E E, .selects E Bundle.tFill0 Bundle.tFill0, .selects E Bundle.tFill Bundle.tFill, .lays E Bundle.tN "cause" "Ljava/lang/Throwable;", .lays E Bundle.tN "stackTrace" Bundle.steD, .lays E Bundle.tN "suppressedExceptions" Bundle.listD, .lays E Bundle.tN "detailMessage" "Ljava/lang/String;", .isRef (.static Bundle.tN "UNASSIGNED_STACK" Bundle.steD), .isRef (.static Bundle.tN "SUPPRESSED_SENTINEL" Bundle.listD), .fieldLink Bundle.tN 198 Bundle.tN "backtrace" "Ljava/lang/Object;", .lays Bundle.tN Bundle.tN "backtrace" "Ljava/lang/Object;", .lays E Bundle.tN "backtrace" "Ljava/lang/Object;"]
def kt_at (own : String) (ic : Nat) (E : String) (j : Nat) (bj : ByteArray) (F : String) (names : List String) : List Cond := (Bundle.throwableAtoms ++ Bundle.throwableSAtoms) ++ ((Bundle.passSAtoms E F j bj ++ Bundle.chainSAtoms F names) ++ kt_own own ic E)
set_option maxHeartbeats 1000000 in
theorem kt_ctor {V : State} (X : Stand p l e R s m args below meth c V locs cells slots) (hexec : p.tables.exec = Jvm.exec) (htr : e.platform.stackTraces = false) {own E F : String} {names : List String} {ic j : Nat} {bj : ByteArray}
    (hown : s.vm.findClass own = some m.cls) (hE : Bundle.fit E = true) (hF : Bundle.fit F = true) (hnames : ∀ n ∈ names, Bundle.fit n = true)
    (q0 : decode bj 0 = .ok (.aload_n 0, 1)) (q1 : decode bj 1 = .ok (.aload_n 1, 1)) (q2 : decode bj 2 = .ok (.invokespecial j, 3)) (q5 : decode bj 5 = .ok (.return_, 1))
    (h : ∀ w ∈ kt_at own ic E j bj F names, w.before args s = true) (hlocs : ∀ x ∈ locs, ∀ cell, s.heap[x.base]? = some cell → cell.vm.isStatics = false)
    {a : Addr} {cE : ClassId} {kE : Class} (hfE : s.vm.findClass E = some cE) (hkE : s.vm.classes[cE]? = some kE) (hcell : V.heap[a]? = some (freshCell cE kE)) (hnew : s.heap.size ≤ a)
    {msg : Value} (hmsg : msg.isRef = true) {g : JFrame} (hg : g.method = m) (hsize : g.locals.size = c.maxLocals) (hlocked : g.locked = none) (hentered : g.entered = []) {rest : List Value} (hstack : g.stack = msg :: .ref a :: .ref a :: rest)
    (hd6 : decode c.code g.pc = .ok (.invokespecial ic, 3)) (hd9 : decode c.code (g.pc + 3) = .ok (.athrow, 1)) (hout : ∀ x ∈ c.exceptionTable.toList, covers x (g.pc + 3) = false)
    (hRf : names.length + 4 < R.frames) (hRl : 2 * g.monitorRoom + ((Value.ref a :: rest).map fun v => v.category).sum + (13 * (names.length + 2) + 42) ≤ R.locals) (hlocks : meth.locks = false) :
    ∃ U : State, Steps p.tables e below (V.setTop g) U ∧ U.status = .running ∧ Ended U below (.threw a) ∧ s.WarmedH U.vm ∧ s.sameButNew ({ U with vm := s.vm } : State) locs cells slots ∧ ∃ ce : Cell, U.heap[a]? = some ce ∧ ce.vm = .none ∧ s.vm.findClass E = some ce.cls := by
  have pl1 : e.platform.frameOwnsMonitors = true := by rw [X.admits.platform]
  have pl2 : e.platform.finalization = false := by rw [X.admits.platform]
  have pl3 : e.platform.magicAccessors = ({} : Platform).magicAccessors := by rw [X.admits.platform]
  have hO : ∀ w ∈ kt_own own ic E, w.holds args s none s [] = true := fun w hw => h w (List.mem_append_right _ (List.mem_append_right _ hw))
  have hP : ∀ w ∈ Bundle.passSAtoms E F j bj, w.before args s = true := fun w hw => h w (List.mem_append_right _ (List.mem_append_left _ (List.mem_append_left _ hw)))
  have hC : ∀ w ∈ Bundle.chainSAtoms F names, w.before args s = true := fun w hw => h w (List.mem_append_right _ (List.mem_append_left _ (List.mem_append_right _ hw)))
  obtain ⟨T, Z0, LT, -, Y⟩ := ThrowableC.of_atoms (args := args) pl1 pl2 pl3 (fun w hw => h w (List.mem_append_left _ (List.mem_append_left _ hw)))
  obtain ⟨Z, M, LZ, LM, hnZ⟩ := Init0T.ofS_atoms (args := args) pl3 LT Y (fun w hw => h w (List.mem_append_left _ (List.mem_append_right _ hw)))
  obtain ⟨P2, Ps, hlen, L2, hLs, hP2m, hlink2, hlink⟩ := Bundle.chainS (args := args) pl3 hnZ names F hF hnames hC
  obtain ⟨P1, L1, hP1m, hsup1⟩ := PassC.ofS_atoms (args := args) (s := s) pl3 (X := E) (Y := F) (Bundle.fit_spec hE).1 (Bundle.fit_spec hF).2 q0 q1 q2 q5 hP
  have hs12 : P1.sup = P2.m := Option.some.inj (hsup1.symm.trans hP2m)
  have hfound : s.vm.findClass E = some P1.m.cls := findClass_of_methodNamed hP1m
  cases Option.some.inj (hfE.symm.trans hfound)
  obtain ⟨cI, kI, hcI, hkI, hord, -, -, hn6⟩ := Cond.instantiable_spec (hO (.instantiable E 6) (by simp [kt_own]))
  cases Option.some.inj (hcI.symm.trans hfound)
  cases Option.some.inj (hkE.symm.trans hkI)
  have sel0 : selectMethod e.platform s.vm P1.m.cls T.fill0 = .method T.fill0 := by
    obtain ⟨z1, z2, z3, w1, w2, w3, w4, -⟩ := Cond.selects_spec (hO (.selects E Bundle.tFill0 Bundle.tFill0) (by simp [kt_own]))
    cases Option.some.inj (w1.symm.trans hfound)
    cases Option.some.inj (w2.symm.trans (State.methodFound?_of_named Y.fill0 (by decide)))
    cases Option.some.inj (w3.symm.trans Y.fill0)
    rw [Launch.admits_selectMethod X.admits]
    exact w4
  have selF : selectMethod e.platform s.vm P1.m.cls T.fill = .method T.fill := by
    obtain ⟨z1, z2, z3, w1, w2, w3, w4, -⟩ := Cond.selects_spec (hO (.selects E Bundle.tFill Bundle.tFill) (by simp [kt_own]))
    cases Option.some.inj (w1.symm.trans hfound)
    cases Option.some.inj (w2.symm.trans (State.methodFound?_of_named Y.fill (by decide)))
    cases Option.some.inj (w3.symm.trans Y.fill)
    rw [Launch.admits_selectMethod X.admits]
    exact w4
  obtain ⟨cS, hcS, hisS⟩ := Y.statics
  obtain ⟨u0, hu0⟩ := Cond.staticRefV Y.unassigned LT.unassignedStatic LT.statics hcS hisS (hO (.isRef (.static Bundle.tN "UNASSIGNED_STACK" Bundle.steD)) (by simp [kt_own]))
  obtain ⟨sen, hsen⟩ := Cond.staticRefV Y.sentinel LT.sentinelStatic LT.statics hcS hisS (hO (.isRef (.static Bundle.tN "SUPPRESSED_SENTINEL" Bundle.listD)) (by simp [kt_own]))
  obtain ⟨cb, ib, fB, hkB, hgB, haB, hsB, -, hnB, htB, hffB⟩ := Cond.ownField (t := .object "java/lang/Object") Y.found LT.cls (by decide +kernel) (hO (.fieldLink Bundle.tN 198 Bundle.tN "backtrace" "Ljava/lang/Object;") (by simp [kt_own])) (hO (.lays Bundle.tN Bundle.tN "backtrace" "Ljava/lang/Object;") (by simp [kt_own])) e.platform pl3
  obtain ⟨cV, hcV, heV, -, hkeep⟩ := X.same.2.2.2.2.2 T.aS cS hcS
  have hcV' : V.heap[T.aS]? = some cV := hcV
  have hnot : ∀ i, (⟨T.aS, i⟩ : Loc) ∉ locs := fun i hmem => by
    have z := hlocs _ hmem cS hcS
    rw [hisS] at z
    cases z
  have hkn : cV.vm ≠ .unknown := by
    rw [heV]
    intro z
    rw [show cS.vm = .unknown from z] at hisS
    cases hisS
  have hne : T.aS ≠ a := Nat.ne_of_lt (Nat.lt_of_lt_of_le (Array.getElem?_eq_some_iff.mp hcS).1 hnew)
  obtain ⟨iM, hffM⟩ := Y.msg
  obtain ⟨tyC, dC, hdC, hdnC⟩ := Cond.laysAt hfound hkI Y.cause (hO (.lays E Bundle.tN "cause" "Ljava/lang/Throwable;") (by simp [kt_own]))
  obtain ⟨tyS, dS, hdS, hdnS⟩ := Cond.laysAt hfound hkI Y.stack (hO (.lays E Bundle.tN "stackTrace" Bundle.steD) (by simp [kt_own]))
  obtain ⟨tyP, dP, hdP, hdnP⟩ := Cond.laysAt hfound hkI Y.supp (hO (.lays E Bundle.tN "suppressedExceptions" Bundle.listD) (by simp [kt_own]))
  obtain ⟨tyM, dM, hdM, hdnM⟩ := Cond.laysAt hfound hkI hffM (hO (.lays E Bundle.tN "detailMessage" "Ljava/lang/String;") (by simp [kt_own]))
  obtain ⟨tyB, dB, hdB, hdnB⟩ := Cond.laysAt hfound hkI hffB (hO (.lays E Bundle.tN "backtrace" "Ljava/lang/Object;") (by simp [kt_own]))
  have bC := Cond.laysApart hdB hdC hdnB hdnC (by rw [hnB, Y.causeName]; decide)
  have bS := Cond.laysApart hdB hdS hdnB hdnS (by rw [hnB, Y.stackName]; decide)
  have bP := Cond.laysApart hdB hdP hdnB hdnP (by rw [hnB, Y.suppName]; decide)
  have hskip : SkipFacts T e.platform s (fun u => u) u0 ((preparedCellV T.toThrowableT (freshCell P1.m.cls kE) a u0 sen).withEntry V.cur) :=
    ⟨{ ci198 := cb, i198 := ib, fBack := fB }, ⟨hkB, hgB, haB, hsB⟩, by
      have z := fresh_default (c := P1.m.cls) tyB
      rw [htB] at z
      simpa [preparedCellV, Cell.setSlot, Cell.withEntry, Array.getElem?_setIfInBounds, bC, bS, bP, bC.symm, bS.symm, bP.symm, defaultValue] using z, fun _ _ => rfl⟩
  obtain ⟨tm, methC, cdC, kC, vm₁, hnC, -, -, -, -, -, -, -, hW₁, st1⟩ := Steps.initColdS (tb := p.tables) (e := e) (below := below) (s := s) (U := V) X.here hexec X.warmed pl3 hown (t := Bundle.initS E) rfl rfl (Bundle.fit_spec hE).2
    (hO (.methodLink own ic (Bundle.initS E)) (by simp [kt_own])) (hP (.instanceMethod (Bundle.initS E)) (by simp [Bundle.passSAtoms])) (bytes := bj) (maxL := 2) (hP (.code (Bundle.initS E) bj 2 none) (by simp [Bundle.passSAtoms]))
    (f := g) hg (a := a) (msg := msg) (rest := .ref a :: rest) hstack hd6
  cases Option.some.inj (hnC.symm.trans hP1m)
  have X₁ := X.noted hW₁
  obtain ⟨vm₂, X₂, st2⟩ := X₁.ctorMessageOffV hexec (g := { g with stack := .ref a :: rest }) hg hsize T LT Z LZ M LM (P1 :: P2 :: Ps)
    (fun P hP => by
      rcases List.mem_cons.mp hP with rfl | hP
      · exact L1
      · rcases List.mem_cons.mp hP with rfl | hP
        · exact L2
        · exact hLs P hP) ⟨hs12, hlink2, hlink⟩ (u0 := u0) (sen := sen) (self := a) hmsg (cell := freshCell P1.m.cls kE) (cellS := cV)
    hcell (fun _ => by simp) (by simp) rfl rfl sel0 selF hcV' hne hkn (by rw [hkeep _ (hnot _)]; exact hu0) (by rw [hkeep _ (hnot _)]; exact hsen)
    (Takes.of_laid hkI hord tyC (by rw [Y.causeType]; rfl)) (Takes.of_laid hkI hord tyS (by rw [Y.stackType]; exact fits_refV_array _ u0)) (Takes.of_laid hkI hord tyP (by rw [Y.suppType]; exact fits_refV_object _ sen))
    (Takes.of_laid hkI hord tyM (by rw [Y.msgType]; exact fits_refV_object _ ⟨msg, hmsg⟩)) Y.objLocals hskip htr [] hd6
    (by simp only [List.length_cons, hlen]; omega) (by simp only [List.length_cons, hlen]; exact hRl)
  obtain ⟨hwalk, hrun, hended, hWU, hsame⟩ := X₂.athrowLeaves hexec (g := { g with stack := .ref a :: rest, pc := g.pc + 3 }) hg hlocked hentered hout (a := a) (rest := rest) rfl hd9
  have hlt : a < ((V.setVm vm₁).setVm vm₂).heap.size := (Array.getElem?_eq_some_iff.mp hcell).1
  have hU := heapAt_setCell_self (s := (V.setVm vm₁).setVm vm₂) (plainBareV T.toThrowableT (freshCell P1.m.cls kE) a u0 sen msg) hlt
  refine ⟨_, st1 _ (fun acts => ?_), hrun, hended, hWU, hsame.weaken (fun y hy hlt' => ?_) (Nat.le_refl _) (Nat.le_refl _), _, hU, rfl, hfound⟩
  · rw [doInvoke_state]
    exact st2 _ hwalk
  · rcases List.mem_append.mp hy with h1 | h1
    · exact h1
    · exfalso
      have hb : y.base = a := by
        simp only [List.mem_cons, List.not_mem_nil, or_false] at h1
        rcases h1 with rfl | rfl | rfl | rfl | rfl <;> rfl
      rw [hb] at hlt'
      exact Nat.not_lt.mpr hnew hlt'
end KTHR

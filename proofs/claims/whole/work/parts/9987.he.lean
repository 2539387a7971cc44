/-! HELPERS OF THE LAW: a call that may throw, caught there -/
def sNE : String := "java/util/NoSuchElementException"
def sIA : String := "java/lang/IllegalArgumentException"
/-- what is known of the two classes that are thrown -/
def kEx (U : State) : Prop := ∃ cN cI : ClassId, U.vm.findClass sNE = some cN ∧ U.vm.findClass sIA = some cI ∧ U.vm.assignable cN cN = true ∧ U.vm.assignable cI cI = true ∧ U.vm.assignable cI cN = false
theorem kEx.warm {s U : State} (hW : s.WarmedH U.vm) (h : kEx s) : kEx U := by
  obtain ⟨cN, cI, h1, h2, h3, h4, h5⟩ := h
  refine ⟨cN, cI, ?_, ?_, ?_, ?_, ?_⟩
  · rw [hW.alike.findClass]; exact h1
  · rw [hW.alike.findClass]; exact h2
  · rw [hW.alike.assignable]; exact h3
  · rw [hW.alike.assignable]; exact h4
  · rw [hW.alike.assignable]; exact h5
def kSt0 (x : kX) : State := x.1.2.2.2.2.1
def kTt (x : kX) (hh : List (Nat × Nat × Nat × Nat)) : Prop := x.1.2.2.2.2.2.2.2.2.2.exceptionTable.toList = tableOf hh
/-- a row of the table, by words -/
def ctW (own : String) (pc : Nat) (E : String) (v : Bool) (q : Nat × Nat × Nat × Nat) : Prop := (q.1 ≤ pc ∧ pc < q.2.1 ∧ q.2.2.2 ≠ 0) ∧ ∃ name, Cond.classLink own q.2.2.2 name ∈ kG ∧ ((v = true ∧ name = E ∧ (E = sNE ∨ E = sIA)) ∨ (v = false ∧ E = sIA ∧ name = sNE))
theorem ctW.is {own : String} {pc : Nat} {E : String} {v : Bool} {q : Nat × Nat × Nat × Nat} {s : State} {args : Array Value} {e : Env} {d th : ClassId} (h : ctW own pc E v q) (hpl : e.platform.magicAccessors = ({} : Platform).magicAccessors) (hown : s.vm.findClass own = some d) (hts : ∀ w ∈ kG, w.before args s = true) (hE : kEx s) (ht : s.vm.findClass E = some th) : ct_is e.platform s d pc th v ⟨q.1, q.2.1, q.2.2.1, q.2.2.2⟩ := by
  obtain ⟨⟨h1, h2, h3⟩, name, h4, h5⟩ := h
  obtain ⟨c', hc', hcl⟩ := Cond.classLink_spec hown (hts _ h4) e.platform hpl
  obtain ⟨cN, cI, g1, g2, g3, g4, g5⟩ := hE
  refine ⟨?_, h3, c', hcl, ?_⟩
  · show (decide (q.1 ≤ pc) && decide (pc < q.2.1)) = true
    rw [decide_eq_true h1, decide_eq_true h2]
    rfl
  · rcases h5 with ⟨rfl, rfl, e1 | e1⟩ | ⟨rfl, rfl, rfl⟩
    · subst e1
      cases hc'.symm.trans g1
      cases ht.symm.trans g1
      exact g3
    · subst e1
      cases hc'.symm.trans g2
      cases ht.symm.trans g2
      exact g4
    · cases hc'.symm.trans g1
      cases ht.symm.trans g2
      exact g5
theorem kloc.setN {ad ae : Nat → Nat} {ls' : Array Slot} {nL : Nat} {L : List (Option kV)} {i : Nat} {v : Value} (hno : kno L i = true)
    (h : lv_has ls' nL ((i, v) :: (klv ad ae L).filter (fun q => !(q.1 == i) && !(q.1 + 1 == i && q.2.category == 2)))) : kloc ad ae ls' nL (L.set i none) := by
  refine ⟨h.1, h.2.1, fun q hq => ?_⟩
  obtain ⟨u, h1, h2⟩ := klv_of hq
  obtain ⟨j, z⟩ := q
  dsimp only at h1 h2
  subst h2
  rw [List.getElem?_set] at h1
  by_cases hij : i = j
  · subst hij
    rw [if_pos rfl] at h1
    split at h1
    · cases h1
    · cases h1
  · rw [if_neg hij] at h1
    refine h.2.2 _ (List.mem_cons_of_mem _ (List.mem_filter.mpr ⟨klv_mem h1, ?_⟩))
    simp only [Bool.and_eq_true, Bool.not_eq_true', beq_eq_false_iff_ne]
    refine ⟨fun e => hij e.symm, ?_⟩
    cases hc : (j + 1 == i) with
    | false => rfl
    | true =>
      have hji : i = j + 1 := (beq_iff_eq.mp hc).symm
      subst hji
      have : kcat1 u = true := by
        have q : (match L[j]? with | some (some v) => kcat1 v | _ => true) = true := hno
        rw [h1] at q
        exact q
      rw [kcat ad ae u this]
      rfl
section KHE
variable {x : kX} {cc : ByteArray} {own : String} {ret : Option FieldType} {cl0 : List vw_C} {Y0 : List kD} {n0 : Nat} {l0 : Launch} {R0 : Room} {cells slots : Nat} {Q : State → Prop} {σ : kM} {pc : Nat} {L : List (Option kV)} {S : List kV}
theorem kw_callVX_c {index mc1 ms1 : Nat} {b ci : Nat} {fs : List kF} {Cn : String} {T : u_T} {N : Nat} {y : MethodName} {bytes : ByteArray} {maxL : Nat} {rt : Option FieldType} {rm : Room} {As S0 : List kV} {E : String} {σ1 : kM} {pre rest : List (Nat × Nat × Nat × Nat)} {h : Nat × Nat × Nat × Nat} {i : Nat} (C : kCx x cc own ret cl0 Y0 n0 l0 R0) (hT : kTt x (pre ++ h :: rest)) (hE : kEx (kSt0 x)) (hd : decode cc pc = .ok (.invokevirtual index, 3)) (hc : kCv own index y bytes maxL rt As.length Cn) (hY : Y0[b]? = some (.inr (ci, fs))) (hcl : cl0[ci]? = some (Cn, T, N))
    (hM : kXet l0 y bytes maxL rt rm cl0 Y0 σ (kr b :: As) (.inl E) σ1 mc1 ms1) (hrm : rm.cells = mc1 ∧ rm.slots = ms1) (hR : rm.frames + 1 ≤ R0.frames ∧ 8 + (maxL + 11) + rm.locals ≤ R0.locals) (hcs : cells + mc1 ≤ R0.cells ∧ slots + ms1 ≤ R0.slots)
    (hS0 : S0 = As.reverse ++ kr b :: S) (hcat : (S.map (fun v => if kcat1 v then 1 else 2)).sum ≤ 8) (hpre : ∀ q ∈ pre, ctW own pc E false q) (hh : ctW own pc E true h) (pc' : Nat) (hst : (∃ k4 : Fin 4, decode cc h.2.2.1 = .ok (.astore_n k4, 1) ∧ (k4 : Nat) = i ∧ h.2.2.1 + 1 = pc') ∨ (decode cc h.2.2.1 = .ok (.astore i, 2) ∧ h.2.2.1 + 2 = pc')) (hn : i < n0) (hno : kno L i = true)
    (kk : KW x (cells + mc1) (slots + ms1) Q σ1 pc' (L.set i none) []) : KW x cells slots Q σ pc L S0 := by
  obtain ⟨⟨p, l, e, R, s, m, args, below, meth, c⟩, ⟨D, cl, cA, ad, ae, Y, A, nL⟩⟩ := x
  obtain ⟨rfl, rfl, rfl, rfl, rfl, hEn, hx, hb, hml, hr, hown, hts, hK, hlocks, hA⟩ := C
  intro hg hL hS H locs ls hP hD hSv hl
  subst hS0
  have hA' : ∀ v ∈ kr b :: As, kok v := fun v hv => by
    rcases List.mem_cons.mp hv with rfl | h
    · trivial
    · exact hS v (List.mem_append_left _ (List.mem_reverse.mpr h))
  have hcs2 := kcat_sum (ad := ad) (ae := ae) hcat
  have hpre' : ∀ U : State, U.heap = H → s.WarmedH U.vm → kPre D cl cA ad ae Y A σ ((kr b :: As).map (kc ad ae)) ((kr b :: As).map (kc ad ae)).toArray U := fun U hU hW => ⟨rfl, by rw [hU]; exact hP, va_K.moved hW.alike hK, hD, fun q hq => hA q (by rw [hU] at hq; exact Nat.le_trans hSv.1 hq), hEn.kept hW (by rw [hU]; exact hSv.2.1), hg⟩
  have hru := vx_runV (As := As.map (kc ad ae)) (b := ad b) (rest := S.map (kc ad ae)) ⟨hx, hb, hml, hown, hts⟩ (hM hA' D cA ad ae A) ⟨hc.1.to hts hrm.1 hrm.2 hR, hts _ hc.2.1, hts _ hc.2.2⟩ ⟨kPre.blind, va_recv (q := (Cn, T, N)) hK hP hcl (kws_at hY), hpre'⟩ (hg := rfl) (by simp) (g := F0 m pc ls (List.map (kc ad ae) (As.reverse ++ kr b :: S))) hl.1 (by simp [kc]) (lv_room hcs2) hd ⟨hcs.1, hcs.2⟩ (below := below) (meth := meth) (e := e) (locs := locs)
  intro T0 hT0 X
  rcases hru T0 hT0 X with ⟨v, st₀, t, T', L2, h0, X', hL2, e1, e2, hPX, st⟩ | ⟨q, st₀, t, T', L2, E', ce, h0, X', hL2, e1, e2, ⟨hE', hP1, hF, hg1⟩, hce, hcv, hcl9, st⟩
  · exact hPX.elim
  · subst hE'
    have hF1 : H.size ≤ t.heap.size := by have := hF.1; rw [h0] at this; exact this
    have hF2 : ∀ q : Nat, q < H.size → ¬ A q → t.heap[q]? = H[q]? := by have := hF.2; rw [h0] at this; exact this
    have hpl : e.platform.magicAccessors = ({} : Platform).magicAccessors := by rw [X.admits.platform]
    have hP9 : va_P D cl (kws ad cA Y σ1) T'.heap := by rw [e1]; exact hP1
    have hS9 : va_S A s.heap T'.heap (locs ++ L2) := ⟨Nat.le_trans hSv.1 (by rw [e1]; exact hF1), fun q h1 h2 => by rw [e1, hF2 q (Nat.lt_of_lt_of_le h1 hSv.1) h2]; exact hSv.2.1 q h1 h2, fun q hq => by
      rcases List.mem_append.mp hq with h | h
      · exact hSv.2.2 q h
      · exact hL2 q h⟩
    have hx9 := hh.is (e := e) hpl hown hts hE hcl9
    have hk9 : ∃ k, s.vm.classes[ce.cls]? = some k := by
      obtain ⟨-, -, c9, hl9, hv9⟩ := hx9
      obtain ⟨dk, _, _, kt, _, _, _, _, _, hkt, _, _⟩ := hl9.here
      exact Vm.classAt_of_assignable hv9 ⟨kt, hkt⟩
    have ht9 : c.exceptionTable.toList = tableOf pre ++ (⟨h.1, h.2.1, h.2.2.1, h.2.2.2⟩ : ExceptionTableEntry) :: tableOf rest := by
      have hT : c.exceptionTable.toList = tableOf (pre ++ h :: rest) := hT
      rw [hT]
      unfold tableOf
      rw [List.map_append, List.map_cons]
    have hk : W p l e R s m args below meth c T'.heap (locs ++ L2) (cells + mc1) (slots + ms1) Q (F0 m h.2.2.1 ls [.ref q]) := by
      rcases hst with ⟨k4, d1, d2, d3⟩ | ⟨d1, d3⟩
      · subst d3
        exact lv_astore_n hx hb d1 d2 hl hn rfl (fun ls' h' => kk hg1 (kLsetN hL) (fun v hv => by cases hv) T'.heap (locs ++ L2) ls' hP9 (kws_D hD) hS9 (kloc.setN hno h'))
      · subst d3
        exact lv_astore hx hb d1 hl hn rfl (fun ls' h' => kk hg1 (kLsetN hL) (fun v hv => by cases hv) T'.heap (locs ++ L2) ls' hP9 (kws_D hD) hS9 (kloc.setN hno h'))
    obtain ⟨t2, a1, b1⟩ := ct_catch (pc := pc) (st := S.map (kc ad ae)) (ls := ls) (by rw [e1]; exact hce) hcv hk9 ht9 (fun y hy => by
      unfold tableOf at hy
      obtain ⟨z, hz, rfl⟩ := List.mem_map.mp hy
      exact (hpre z hz).is (e := e) hpl hown hts hE hcl9) hx9 hk T' rfl X'
    exact ⟨t2, st.trans a1, b1⟩
end KHE
/-- a helper's contract -/
def kHet (l : Launch) (y : MethodName) (cc : ByteArray) (nL : Nat) (hh : List (Nat × Nat × Nat × Nat)) (rm : Room) (Y : List kD) (σ : kM) (As : List kV) (r : Int) (σ' : kM) (mc ms : Nat) : Prop :=
  (∀ v ∈ As, kok v) → ∀ (D : va_G) (cA : Nat → ClassId) (ad ae : Nat → Nat) (A : Nat → Prop), Met l y (Cond.codeWith y cc nL (some .int) hh :: kG) rm (fun a U => kPre D kcl cA ad ae Y A σ (As.map (kc ad ae)) a U ∧ kEx U) (kPost D kcl cA ad ae Y A (some (ki r)) σ') mc ms A
theorem kHet.of {l : Launch} {y : MethodName} {cc : ByteArray} {nL : Nat} {hh : List (Nat × Nat × Nat × Nat)} {rm : Room} {Y : List kD} {σ : kM} {As : List kV} {r : Int} {σ' : kM} {mc ms : Nat} (L0 : List (Option kV)) (hy : plainName y.cls = true) (hlen : (kEnt As).length ≤ nL) (hL0 : kle L0 (kEnt As))
    (body : ∀ x : kX, kCx x cc y.cls (some .int) kcl Y nL l rm → kTt x hh → kEx (kSt0 x) → KW x 0 0 (kQX x (.inr (some (ki r))) σ' mc ms) σ 0 L0 []) : kHet l y cc nL hh rm Y σ As r σ' mc ms := by
  intro hA D cA ad ae A
  have hv : vx_Met l y (Cond.codeWith y cc nL (some .int) hh :: kG) rm (fun a U => kPre D kcl cA ad ae Y A σ (As.map (kc ad ae)) a U ∧ kEx U) (kPX D kcl cA ad ae Y A (.inr (some (ki r))) σ') (kXC D kcl cA ad Y A (.inr (some (ki r))) σ') mc ms A := by
    refine vx_ofWH (cc := cc) (maxL := nL) (ret := some .int) (hh := hh) hy rfl ?_
    intro p e s m args below meth c s₁ B hml hv
    obtain ⟨⟨rfl, hP, hK, hD, hsz, hEn, hg⟩, hEx⟩ := hv
    have hts := atoms_spec (ws := Cond.codeWith y cc nL (some .int) hh :: kG) B.pre
    have hown : s.vm.findClass y.cls = some m.cls := findClass_of_methodNamed B.named
    have htb : c.exceptionTable.toList = tableOf hh := vx_table (x := y) B (hts _ List.mem_cons_self)
    have hL1 := kle_at _ _ hL0
    have hl := lv_entry (As.map (kc ad ae)) (n := nL) ?_
    · rw [lg_entry_eq]
      refine body ((p, l, e, rm, s, m, _, below, meth, c), (D, kcl, cA, ad, ae, Y, A, nL)) ⟨rfl, rfl, rfl, rfl, rfl, hEn, B.exec, B.bytes, hml, B.returns, hown, fun w hw => hts w (List.mem_cons_of_mem _ hw), hK, B.notSynchronized, hsz⟩ htb hEx hg (fun v hv => ?_) (fun v h => by cases h) s.heap [] _ hP hD va_S.rf ⟨hl.1, hl.2.1, fun q hq => ?_⟩
      · obtain ⟨i, hi⟩ := List.getElem?_of_mem hv
        exact kEnt_ok As hA v (List.mem_of_getElem? (hL1 i v hi))
      · obtain ⟨v, h1, h2⟩ := klv_of hq
        have h3 := kEnt_args ad ae As 0 q.1 v (hL1 _ _ h1)
        rw [Nat.zero_add, ← h2] at h3
        exact hl.2.2 _ h3
    · rw [kls_len]
      exact hlen
  refine MetFree.cq hv (fun a s h => h) (fun a s o t _ hq => ?_)
  rcases hq with hq | ⟨q, -, E, ce, L, hx, -⟩
  · exact hq
  · exact hx.elim

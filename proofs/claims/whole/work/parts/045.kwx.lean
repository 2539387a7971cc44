/-! methods that return or throw -/
def kXC (D : va_G) (cl : List vw_C) (cA : Nat → ClassId) (ad : Nat → Nat) (Y : List kD) (A : Nat → Prop) (o : String ⊕ Option kV) (σ' : kM) : String → State → State → Prop := fun E st t => match o with
  | .inl E0 => E = E0 ∧ va_P D cl (kws ad cA Y σ') t.heap ∧ va_F A st t ∧ kgood Y σ'
  | .inr _ => False
def kPX (D : va_G) (cl : List vw_C) (cA : Nat → ClassId) (ad ae : Nat → Nat) (Y : List kD) (A : Nat → Prop) (o : String ⊕ Option kV) (σ' : kM) : Array Value → State → Outcome → State → Prop := fun a st oc t => match o with
  | .inl _ => False
  | .inr r => kPost D cl cA ad ae Y A r σ' a st oc t
def kQX (x : kX) (o : String ⊕ Option kV) (σ' : kM) (mc ms : Nat) : State → Prop := match x with
  | ((_, _, _, _, s, _, args, below, _, _), (D, cl, cA, ad, ae, Y, A, _)) => vx_MQ below (kPX D cl cA ad ae Y A o σ') (kXC D cl cA ad Y A o σ') args s mc ms A
def kXet (l : Launch) (y : MethodName) (cc : ByteArray) (nL : Nat) (ret : Option FieldType) (rm : Room) (cl : List vw_C) (Y : List kD) (σ : kM) (As : List kV) (o : String ⊕ Option kV) (σ' : kM) (mc ms : Nat) : Prop :=
  (∀ v ∈ As, kok v) → ∀ (D : va_G) (cA : Nat → ClassId) (ad ae : Nat → Nat) (A : Nat → Prop), vx_Met l y (Cond.code y cc nL ret :: kG) rm (kPre D cl cA ad ae Y A σ (As.map (kc ad ae))) (kPX D cl cA ad ae Y A o σ') (kXC D cl cA ad Y A o σ') mc ms A
/-- no handlers -/
def kTb (x : kX) : Prop := ∀ z ∈ x.1.2.2.2.2.2.2.2.2.2.exceptionTable.toList, False
section KX
variable {x : kX} {cc : ByteArray} {own : String} {ret : Option FieldType} {cl0 : List vw_C} {Y0 : List kD} {n0 : Nat} {l0 : Launch} {R0 : Room} {cells slots : Nat} {Q : State → Prop} {σ : kM} {pc : Nat} {L : List (Option kV)} {S : List kV}
theorem kw_widen {k n : Nat} (h1 : cells ≤ k) (h2 : slots ≤ n) (kk : KW x k n Q σ pc L S) : KW x cells slots Q σ pc L S := by
  obtain ⟨⟨p, l, e, R, s, m, args, below, meth, c⟩, ⟨D, cl, cA, ad, ae, Y, A, nL⟩⟩ := x
  intro hg hL hS H locs ls hP hD hSv hl
  exact W.widen h1 h2 (kk hg hL hS H locs ls hP hD hSv hl)
theorem kw_xret {r : Option kV} {σ' : kM} {mc ms : Nat} (h1 : cells ≤ mc) (h2 : slots ≤ ms) (kk : KW x mc ms (kQ x r σ' mc ms) σ pc L S) : KW x cells slots (kQX x (.inr r) σ' mc ms) σ pc L S := by
  obtain ⟨⟨p, l, e, R, s, m, args, below, meth, c⟩, ⟨D, cl, cA, ad, ae, Y, A, nL⟩⟩ := x
  intro hg hL hS H locs ls hP hD hSv hl
  exact W.widen h1 h2 (vx_ret (kk hg hL hS H locs ls hP hD hSv hl))
theorem kcat_sum {ad ae : Nat → Nat} {S : List kV} {n : Nat} (hcat : (S.map (fun v => if kcat1 v then 1 else 2)).sum ≤ n) : (((S.map (kc ad ae)).map fun v => v.category)).sum ≤ n := by
  refine Nat.le_trans (Nat.le_of_eq ?_) hcat
  rw [List.map_map]
  congr 1
  apply List.map_congr_left
  intro v _
  rcases v with v | v | v | v <;> first | rfl | exact (kcat ad ae _ rfl)
theorem kP_new {D : va_G} {cl : List vw_C} {ws : va_W} {H H1 : Heap} (h : va_P D cl ws H) (hq : ∀ q : Nat, q < H.size → H1[q]? = H[q]?) : va_P D cl ws H1 := h.kept (fun k q hk => hq _ (h k q hk).lt)
/-- the words of a throw -/
def kTh (own : String) (ik is ic : Nat) (E text : String) (j : Nat) (bj : ByteArray) (F : String) (names : List String) : Prop :=
  (Bundle.fit E = true ∧ Bundle.fit F = true ∧ decode bj 0 = .ok (.aload_n 0, 1) ∧ decode bj 1 = .ok (.aload_n 1, 1) ∧ decode bj 2 = .ok (.invokespecial j, 3) ∧ decode bj 5 = .ok (.return_, 1)) ∧ (∀ n ∈ names, Bundle.fit n = true) ∧ Cond.classLink own ik E ∈ kG ∧ Cond.initialized E ∈ kG ∧ (own, is, text) ∈ kSt ∧ (∀ w ∈ kt_f own ic E j bj F names, w ∈ kG ∨ w ∈ kB) ∧ ∀ w ∈ Cond.classLink own ik E :: Cond.initialized E :: kt_f own ic E j bj F names, vx_ot w = true
theorem kw_throw {ik is ic mc ms : Nat} {E text F : String} {names : List String} {j : Nat} {bj : ByteArray} (C : kCx x cc own ret cl0 Y0 n0 l0 R0) (hT : kTb x) (hfl : l0.stackTraces = false) (hw : kTh own ik is ic E text j bj F names)
    (d0 : decode cc pc = .ok (.new ik, 3)) (d3 : decode cc (pc + 3) = .ok (.dup, 1)) (d4 : decode cc (pc + 4) = .ok (.ldc is, 2)) (d6 : decode cc (pc + 6) = .ok (.invokespecial ic, 3)) (d9 : decode cc (pc + 9) = .ok (.athrow, 1))
    (hcat : (S.map (fun v => if kcat1 v then 1 else 2)).sum ≤ 8) (hR : names.length + 4 < R0.frames ∧ 8 + (13 * (names.length + 2) + 43) ≤ R0.locals ∧ cells + 1 ≤ R0.cells ∧ slots + 6 ≤ R0.slots) (hc : cells + 1 ≤ mc) (hs : slots + 6 ≤ ms) :
    KW x cells slots (kQX x (.inl E) σ mc ms) σ pc L S := by
  obtain ⟨⟨p, l, e, R, s, m, args, below, meth, c⟩, ⟨D, cl, cA, ad, ae, Y, A, nL⟩⟩ := x
  obtain ⟨rfl, rfl, rfl, rfl, rfl, hEn, hx, hb, hml, hr, hown, hts, hK, hlocks, hA⟩ := C
  obtain ⟨f1, f2, f3, f4, f5, f6, f7⟩ := hw
  intro hg hL hS H locs ls hP hD hSv hl
  obtain ⟨sa, hsa⟩ := hEn.2.2.2.1 _ f5
  have hcs2 := kcat_sum (ad := ad) (ae := ae) hcat
  exact kt_throw hx hb hfl hown f1.1 f1.2.1 f1.2.2.1 f1.2.2.2.1 f1.2.2.2.2.1 f1.2.2.2.2.2 f2 (hts _ f3) (hts _ f4) hsa (fun w hw => (f6 w hw).elim (fun h => hts w h) (fun h => va_Nw.use (kB_on (List.mem_filter.mp h).2) (hEn.1 w h))) f7 hEn.2.1 hEn.2.2.1 hSv (hl.1.trans hml.symm) d0 d3 d4 d6 d9 (fun z hz => (hT z hz).elim) hR.1 (by omega) hR.2.2.1 hR.2.2.2 hlocks
    (fun t hvm hz hq => ⟨rfl, kP_new hP hq, ⟨Nat.le_trans hSv.1 hz, fun q h1 h2 => (hq q (Nat.lt_of_lt_of_le h1 hSv.1)).trans (hSv.2.1 q h1 h2)⟩, hg⟩) hSv.2.2 hc hs
theorem kw_throwW {ik is ic mc ms : Nat} {E text F : String} {names : List String} {j : Nat} {bj : ByteArray} (C : kCx x cc own ret cl0 Y0 n0 l0 R0) (hT : kTb x) (hfl : l0.stackTraces = false) (hw : kTh own ik is ic E text j bj F names)
    (d0 : decode cc pc = .ok (.new ik, 3)) (d3 : decode cc (pc + 3) = .ok (.dup, 1)) (d4 : decode cc (pc + 4) = .ok (.ldc_w is, 3)) (d6 : decode cc (pc + 7) = .ok (.invokespecial ic, 3)) (d9 : decode cc (pc + 10) = .ok (.athrow, 1))
    (hcat : (S.map (fun v => if kcat1 v then 1 else 2)).sum ≤ 8) (hR : names.length + 4 < R0.frames ∧ 8 + (13 * (names.length + 2) + 43) ≤ R0.locals ∧ cells + 1 ≤ R0.cells ∧ slots + 6 ≤ R0.slots) (hc : cells + 1 ≤ mc) (hs : slots + 6 ≤ ms) :
    KW x cells slots (kQX x (.inl E) σ mc ms) σ pc L S := by
  obtain ⟨⟨p, l, e, R, s, m, args, below, meth, c⟩, ⟨D, cl, cA, ad, ae, Y, A, nL⟩⟩ := x
  obtain ⟨rfl, rfl, rfl, rfl, rfl, hEn, hx, hb, hml, hr, hown, hts, hK, hlocks, hA⟩ := C
  obtain ⟨f1, f2, f3, f4, f5, f6, f7⟩ := hw
  intro hg hL hS H locs ls hP hD hSv hl
  obtain ⟨sa, hsa⟩ := hEn.2.2.2.1 _ f5
  have hcs2 := kcat_sum (ad := ad) (ae := ae) hcat
  exact kt_throwW hx hb hfl hown f1.1 f1.2.1 f1.2.2.1 f1.2.2.2.1 f1.2.2.2.2.1 f1.2.2.2.2.2 f2 (hts _ f3) (hts _ f4) hsa (fun w hw => (f6 w hw).elim (fun h => hts w h) (fun h => va_Nw.use (kB_on (List.mem_filter.mp h).2) (hEn.1 w h))) f7 hEn.2.1 hEn.2.2.1 hSv (hl.1.trans hml.symm) d0 d3 d4 d6 d9 (fun z hz => (hT z hz).elim) hR.1 (by omega) hR.2.2.1 hR.2.2.2 hlocks
    (fun t hvm hz hq => ⟨rfl, kP_new hP hq, ⟨Nat.le_trans hSv.1 hz, fun q h1 h2 => (hq q (Nat.lt_of_lt_of_le h1 hSv.1)).trans (hSv.2.1 q h1 h2)⟩, hg⟩) hSv.2.2 hc hs
theorem kw_callVX {index mc1 ms1 : Nat} {b ci : Nat} {fs : List kF} {Cn : String} {T : u_T} {N : Nat} {y : MethodName} {bytes : ByteArray} {maxL : Nat} {rt : Option FieldType} {rm : Room} {As S0 : List kV} {r : Option kV} {σ1 : kM} (C : kCx x cc own ret cl0 Y0 n0 l0 R0) (hd : decode cc pc = .ok (.invokevirtual index, 3)) (pc' : Nat) (hpc : pc + 3 = pc')
    (hc : kCv own index y bytes maxL rt As.length Cn) (hY : Y0[b]? = some (.inr (ci, fs))) (hcl : cl0[ci]? = some (Cn, T, N)) (hM : kXet l0 y bytes maxL rt rm cl0 Y0 σ (kr b :: As) (.inr r) σ1 mc1 ms1) (hrm : rm.cells = mc1 ∧ rm.slots = ms1) (hR : rm.frames + 1 ≤ R0.frames ∧ 8 + (maxL + 11) + rm.locals ≤ R0.locals) (hcs : cells + mc1 ≤ R0.cells ∧ slots + ms1 ≤ R0.slots)
    (hS0 : S0 = As.reverse ++ kr b :: S) (hcat : (S.map (fun v => if kcat1 v then 1 else 2)).sum ≤ 8) (kk : KW x (cells + mc1) (slots + ms1) Q σ1 pc' L (r.toList ++ S)) : KW x cells slots Q σ pc L S0 := by
  obtain ⟨⟨p, l, e, R, s, m, args, below, meth, c⟩, ⟨D, cl, cA, ad, ae, Y, A, nL⟩⟩ := x
  obtain ⟨rfl, rfl, rfl, rfl, rfl, hEn, hx, hb, hml, hr, hown, hts, hK, hlocks, hA⟩ := C
  subst hpc
  intro hg hL hS H locs ls hP hD hSv hl
  subst hS0
  have hA' : ∀ v ∈ kr b :: As, kok v := fun v hv => by
    rcases List.mem_cons.mp hv with rfl | h
    · trivial
    · exact hS v (List.mem_append_left _ (List.mem_reverse.mpr h))
  have hcs2 := kcat_sum (ad := ad) (ae := ae) hcat
  have hpre : ∀ U : State, U.heap = H → s.WarmedH U.vm → kPre D cl cA ad ae Y A σ ((kr b :: As).map (kc ad ae)) ((kr b :: As).map (kc ad ae)).toArray U := fun U hU hW => ⟨rfl, by rw [hU]; exact hP, va_K.moved hW.alike hK, hD, fun q hq => hA q (by rw [hU] at hq; exact Nat.le_trans hSv.1 hq), hEn.kept hW (by rw [hU]; exact hSv.2.1), hg⟩
  have hru := vx_runV (As := As.map (kc ad ae)) (b := ad b) (rest := S.map (kc ad ae)) ⟨hx, hb, hml, hown, hts⟩ (hM hA' D cA ad ae A) ⟨hc.1.to hts hrm.1 hrm.2 hR, hts _ hc.2.1, hts _ hc.2.2⟩ ⟨kPre.blind, va_recv (q := (Cn, T, N)) hK hP hcl (kws_at hY), hpre⟩ (hg := rfl) (by simp) (g := F0 m pc ls (List.map (kc ad ae) (As.reverse ++ kr b :: S))) hl.1 (by simp [kc]) (lv_room hcs2) hd ⟨hcs.1, hcs.2⟩ (below := below) (meth := meth) (e := e) (locs := locs)
  intro T0 hT0 X
  rcases hru T0 hT0 X with ⟨v, st₀, t, T', L2, h0, X', hL2, e1, e2, ⟨hv, hP1, hF, hg1, hr1⟩, st⟩ | ⟨q, st₀, t, T', L2, E, ce, h0, X', hL2, e1, e2, hXC, hrest⟩
  · have hv : v = r.map (kc ad ae) := by injection hv
    subst hv
    have hF1 : H.size ≤ t.heap.size := by have := hF.1; rw [h0] at this; exact this
    have hF2 : ∀ q : Nat, q < H.size → ¬ A q → t.heap[q]? = H[q]? := by have := hF.2; rw [h0] at this; exact this
    obtain ⟨t2, a1, b1⟩ := kk hg1 hL (fun u hu => by
        rcases List.mem_append.mp hu with h | h
        · exact hr1 u (by simpa using h)
        · exact (fun v hv => hS v (List.mem_append_right _ (List.mem_cons_of_mem _ hv))) u h) T'.heap (locs ++ L2) ls (by rw [e1]; exact hP1) (kws_D hD)
      ⟨Nat.le_trans hSv.1 (by rw [e1]; exact hF1), fun q h1 h2 => by rw [e1, hF2 q (Nat.lt_of_lt_of_le h1 hSv.1) h2]; exact hSv.2.1 q h1 h2, fun q hq => by
        rcases List.mem_append.mp hq with h | h
        · exact hSv.2.2 q h
        · exact hL2 q h⟩ hl T' rfl X'
    refine ⟨t2, st t2 ?_, b1⟩
    rw [← kap] at a1
    exact a1
  · exact hXC.elim
theorem kw_callVX_t {index mc1 ms1 : Nat} {b ci : Nat} {fs : List kF} {Cn : String} {T : u_T} {N : Nat} {y : MethodName} {bytes : ByteArray} {maxL : Nat} {rt : Option FieldType} {rm : Room} {As S0 : List kV} {E : String} {σ1 : kM} {mc ms : Nat} (C : kCx x cc own ret cl0 Y0 n0 l0 R0) (hT : kTb x) (hd : decode cc pc = .ok (.invokevirtual index, 3)) (hc : kCv own index y bytes maxL rt As.length Cn) (hY : Y0[b]? = some (.inr (ci, fs))) (hcl : cl0[ci]? = some (Cn, T, N))
    (hM : kXet l0 y bytes maxL rt rm cl0 Y0 σ (kr b :: As) (.inl E) σ1 mc1 ms1) (hrm : rm.cells = mc1 ∧ rm.slots = ms1) (hR : rm.frames + 1 ≤ R0.frames ∧ 8 + (maxL + 11) + rm.locals ≤ R0.locals) (hcs : cells + mc1 ≤ R0.cells ∧ slots + ms1 ≤ R0.slots)
    (hS0 : S0 = As.reverse ++ kr b :: S) (hcat : (S.map (fun v => if kcat1 v then 1 else 2)).sum ≤ 8) (hmc : cells + mc1 ≤ mc) (hms : slots + ms1 ≤ ms) : KW x cells slots (kQX x (.inl E) σ1 mc ms) σ pc L S0 := by
  obtain ⟨⟨p, l, e, R, s, m, args, below, meth, c⟩, ⟨D, cl, cA, ad, ae, Y, A, nL⟩⟩ := x
  obtain ⟨rfl, rfl, rfl, rfl, rfl, hEn, hx, hb, hml, hr, hown, hts, hK, hlocks, hA⟩ := C
  intro hg hL hS H locs ls hP hD hSv hl
  subst hS0
  have hA' : ∀ v ∈ kr b :: As, kok v := fun v hv => by
    rcases List.mem_cons.mp hv with rfl | h
    · trivial
    · exact hS v (List.mem_append_left _ (List.mem_reverse.mpr h))
  have hcs2 := kcat_sum (ad := ad) (ae := ae) hcat
  have hpre : ∀ U : State, U.heap = H → s.WarmedH U.vm → kPre D cl cA ad ae Y A σ ((kr b :: As).map (kc ad ae)) ((kr b :: As).map (kc ad ae)).toArray U := fun U hU hW => ⟨rfl, by rw [hU]; exact hP, va_K.moved hW.alike hK, hD, fun q hq => hA q (by rw [hU] at hq; exact Nat.le_trans hSv.1 hq), hEn.kept hW (by rw [hU]; exact hSv.2.1), hg⟩
  have hru := vx_runV (As := As.map (kc ad ae)) (b := ad b) (rest := S.map (kc ad ae)) ⟨hx, hb, hml, hown, hts⟩ (hM hA' D cA ad ae A) ⟨hc.1.to hts hrm.1 hrm.2 hR, hts _ hc.2.1, hts _ hc.2.2⟩ ⟨kPre.blind, va_recv (q := (Cn, T, N)) hK hP hcl (kws_at hY), hpre⟩ (hg := rfl) (by simp) (g := F0 m pc ls (List.map (kc ad ae) (As.reverse ++ kr b :: S))) hl.1 (by simp [kc]) (lv_room hcs2) hd ⟨hcs.1, hcs.2⟩ (below := below) (meth := meth) (e := e) (locs := locs)
  intro T0 hT0 X
  rcases hru T0 hT0 X with ⟨v, st₀, t, T', L2, h0, X', hL2, e1, e2, hPX, st⟩ | ⟨q, st₀, t, T', L2, E', ce, h0, X', hL2, e1, e2, ⟨hE, hP1, hF, hg1⟩, hce, hcv, hcl9, st⟩
  · exact hPX.elim
  · subst hE
    have hF1 : H.size ≤ t.heap.size := by have := hF.1; rw [h0] at this; exact this
    have hF2 : ∀ q : Nat, q < H.size → ¬ A q → t.heap[q]? = H[q]? := by have := hF.2; rw [h0] at this; exact this
    obtain ⟨t2, a1, b1⟩ := vx_out (Qc := kPX D cl cA ad ae Y A (.inl E') σ1) (XC := kXC D cl cA ad Y A (.inl E') σ1) (free := A) (p := p) (l := l) (e := e) (R := R) (s := s) (m := m) (args := args) (below := below) (meth := meth) (c := c) (H := T'.heap) (locs := locs ++ L2) (cells := cells + mc1) (slots := slots + ms1) (ls := ls) (rest := S.map (kc ad ae)) (pc := pc) (q := q) (ce := ce) (E := E') (mc := mc) (ms := ms) (fun z hz => (hT z hz).elim) hlocks (by rw [e1]; exact hce) hcv hcl9
      (fun t9 h9 _ => ⟨rfl, by rw [h9, e1]; exact hP1, ⟨by rw [h9, e1]; exact Nat.le_trans hSv.1 hF1, fun q h1 h2 => by rw [h9, e1, hF2 q (Nat.lt_of_lt_of_le h1 hSv.1) h2]; exact hSv.2.1 q h1 h2⟩, hg1⟩)
      (fun z hz => by
        rcases List.mem_append.mp hz with h | h
        · exact hSv.2.2 z h
        · exact hL2 z h) hmc hms T' rfl X'
    exact ⟨t2, st.trans a1, b1⟩
end KX
theorem kXet.of {l : Launch} {y : MethodName} {cc : ByteArray} {nL : Nat} {ret : Option FieldType} {rm : Room} {cl : List vw_C} {Y : List kD} {σ : kM} {As : List kV} {o : String ⊕ Option kV} {σ' : kM} {mc ms : Nat} (L0 : List (Option kV)) (hy : plainName y.cls = true) (hlen : (kEnt As).length ≤ nL) (hL0 : kle L0 (kEnt As))
    (body : ∀ x : kX, kCx x cc y.cls ret cl Y nL l rm → kTb x → KW x 0 0 (kQX x o σ' mc ms) σ 0 L0 []) : kXet l y cc nL ret rm cl Y σ As o σ' mc ms := by
  intro hA D cA ad ae A
  refine vx_ofW (cc := cc) (maxL := nL) (ret := ret) hy rfl ?_
  intro p e s m args below meth c s₁ B hml htb hv
  obtain ⟨rfl, hP, hK, hD, hsz, hEn, hg⟩ := hv
  have hts := atoms_spec (ws := Cond.code y cc nL ret :: kG) B.pre
  have hown : s.vm.findClass y.cls = some m.cls := findClass_of_methodNamed B.named
  have hL1 := kle_at _ _ hL0
  have hl := lv_entry (As.map (kc ad ae)) (n := nL) ?_
  · rw [lg_entry_eq]
    refine body ((p, l, e, rm, s, m, _, below, meth, c), (D, cl, cA, ad, ae, Y, A, nL)) ⟨rfl, rfl, rfl, rfl, rfl, hEn, B.exec, B.bytes, hml, B.returns, hown, fun w hw => hts w (List.mem_cons_of_mem _ hw), hK, B.notSynchronized, hsz⟩ htb hg (fun v hv => ?_) (fun v h => by cases h) s.heap [] _ hP hD va_S.rf ⟨hl.1, hl.2.1, fun q hq => ?_⟩
    · obtain ⟨i, hi⟩ := List.getElem?_of_mem hv
      exact kEnt_ok As hA v (List.mem_of_getElem? (hL1 i v hi))
    · obtain ⟨v, h1, h2⟩ := klv_of hq
      have h3 := kEnt_args ad ae As 0 q.1 v (hL1 _ _ h1)
      rw [Nat.zero_add, ← h2] at h3
      exact hl.2.2 _ h3
  · rw [kls_len]
    exact hlen

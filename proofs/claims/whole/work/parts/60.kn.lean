/-! CONSTRUCTORS: KN: the machine inside a constructor: the object's own fields, the cells made so far, the stack. -/
def kNw : Cond → Bool
  | .methodLinkNest _ _ _ _ => true
  | _ => false
def kNs : List Cond := lw_tbl.filter kNw
theorem kNs_of {l : List Cond} (hl : ∀ w ∈ l, w ∈ lw_tbl) (i : Nat) {w : Cond} (h : l[i]? = some w) (hg : kNw w = true) : w ∈ kNs := List.mem_filter.mpr ⟨hl w (List.mem_of_getElem? h), hg⟩
theorem kNs_warm {w : Cond} (h : kNw w = true) {s U : State} (hW : s.WarmedH U.vm) (hZ : va_Nw w s) : va_Nw w U := by
  cases w <;> first | (cases h; done) | exact va_Nw.warmM hW hZ
abbrev nX : Type := (Program × Launch × Env × Room × State × MethodId × Array Value × List Frame × Method × Code) × (va_G × List vw_C × (Nat → ClassId) × Nat × List Nat × (Nat → Prop) × Nat)
def nCx (x : nX) (cc : ByteArray) (own : String) (cl0 : List vw_C) (n0 : Nat) (l0 : Launch) (R0 : Room) (cA0 : Nat → ClassId) (a0 : Nat) (As0 : List Nat) : Prop := match x with
  | ((p, l, _, R, s, m, args, _, meth, c), (D, cl, cA, a, As, A, nL)) => cl = cl0 ∧ nL = n0 ∧ l = l0 ∧ R = R0 ∧ cA = cA0 ∧ a = a0 ∧ As = As0 ∧ p.tables.exec = Jvm.exec ∧ c.code = cc ∧ c.maxLocals = nL ∧ meth.sig.returnType = none ∧ meth.name = "<init>" ∧ s.vm.findClass own = some m.cls ∧ (∀ w ∈ kG, w.before args s = true) ∧ (∀ w ∈ kNs, va_Nw w s) ∧ va_K D cl (ktys cA) s ∧ meth.locks = false ∧ ∀ q : Nat, s.heap.size ≤ q → A q
def nLs (ls : Array Slot) (nL a : Nat) (As : List Nat) : Prop := ls.size = nL ∧ ∀ (i b : Nat), (a :: As)[i]? = some b → ls[i]? = some (.val (.ref b))
def KN (x : nX) (cells slots : Nat) (Q : State → Prop) (ci : Nat) (fs : List Value) (rest : va_W) (pc : Nat) (S : List Value) : Prop := match x with
  | ((p, l, e, R, s, m, args, below, meth, c), (D, cl, _, a, As, A, nL)) => ∀ (H : Heap) (locs : List Loc) (ls : Array Slot), va_P D cl ((a, .inr (ci, fs)) :: rest) H → va_D A ((a, .inr (ci, fs)) :: rest) → va_S A s.heap H locs → nLs ls nL a As →
      W p l e R s m args below meth c H locs cells slots Q (F0 m pc ls S)
def nPre (D : va_G) (cl : List vw_C) (cA : Nat → ClassId) (a : Nat) (As : List Nat) (A : Nat → Prop) (ci : Nat) (fs : List Value) : Array Value → State → Prop := fun ar U =>
  ar = ((a :: As).map Value.ref).toArray ∧ va_P D cl [(a, .inr (ci, fs))] U.heap ∧ va_K D cl (ktys cA) U ∧ (∀ q : Nat, A q ↔ q = a ∨ U.heap.size ≤ q) ∧ ∀ w ∈ kNs, va_Nw w U
def nPost (D : va_G) (cl : List vw_C) (A : Nat → Prop) (out : (Nat → Nat) → va_W) : Array Value → State → Outcome → State → Prop := fun _ st o t =>
  o = .returned none ∧ (∃ b : Nat → Nat, va_P D cl (out b) t.heap ∧ va_D A (out b)) ∧ va_F A st t
def nMet (l : Launch) (y : MethodName) (cc : ByteArray) (nL : Nat) (rm : Room) (cl : List vw_C) (ci : Nat) (fs : List Value) (As : List Nat) (out : (Nat → ClassId) → Nat → (Nat → Nat) → va_W) (mc ms : Nat) : Prop :=
  ∀ (D : va_G) (cA : Nat → ClassId) (a : Nat) (A : Nat → Prop), Met l y (Cond.code y cc nL none :: kG) rm (nPre D cl cA a As A ci fs) (nPost D cl A (out cA a)) mc ms A
def nQ (x : nX) (out : (Nat → ClassId) → Nat → (Nat → Nat) → va_W) (mc ms : Nat) : State → Prop := match x with
  | ((_, _, _, _, s, _, args, below, _, _), (D, cl, cA, a, _, A, _)) => MQ below (nPost D cl A (out cA a)) args s mc ms A
theorem nPre.blind {D : va_G} {cl : List vw_C} {cA : Nat → ClassId} {a : Nat} {As : List Nat} {A : Nat → Prop} {ci : Nat} {fs : List Value} : FrameBlind (nPre D cl cA a As A ci fs) := by
  intro ar U g mk h
  obtain ⟨h1, h2, h3, h4, h5⟩ := h
  exact ⟨h1, h2, va_K.moved (u := U) (U := U.calling g mk ar) (Vm.Alike.refl U.vm) h3, h4, fun w hw => kNs_warm (List.mem_filter.mp hw).2 (U := U.calling g mk ar) (State.WarmedH.refl U) (h5 w hw)⟩
theorem nArgs : ∀ (As : List Nat) (n i b : Nat), As[i]? = some b → (n + i, Value.ref b) ∈ lv_args n (As.map Value.ref)
  | [], _, _, _, h => by cases h
  | c :: t, n, 0, b, h => by
    cases h
    exact List.mem_cons_self
  | c :: t, n, i + 1, b, h => by
    refine List.mem_cons_of_mem _ ?_
    have := nArgs t (n + 1) i b h
    rw [show n + (i + 1) = n + 1 + i by omega]
    exact this
theorem nSl : ∀ As : List Nat, (lg_sl (As.map Value.ref)).length = As.length
  | [] => rfl
  | c :: t => by
    have := nSl t
    show (lg_sl (Value.ref c :: t.map Value.ref)).length = t.length + 1
    rw [← this]
    rfl
theorem nMet.of {l : Launch} {y : MethodName} {cc : ByteArray} {nL : Nat} {rm : Room} {cl : List vw_C} {ci : Nat} {fs : List Value} {As : List Nat} {out : (Nat → ClassId) → Nat → (Nat → Nat) → va_W} {mc ms : Nat} (hy : plainName y.cls = true) (hn : y.name = "<init>") (hlen : As.length + 1 ≤ nL)
    (body : ∀ (x : nX) (cA : Nat → ClassId) (a : Nat), nCx x cc y.cls cl nL l rm cA a As → KN x 0 0 (nQ x out mc ms) ci fs [] 0 []) : nMet l y cc nL rm cl ci fs As out mc ms := by
  intro D cA a A
  refine Met.ofW (cc := cc) (maxL := nL) (ret := none) hy rfl ?_
  intro p e s m args below meth c s₁ B hml hv
  obtain ⟨rfl, hP, hK, hA, hN⟩ := hv
  have hts := atoms_spec (ws := Cond.code y cc nL none :: kG) B.pre
  have hown : s.vm.findClass y.cls = some m.cls := findClass_of_methodNamed B.named
  have hnm : meth.name = "<init>" := (name_of_methodNamed B.named B.method).1.trans hn
  have hl := lv_entry ((a :: As).map Value.ref) (n := nL) (by rw [nSl]; exact hlen)
  rw [lg_entry_eq]
  refine body ((p, l, e, rm, s, m, _, below, meth, c), (D, cl, cA, a, As, A, nL)) cA a ⟨rfl, rfl, rfl, rfl, rfl, rfl, rfl, B.exec, B.bytes, hml, B.returns, hnm, hown, fun w hw => hts w (List.mem_cons_of_mem _ hw), hN, hK, B.notSynchronized, fun q hq => (hA q).mpr (Or.inr hq)⟩ s.heap [] _ hP ⟨fun i j p q hi hj _ => ?_, fun k q hk => ?_⟩ va_S.rf ⟨hl.1, fun i b hi => ?_⟩
  · cases i with
    | zero =>
      cases j with
      | zero => rfl
      | succ j => cases hj
    | succ i => cases hi
  · cases k with
    | zero =>
      cases hk
      exact (hA _).mpr (Or.inl rfl)
    | succ k => cases hk
  · have := nArgs (a :: As) 0 i b hi
    rw [Nat.zero_add] at this
    exact hl.2.2 _ this
def nD (ty : Nat → FieldType) (N : Nat) : List Value := (List.range N).map (fun j => defaultValue (ty j))
theorem nD_at {ty : Nat → FieldType} {N j : Nat} (h : j < N) : defaultValue (ty j) = vp_V (nD ty N) j := by
  unfold nD vp_V
  simp [h]
section KNR
variable {x : nX} {cc : ByteArray} {own : String} {cl0 : List vw_C} {n0 : Nat} {l0 : Launch} {R0 : Room} {cA0 : Nat → ClassId} {a0 : Nat} {As0 : List Nat} {cells slots : Nat} {Q : State → Prop} {ci : Nat} {fs : List Value} {rest : va_W} {pc : Nat} {S : List Value}
theorem kn_aload_n {k4 : Fin 4} {i : Nat} {b : Nat} (C : nCx x cc own cl0 n0 l0 R0 cA0 a0 As0) (hd : decode cc pc = .ok (.aload_n k4, 1)) (hi : (k4 : Nat) = i) (pc' : Nat) (hpc : pc + 1 = pc') (hv : (a0 :: As0)[i]? = some b) (k : KN x cells slots Q ci fs rest pc' (.ref b :: S)) : KN x cells slots Q ci fs rest pc S := by
  obtain ⟨⟨p, l, e, R, s, m, args, below, meth, c⟩, ⟨D, cl, cA, a, As, A, nL⟩⟩ := x
  obtain ⟨rfl, rfl, rfl, rfl, rfl, rfl, rfl, hx, hb, hml, hr, hnm, hown, hts, hN, hK, hlocks, hA⟩ := C
  subst hpc
  intro H locs ls hP hD hSv hl
  exact lv_aload_n hx hb hd hi (hl.2 i b hv) (k H locs ls hP hD hSv hl)
theorem kn_iconst {n v : Int} (C : nCx x cc own cl0 n0 l0 R0 cA0 a0 As0) (hd : decode cc pc = .ok (.iconst n, 1)) (pc' : Nat) (hpc : pc + 1 = pc') (hv : n = v) (k : KN x cells slots Q ci fs rest pc' (.int (Int32.ofInt v) :: S)) : KN x cells slots Q ci fs rest pc S := by
  obtain ⟨⟨p, l, e, R, s, m, args, below, meth, c⟩, ⟨D, cl, cA, a, As, A, nL⟩⟩ := x
  obtain ⟨rfl, rfl, rfl, rfl, rfl, rfl, rfl, hx, hb, hml, hr, hnm, hown, hts, hN, hK, hlocks, hA⟩ := C
  subst hpc
  subst hv
  intro H locs ls hP hD hSv hl
  exact lv_iconst hx hb hd rfl (k H locs ls hP hD hSv hl)
theorem kn_bipush {n v : Int} (C : nCx x cc own cl0 n0 l0 R0 cA0 a0 As0) (hd : decode cc pc = .ok (.bipush n, 2)) (pc' : Nat) (hpc : pc + 2 = pc') (hv : (Int8.ofInt n).toInt32 = Int32.ofInt v) (k : KN x cells slots Q ci fs rest pc' (.int (Int32.ofInt v) :: S)) : KN x cells slots Q ci fs rest pc S := by
  obtain ⟨⟨p, l, e, R, s, m, args, below, meth, c⟩, ⟨D, cl, cA, a, As, A, nL⟩⟩ := x
  obtain ⟨rfl, rfl, rfl, rfl, rfl, rfl, rfl, hx, hb, hml, hr, hnm, hown, hts, hN, hK, hlocks, hA⟩ := C
  subst hpc
  intro H locs ls hP hD hSv hl
  exact lv_bipush hx hb hd hv (k H locs ls hP hD hSv hl)
theorem kn_sipush {n v : Int} (C : nCx x cc own cl0 n0 l0 R0 cA0 a0 As0) (hd : decode cc pc = .ok (.sipush n, 3)) (pc' : Nat) (hpc : pc + 3 = pc') (hv : (Int16.ofInt n).toInt32 = Int32.ofInt v) (k : KN x cells slots Q ci fs rest pc' (.int (Int32.ofInt v) :: S)) : KN x cells slots Q ci fs rest pc S := by
  obtain ⟨⟨p, l, e, R, s, m, args, below, meth, c⟩, ⟨D, cl, cA, a, As, A, nL⟩⟩ := x
  obtain ⟨rfl, rfl, rfl, rfl, rfl, rfl, rfl, hx, hb, hml, hr, hnm, hown, hts, hN, hK, hlocks, hA⟩ := C
  subst hpc
  intro H locs ls hP hD hSv hl
  exact lv_sipush hx hb hd hv (k H locs ls hP hD hSv hl)
theorem kn_dup {b : Nat} (C : nCx x cc own cl0 n0 l0 R0 cA0 a0 As0) (hd : decode cc pc = .ok (.dup, 1)) (pc' : Nat) (hpc : pc + 1 = pc') (k : KN x cells slots Q ci fs rest pc' (.ref b :: .ref b :: S)) : KN x cells slots Q ci fs rest pc (.ref b :: S) := by
  obtain ⟨⟨p, l, e, R, s, m, args, below, meth, c⟩, ⟨D, cl, cA, a, As, A, nL⟩⟩ := x
  obtain ⟨rfl, rfl, rfl, rfl, rfl, rfl, rfl, hx, hb, hml, hr, hnm, hown, hts, hN, hK, hlocks, hA⟩ := C
  subst hpc
  intro H locs ls hP hD hSv hl
  exact lv_dup hx hb hd rfl (k H locs ls hP hD hSv hl)
def nFd (own : String) (index : Nat) (cl0 : List vw_C) (ci j : Nat) : Prop :=
  ∃ (C : String) (T : u_T) (N : Nat), cl0[ci]? = some (C, T, N) ∧ j < N ∧ (∀ w ∈ u_ws C T N, w ∈ kG) ∧ Cond.fieldLink own index (T j).1 (T j).2.1 (T j).2.2.1 ∈ kG
def nFp (own : String) (index : Nat) (cl0 : List vw_C) (ci j : Nat) (ty : FieldType) : Prop :=
  ∃ (C : String) (T : u_T) (N : Nat) (ty0 : Nat → FieldType), cl0[ci]? = some (C, T, N) ∧ j < N ∧ (∀ w ∈ u_ws C T N, w ∈ kG) ∧ Cond.fieldLink own index (T j).1 (T j).2.1 (T j).2.2.1 ∈ kG ∧
    (∀ k, k < N → parseFieldDescriptor (T k).2.2.1 = some (ty0 k)) ∧ (∀ a, a < N → ∀ b, b < N → a ≠ b → (T a).2.1 ≠ (T b).2.1) ∧ (T j).1 = own ∧ parseFieldDescriptor (T j).2.2.1 = some ty
theorem kn_get {index q b c2 j : Nat} {fs2 : List Value} {v : Value} (C : nCx x cc own cl0 n0 l0 R0 cA0 a0 As0) (hd : decode cc pc = .ok (.getfield index, 3)) (pc' : Nat) (hpc : pc + 3 = pc') (hF : nFd own index cl0 c2 j) (he : ((a0, .inr (ci, fs)) :: rest : va_W)[q]? = some (b, .inr (c2, fs2))) (hv : fs2[j]? = some v) (kk : KN x cells slots Q ci fs rest pc' (v :: S)) : KN x cells slots Q ci fs rest pc (.ref b :: S) := by
  obtain ⟨⟨p, l, e, R, s, m, args, below, meth, c⟩, ⟨D, cl, cA, a, As, A, nL⟩⟩ := x
  obtain ⟨rfl, rfl, rfl, rfl, rfl, rfl, rfl, hx, hb, hml, hr, hnm, hown, hts, hN, hK, hlocks, hA⟩ := C
  subst hpc
  obtain ⟨Cn, T, N, hc, hj, hin, hlk⟩ := hF
  intro H locs ls hP hD hSv hl
  exact va_get hx hb hts hin hown hK hP q he hc j hj (hts _ hlk) (fun _ h => h) (v := v) hv hd (kk H locs ls hP hD hSv hl)
theorem kn_put {index j : Nat} {ty : FieldType} {v : Value} {fs' : List Value} (C : nCx x cc own cl0 n0 l0 R0 cA0 a0 As0) (hd : decode cc pc = .ok (.putfield index, 3)) (pc' : Nat) (hpc : pc + 3 = pc') (hF : nFp own index cl0 ci j ty) (hn : narrow ty v = v) (hfit : fits ty v = true) (hl0 : j < fs.length) (hfs : fs.set j v = fs') (kk : KN x cells slots Q ci fs' rest pc' S) : KN x cells slots Q ci fs rest pc (v :: .ref a0 :: S) := by
  obtain ⟨⟨p, l, e, R, s, m, args, below, meth, c⟩, ⟨D, cl, cA, a, As, A, nL⟩⟩ := x
  obtain ⟨rfl, rfl, rfl, rfl, rfl, rfl, rfl, hx, hb, hml, hr, hnm, hown, hts, hN, hK, hlocks, hA⟩ := C
  subst hpc
  subst hfs
  obtain ⟨Cn, T, N, ty0, hc, hj, hin, hlk, hty, hnn, hdecl, hpd⟩ := hF
  intro H locs ls hP hD hSv hl
  cases hfin : (T j).2.2.2 with
  | false => exact va_put hx hb hts hin ty0 hty hnn hown hK hP hD hSv 0 rfl hc j hj (hts _ hlk) (fun _ h => h) hfin hpd (v := v) hn hfit hl0 hd (fun H1 locs1 hP1 hD1 hS1 => kk H1 locs1 ls hP1 hD1 hS1 hl)
  | true => exact va_putF hx hb hts hin ty0 hty hnn hown hK hP hD hSv 0 rfl hc j hj (hts _ hlk) (fun _ h => h) hfin hnm hdecl hpd (v := v) hn hfit hl0 hd (fun H1 locs1 hP1 hD1 hS1 => kk H1 locs1 ls hP1 hD1 hS1 hl)
theorem kn_newa {atype : ArrayType} {t : Nat} {n : Int} {N' : Nat} {b0 : vp_A} (C : nCx x cc own cl0 n0 l0 R0 cA0 a0 As0) (hd : decode cc pc = .ok (.newarray atype, 2)) (pc' : Nat) (hpc : pc + 2 = pc') (harr : Cond.arrayClass (kT t) ∈ kG) (hty : newarray.typeOf atype = kT t) (ht : t < 4)
    (ha : ∀ cA : ClassId, vp_cell cA b0 = arrV cA N' (fun _ => defaultValue (kT t))) (hn : ¬ Int32.ofInt n < 0) (hN' : (Int32.ofInt n).toNatClampNeg = N') (hbytes : N' * componentBytes (kT t) ≤ 536870912) (hcells : cells + 1 ≤ R0.cells) (hslots : slots + N' ≤ R0.slots)
    (kk : ∀ q : Nat, KN x (cells + 1) (slots + N') Q ci fs (rest ++ [(q, .inl (cA0 t, b0))]) pc' (.ref q :: S)) : KN x cells slots Q ci fs rest pc (.int (Int32.ofInt n) :: S) := by
  obtain ⟨⟨p, l, e, R, s, m, args, below, meth, c⟩, ⟨D, cl, cA, a, As, A, nL⟩⟩ := x
  obtain ⟨rfl, rfl, rfl, rfl, rfl, rfl, rfl, hx, hb, hml, hr, hnm, hown, hts, hN, hK, hlocks, hA⟩ := C
  subst hpc
  intro H locs ls hP hD hSv hl
  refine va_newa hx hb (by rw [hty]; exact hts _ harr) hty hK hP hD hSv hA ha hn hN' hbytes hcells hslots hd (fun q cB H1 hK1 hP1 hD1 hS1 => ?_)
  have e1 : cB = cA t := by
    have h1 := (hK1.2 4 (cB, kT t) rfl).2
    have h2 : va_RA s (cA t) (kT t) := by
      match t, ht with
      | 0, _ => exact (hK.2 0 _ rfl).2
      | 1, _ => exact (hK.2 1 _ rfl).2
      | 2, _ => exact (hK.2 2 _ rfl).2
      | 3, _ => exact (hK.2 3 _ rfl).2
    match t, ht with
    | 0, _ => exact Option.some.inj (h1.symm.trans h2)
    | 1, _ => exact Option.some.inj (h1.symm.trans h2)
    | 2, _ => exact Option.some.inj (h1.symm.trans h2)
    | 3, _ => exact Option.some.inj (h1.symm.trans h2)
  subst e1
  exact kk q H1 locs ls hP1 hD1 hS1 hl
theorem kn_new {index c2 N : Nat} {Cn : String} {T : u_T} {ty : Nat → FieldType} (C : nCx x cc own cl0 n0 l0 R0 cA0 a0 As0) (hd : decode cc pc = .ok (.new index, 3)) (pc' : Nat) (hpc : pc + 3 = pc') (hc : cl0[c2]? = some (Cn, T, N)) (hin : ∀ w ∈ u_ws Cn T N, w ∈ kG) (hty : ∀ k, k < N → parseFieldDescriptor (T k).2.2.1 = some (ty k)) (h1 : Cond.classLink own index Cn ∈ kG) (h2 : Cond.instantiable Cn N ∈ kG) (h3 : Cond.initialized Cn ∈ kG) (hcells : cells + 1 ≤ R0.cells) (hslots : slots + N ≤ R0.slots)
    (kk : ∀ q : Nat, KN x (cells + 1) (slots + N) Q ci fs (rest ++ [(q, .inr (c2, nD ty N))]) pc' (.ref q :: S)) : KN x cells slots Q ci fs rest pc S := by
  obtain ⟨⟨p, l, e, R, s, m, args, below, meth, c⟩, ⟨D, cl, cA, a, As, A, nL⟩⟩ := x
  obtain ⟨rfl, rfl, rfl, rfl, rfl, rfl, rfl, hx, hb, hml, hr, hnm, hown, hts, hN, hK, hlocks, hA⟩ := C
  subst hpc
  intro H locs ls hP hD hSv hl
  exact va_new hx hb hts hin ty hty hown (hts _ h1) (hts _ h2) (hts _ h3) hK hP hD hSv hA hc (fun j hj => nD_at hj) hcells hslots hd (fun q H1 hP1 hD1 hS1 => kk q H1 locs ls hP1 hD1 hS1 hl)
theorem kn_obj {index : Nat} (C : nCx x cc own cl0 n0 l0 R0 cA0 a0 As0) (hd : decode cc pc = .ok (.invokespecial index, 3)) (pc' : Nat) (hpc : pc + 3 = pc') (h1 : Cond.methodLink own index Lib.objectInit ∈ kG) (h2 : Cond.instanceMethod Lib.objectInit ∈ kG) (h3 : Cond.code Lib.objectInit ⟨#[0xb1]⟩ 1 none ∈ kG) (hfr : 1 ≤ R0.frames) (hlo : 12 ≤ R0.locals) {b : Nat}
    (kk : KN x cells slots Q ci fs rest pc' []) : KN x cells slots Q ci fs rest pc [.ref b] := by
  obtain ⟨⟨p, l, e, R, s, m, args, below, meth, c⟩, ⟨D, cl, cA, a, As, A, nL⟩⟩ := x
  obtain ⟨rfl, rfl, rfl, rfl, rfl, rfl, rfl, hx, hb, hml, hr, hnm, hown, hts, hN, hK, hlocks, hA⟩ := C
  subst hpc
  intro H locs ls hP hD hSv hl
  exact W.objInit hx hb hown (hts _ h1) (hts _ h2) (hts _ h3) rfl (hl.1.trans hml.symm) rfl hd hfr hlo (kk H locs ls hP hD hSv hl)
theorem kn_return {out : (Nat → ClassId) → Nat → (Nat → Nat) → va_W} {mc ms : Nat} (C : nCx x cc own cl0 n0 l0 R0 cA0 a0 As0) (hd : decode cc pc = .ok (.return_, 1)) (hc : cells = mc) (hs : slots = ms) (b : Nat → Nat) (ho : out cA0 a0 b = (a0, .inr (ci, fs)) :: rest) : KN x cells slots (nQ x out mc ms) ci fs rest pc [] := by
  obtain ⟨⟨p, l, e, R, s, m, args, below, meth, c⟩, ⟨D, cl, cA, a, As, A, nL⟩⟩ := x
  obtain ⟨rfl, rfl, rfl, rfl, rfl, rfl, rfl, hx, hb, hml, hr, hnm, hown, hts, hN, hK, hlocks, hA⟩ := C
  subst hc
  subst hs
  intro H locs ls hP hD hSv hl
  exact W.vret hx hb hr (fun t ht hW => ⟨rfl, ⟨b, by rw [ht, ho]; exact hP, by rw [ho]; exact hD⟩, hSv.F ht⟩) hSv.2.2 hd
theorem kn_run {q c2 mc ms : Nat} {fs2 : List Value} {As : List Nat} {out : (Nat → ClassId) → Nat → (Nat → Nat) → va_W} {S0 : List Value} (C : nCx x cc own cl0 n0 l0 R0 cA0 a0 As0) (pc' : Nat) (hpc : pc + 3 = pc') (ar : Array Value)
    (hrun : match x with
      | ((p, l, e, R, s, m, args, below, meth, c), (D, cl, cA, a, _, A, nL)) => ∀ (H : Heap) (locs : List Loc) (ls : Array Slot), va_P D cl ((a, .inr (ci, fs)) :: (rest ++ [(q, .inr (c2, fs2))])) H → va_S A s.heap H locs → ls.size = nL →
        va_Run p l e R s m args below meth c H locs cells slots mc ms (F0 m pc ls S0) S (nPost D cl (fun z => z = q ∨ H.size ≤ z) (out cA q) ar) (fun z => z = q ∨ H.size ≤ z))
    (kk : ∀ b : Nat → Nat, KN x (cells + mc) (slots + ms) Q ci fs (rest ++ out cA0 q b) pc' S) : KN x cells slots Q ci fs (rest ++ [(q, .inr (c2, fs2))]) pc S0 := by
  obtain ⟨⟨p, l, e, R, s, m, args, below, meth, c⟩, ⟨D, cl, cA, a, As, A, nL⟩⟩ := x
  obtain ⟨rfl, rfl, rfl, rfl, rfl, rfl, rfl, hx, hb, hml, hr, hnm, hown, hts, hN, hK, hlocks, hA⟩ := C
  subst hpc
  intro H locs ls hP hD hSv hl
  have hru := hrun H locs ls hP hSv hl.1
  have hlast : ((a, .inr (ci, fs)) :: (rest ++ [(q, .inr (c2, fs2))]) : va_W)[rest.length + 1]? = some (q, .inr (c2, fs2)) := by simp
  have hpre : ∀ (k : Nat) (z : Nat × va_E), ((a, .inr (ci, fs)) :: rest : va_W)[k]? = some z → ((a, .inr (ci, fs)) :: (rest ++ [(q, .inr (c2, fs2))]) : va_W)[k]? = some z ∧ k < rest.length + 1 := fun k z hz => by
    have hk : k < ((a, .inr (ci, fs)) :: rest : va_W).length := (List.getElem?_eq_some_iff.mp hz).1
    refine ⟨?_, hk⟩
    rw [show ((a, .inr (ci, fs)) :: (rest ++ [(q, .inr (c2, fs2))]) : va_W) = ((a, .inr (ci, fs)) :: rest) ++ [(q, .inr (c2, fs2))] from rfl, List.getElem?_append_left hk]
    exact hz
  have hne : ∀ (k : Nat) (z : Nat × va_E), ((a, .inr (ci, fs)) :: rest : va_W)[k]? = some z → z.1 ≠ q ∧ z.1 < H.size := fun k z hz => by
    obtain ⟨h1, h2⟩ := hpre k z hz
    refine ⟨fun h3 => ?_, (hP k z h1).lt⟩
    have := hD.1 k (rest.length + 1) z (q, .inr (c2, fs2)) h1 hlast h3
    omega
  have hPp : va_P D cl ((a, .inr (ci, fs)) :: rest) H := fun k z hz => hP k z (hpre k z hz).1
  have hDp : va_D A ((a, .inr (ci, fs)) :: rest) := ⟨fun i j u v hi hj h => hD.1 i j u v (hpre i u hi).1 (hpre j v hj).1 h, fun k z hz => hD.2 k z (hpre k z hz).1⟩
  have hAq : A q := hD.2 _ _ hlast
  have hAA : ∀ z : Nat, (z = q ∨ H.size ≤ z) → A z := fun z hz => by
    rcases hz with rfl | hz
    · exact hAq
    · exact hA z (Nat.le_trans hSv.1 hz)
  intro T hT X
  obtain ⟨v, st₀, t, T', L2, h0, X', hL2, e1, e2, ⟨hv, ⟨b, hPb, hDb⟩, hF⟩, st⟩ := hru T hT X
  have hv : v = none := by injection hv
  subst hv
  have hF1 : H.size ≤ t.heap.size := by have := hF.1; rw [h0] at this; exact this
  have hF2 : ∀ z : Nat, z < H.size → ¬ (z = q ∨ H.size ≤ z) → t.heap[z]? = H[z]? := by have := hF.2; rw [h0] at this; exact this
  have hP2 : va_P D cl ((a, .inr (ci, fs)) :: (rest ++ out cA q b)) t.heap :=
    va_P.app (w1 := (a, .inr (ci, fs)) :: rest) (hPp.kept fun k z hz => hF2 z.1 (hne k z hz).2 (fun h => by
      rcases h with h | h
      · exact (hne k z hz).1 h
      · exact absurd (hne k z hz).2 (Nat.not_lt.mpr h))) hPb
  have hD2 : va_D A ((a, .inr (ci, fs)) :: (rest ++ out cA q b)) :=
    va_D.app (w1 := (a, .inr (ci, fs)) :: rest) hDp (hDb.weaken fun _ z _ hz => hAA z.1 hz) fun i j u w hi hj h => by
      have h1 := hne i u hi
      have h2 := hDb.2 j w hj
      rw [← h] at h2
      rcases h2 with h2 | h2
      · exact h1.1 h2
      · exact absurd h1.2 (Nat.not_lt.mpr h2)
  obtain ⟨t2, a1, b1⟩ := kk b T'.heap (locs ++ L2) ls (by rw [e1]; exact hP2) hD2
    ⟨Nat.le_trans hSv.1 (by rw [e1]; exact hF1), fun z h1 h2 => by rw [e1, hF2 z (Nat.lt_of_lt_of_le h1 hSv.1) (fun h => h2 (hAA z h))]; exact hSv.2.1 z h1 h2, fun z hz => by
      rcases List.mem_append.mp hz with h | h
      · exact hSv.2.2 z h
      · exact hAA _ (hL2 z h)⟩ hl T' rfl X'
  exact ⟨t2, st t2 a1, b1⟩
theorem nRoom {As : List Value} {S : List Value} (h : (S.map fun v => v.category).sum ≤ 8) : (S.map fun v => v.category).sum ≤ 8 := h
theorem kn_callI {index q c2 mc ms : Nat} {fs2 : List Value} {y : MethodName} {bytes : ByteArray} {maxL : Nat} {rm : Room} {As : List Nat} {out : (Nat → ClassId) → Nat → (Nat → Nat) → va_W} {S0 : List Value} (C : nCx x cc own cl0 n0 l0 R0 cA0 a0 As0) (hd : decode cc pc = .ok (.invokespecial index, 3)) (pc' : Nat) (hpc : pc + 3 = pc')
    (hc : kCb own index y bytes maxL none As.length) (hn : y.name = "<init>") (hi : Cond.instanceMethod y ∈ kG) (hM : nMet l0 y bytes maxL rm cl0 c2 fs2 As out mc ms) (hrm : rm.cells = mc ∧ rm.slots = ms) (hR : rm.frames + 1 ≤ R0.frames ∧ 8 + (maxL + 11) + rm.locals ≤ R0.locals) (hcs : cells + mc ≤ R0.cells ∧ slots + ms ≤ R0.slots)
    (hS0 : S0 = (As.map Value.ref).reverse ++ .ref q :: S) (hcat : (S.map (fun v => v.category)).sum ≤ 8)
    (kk : ∀ b : Nat → Nat, KN x (cells + mc) (slots + ms) Q ci fs (rest ++ out cA0 q b) pc' S) : KN x cells slots Q ci fs (rest ++ [(q, .inr (c2, fs2))]) pc S0 := by
  refine kn_run (As := As) (out := out) (mc := mc) (ms := ms) C pc' hpc ((q :: As).map Value.ref).toArray ?_ kk
  obtain ⟨⟨p, l, e, R, s, m, args, below, meth, c⟩, ⟨D, cl, cA, a, As1, A, nL⟩⟩ := x
  obtain ⟨rfl, rfl, rfl, rfl, rfl, rfl, rfl, hx, hb, hml, hr, hnm, hown, hts, hN, hK, hlocks, hA⟩ := C
  intro H locs ls hP hSv hls
  subst hS0
  refine va_runI (As := As.map Value.ref) (b := q) (rest := S) ⟨hx, hb, hml, hown, hts⟩ (hM D cA q (fun z => z = q ∨ H.size ≤ z)) ⟨hc.to hts hrm.1 hrm.2 hR, hn, hts _ hi⟩ ⟨nPre.blind, fun U hU hW => ⟨rfl, fun k z hz => ?_, va_K.moved hW.alike hK, fun z => by rw [hU], fun w hw => kNs_warm (List.mem_filter.mp hw).2 hW (hN w hw)⟩⟩ rfl (by simp) hls rfl (lv_room hcat) hd hcs
  rw [hU]
  cases k with
  | zero =>
    cases hz
    exact hP (rest.length + 1) (q, .inr (c2, fs2)) (by simp)
  | succ k => cases hz
theorem kn_callN {index q c2 mc ms : Nat} {fs2 : List Value} {y : MethodName} {host : String} {bytes : ByteArray} {maxL : Nat} {rm : Room} {As : List Nat} {out : (Nat → ClassId) → Nat → (Nat → Nat) → va_W} {S0 : List Value} (C : nCx x cc own cl0 n0 l0 R0 cA0 a0 As0) (hd : decode cc pc = .ok (.invokespecial index, 3)) (pc' : Nat) (hpc : pc + 3 = pc')
    (hlk : Cond.methodLinkNest own index y host ∈ kNs) (hini : Cond.initialized y.cls ∈ kG) (hcd : Cond.code y bytes maxL none ∈ kG) (hy : y.cls ≠ "java/lang/invoke/MethodHandle" ∧ y.cls ≠ "java/lang/invoke/VarHandle" ∧ (parseMethodDescriptor y.desc).map (fun d => d.parameters.length) = some As.length) (hn : y.name = "<init>") (hi : Cond.instanceMethod y ∈ kG) (hM : nMet l0 y bytes maxL rm cl0 c2 fs2 As out mc ms) (hrm : rm.cells = mc ∧ rm.slots = ms) (hR : rm.frames + 1 ≤ R0.frames ∧ 8 + (maxL + 11) + rm.locals ≤ R0.locals) (hcs : cells + mc ≤ R0.cells ∧ slots + ms ≤ R0.slots)
    (hS0 : S0 = (As.map Value.ref).reverse ++ .ref q :: S) (hcat : (S.map (fun v => v.category)).sum ≤ 8)
    (kk : ∀ b : Nat → Nat, KN x (cells + mc) (slots + ms) Q ci fs (rest ++ out cA0 q b) pc' S) : KN x cells slots Q ci fs (rest ++ [(q, .inr (c2, fs2))]) pc S0 := by
  refine kn_run (As := As) (out := out) (mc := mc) (ms := ms) C pc' hpc ((q :: As).map Value.ref).toArray ?_ kk
  obtain ⟨⟨p, l, e, R, s, m, args, below, meth, c⟩, ⟨D, cl, cA, a, As1, A, nL⟩⟩ := x
  obtain ⟨rfl, rfl, rfl, rfl, rfl, rfl, rfl, hx, hb, hml, hr, hnm, hown, hts, hN, hK, hlocks, hA⟩ := C
  intro H locs ls hP hSv hls
  subst hS0
  have good : ∀ w ∈ kG, ∀ (a' : Array Value) (U : State), s.WarmedH U.vm → w.before a' U = true := fun w hw a' U hW => word_at hW (good_of_word (List.mem_filter.mp hw).2) (hts w hw)
  have cw : va_CN R s args own index y host bytes maxL none (Cond.code y bytes maxL none :: kG) rm mc ms As.length := by
    refine ⟨⟨hrm.1, hrm.2, hR.1, hR.2, fun w hw => ?_, List.mem_cons_self⟩, hts _ hcd, hts _ hini, ⟨hy.1, hy.2.1⟩, fun sig hs => ?_, va_Nw.use rfl (hN _ hlk)⟩
    · rcases List.mem_cons.mp hw with rfl | hw
      · exact good _ hcd
      · exact good w hw
    · have h5 := hy.2.2
      rw [hs] at h5
      exact (Option.some.inj h5).symm
  refine va_runIN (As := As.map Value.ref) (b := q) (rest := S) ⟨hx, hb, hml, hown, hts⟩ (hM D cA q (fun z => z = q ∨ H.size ≤ z)) ⟨cw, hn, hts _ hi⟩ ⟨nPre.blind, fun U hU hW => ⟨rfl, fun k z hz => ?_, va_K.moved hW.alike hK, fun z => by rw [hU], fun w hw => kNs_warm (List.mem_filter.mp hw).2 hW (hN w hw)⟩⟩ rfl (by simp) hls rfl (lv_room hcat) hd hcs
  rw [hU]
  cases k with
  | zero =>
    cases hz
    exact hP (rest.length + 1) (q, .inr (c2, fs2)) (by simp)
  | succ k => cases hz
end KNR

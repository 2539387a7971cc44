/-! THE LAW: rows of its own: the script, the helpers, the end -/
/-- the script, under the name of cell 97 -/
def kSc (x : kX) (N : Nat) (xs : Nat → Int32) : Prop := match x with
  | ((_, _, _, _, s, _, _, _, _, _), (_, _, _, ad, _, _, A, _)) => va_X (ad 97) N xs s s.heap ∧ ad 97 < s.heap.size ∧ ¬ A (ad 97) ∧ N ≤ 3072
def kCh (own : String) (index : Nat) (y : MethodName) (bytes : ByteArray) (maxL : Nat) (hh : List (Nat × Nat × Nat × Nat)) (n : Nat) : Prop :=
  Cond.methodLink own index y ∈ kG ∧ Cond.initialized y.cls ∈ kG ∧ Cond.codeWith y bytes maxL (some .int) hh ∈ kG ∧ (y.cls ≠ "java/lang/invoke/MethodHandle" ∧ y.cls ≠ "java/lang/invoke/VarHandle") ∧ (parseMethodDescriptor y.desc).map (fun d => d.parameters.length) = some n ∧ Cond.static y ∈ kG
section KLR
variable {x : kX} {cc : ByteArray} {own : String} {ret : Option FieldType} {Y0 : List kD} {n0 : Nat} {l0 : Launch} {R0 : Room} {cells slots : Nat} {Q : State → Prop} {σ : kM} {pc : Nat} {L : List (Option kV)} {S : List kV} {N : Nat} {xs : Nat → Int32}
theorem kw_slen (C : kCx x cc own ret kcl Y0 n0 l0 R0) (hs : kSc x N xs) (hd : decode cc pc = .ok (.arraylength, 1)) (pc' : Nat) (hpc : pc + 1 = pc') (k : KW x cells slots Q σ pc' L (ki (N : Int) :: S)) : KW x cells slots Q σ pc L (kr 97 :: S) := by
  obtain ⟨⟨p, l, e, R, s, m, args, below, meth, c⟩, ⟨D, cl, cA, ad, ae, Y, A, nL⟩⟩ := x
  obtain ⟨rfl, rfl, rfl, rfl, rfl, hEn, hx, hb, hml, hr, hown, hts, hK, hlocks, hA⟩ := C
  obtain ⟨h1, h2, h3, h4⟩ := hs
  subst hpc
  intro hg hL hS H locs ls hP hD hSv hl
  have hk := k hg hL (kS1' ⟨by omega, by omega⟩ (kS1 hS).2) H locs ls hP hD hSv hl
  have e1 : kc ad ae (ki (N : Int)) = .int (Int32.ofNat N) := by
    show Value.int (Int32.ofInt (N : Int)) = _
    rfl
  rw [List.map_cons, e1] at hk
  exact va_slen hx hb h1 h2 h3 hSv hd hk
theorem kw_sld {i : Int} (C : kCx x cc own ret kcl Y0 n0 l0 R0) (hs : kSc x N xs) (hd : decode cc pc = .ok (.iaload, 1)) (pc' : Nat) (hpc : pc + 1 = pc') (h0 : 0 ≤ i) (h9 : i < (N : Int)) (k : KW x cells slots Q σ pc' L (ki (xs i.toNat).toInt :: S)) : KW x cells slots Q σ pc L (ki i :: kr 97 :: S) := by
  obtain ⟨⟨p, l, e, R, s, m, args, below, meth, c⟩, ⟨D, cl, cA, ad, ae, Y, A, nL⟩⟩ := x
  obtain ⟨rfl, rfl, rfl, rfl, rfl, hEn, hx, hb, hml, hr, hown, hts, hK, hlocks, hA⟩ := C
  obtain ⟨h1, h2, h3, h4⟩ := hs
  subst hpc
  intro hg hL hS H locs ls hP hD hSv hl
  obtain ⟨hi, hS⟩ := kS1 hS
  have hi : kR32 i := hi
  have hk := k hg hL (kS1' (k32_rng _) (kS1 hS).2) H locs ls hP hD hSv hl
  have e1 : kc ad ae (ki (xs i.toNat).toInt) = .int (xs (Int32.ofInt i).toNatClampNeg) := by
    show Value.int (Int32.ofInt (xs i.toNat).toInt) = _
    rw [k32_of, k32_cl hi]
  rw [List.map_cons, e1] at hk
  exact va_sld hx hb h1 h2 h3 hSv (k32_in hi h0 h9) hd hk
theorem kw_callSH {index mc1 ms1 : Nat} {y : MethodName} {bytes : ByteArray} {maxL : Nat} {hh : List (Nat × Nat × Nat × Nat)} {rm : Room} {As S0 : List kV} {r : Int} {σ1 : kM} (C : kCx x cc own ret kcl Y0 n0 l0 R0) (hE : kEx (kSt0 x)) (hd : decode cc pc = .ok (.invokestatic index, 3)) (pc' : Nat) (hpc : pc + 3 = pc')
    (hc : kCh own index y bytes maxL hh As.length) (hM : kHet l0 y bytes maxL hh rm Y0 σ As r σ1 mc1 ms1) (hrm : rm.cells = mc1 ∧ rm.slots = ms1) (hR : rm.frames + 1 ≤ R0.frames ∧ 8 + (maxL + 11) + rm.locals ≤ R0.locals) (hcs : cells + mc1 ≤ R0.cells ∧ slots + ms1 ≤ R0.slots)
    (hS0 : S0 = As.reverse ++ S) (hcat : (S.map (fun v => if kcat1 v then 1 else 2)).sum ≤ 8) (kk : KW x (cells + mc1) (slots + ms1) Q σ1 pc' L (ki r :: S)) : KW x cells slots Q σ pc L S0 := by
  obtain ⟨⟨p, l, e, R, s, m, args, below, meth, c⟩, ⟨D, cl, cA, ad, ae, Y, A, nL⟩⟩ := x
  obtain ⟨rfl, rfl, rfl, rfl, rfl, hEn, hx, hb, hml, hr, hown, hts, hK, hlocks, hA⟩ := C
  subst hpc
  intro hg hL hS H locs ls hP hD hSv hl
  subst hS0
  have hA' : ∀ v ∈ As, kok v := fun v hv => hS v (List.mem_append_left _ (List.mem_reverse.mpr hv))
  have hcs2 := kcat_sum (ad := ad) (ae := ae) hcat
  obtain ⟨w1, w2, w3, w4, w5, w6⟩ := hc
  have good : ∀ w ∈ kG, ∀ (a' : Array Value) (U : State), s.WarmedH U.vm → w.before a' U = true := fun w hw a' U hW => word_at hW (good_of_word (List.mem_filter.mp hw).2) (hts w hw)
  have hpre : ∀ U : State, U.heap = H → s.WarmedH U.vm → kPre D kcl cA ad ae Y A σ (As.map (kc ad ae)) (As.map (kc ad ae)).toArray U ∧ kEx U := fun U hU hW => ⟨⟨rfl, by rw [hU]; exact hP, va_K.moved hW.alike hK, hD, fun q hq => hA q (by rw [hU] at hq; exact Nat.le_trans hSv.1 hq), hEn.kept hW (by rw [hU]; exact hSv.2.1), hg⟩, kEx.warm hW hE⟩
  have hbl : FrameBlind (fun a U => kPre D kcl cA ad ae Y A σ (As.map (kc ad ae)) a U ∧ kEx U) := fun a U g mk h => ⟨kPre.blind a U g mk h.1, kEx.warm (s := U) (U := U.calling g mk a) (State.WarmedH.refl U) h.2⟩
  have hru := vx_runSW (As := As.map (kc ad ae)) (rest := S.map (kc ad ae)) (n := As.length) ⟨hx, hb, hml, hown, hts⟩ (hM hA' D cA ad ae A) ⟨⟨hrm.1, hrm.2, hR.1, hR.2, fun w hw => by
      rcases List.mem_cons.mp hw with rfl | hw
      · exact good _ w3
      · exact good _ hw, List.mem_cons_self⟩, hts _ w3, hts _ w2, w4, fun sig hsg => by
      rw [hsg] at w5
      exact (Option.some.inj w5).symm, hts _ w1, hts _ w6⟩ ⟨hbl, hpre⟩ (hg := rfl) (by simp) (g := F0 m pc ls (List.map (kc ad ae) (As.reverse ++ S))) hl.1 (by simp) (lv_room hcs2) hd ⟨hcs.1, hcs.2⟩ (below := below) (meth := meth) (e := e) (locs := locs)
  intro T0 hT0 X
  obtain ⟨v, st₀, t, T', L2, h0, X', hL2, e1, e2, ⟨hv, hP1, hF, hg1, hr1⟩, st⟩ := hru T0 hT0 X
  have hv : v = some (kc ad ae (ki r)) := by injection hv
  subst hv
  have hF1 : H.size ≤ t.heap.size := by have := hF.1; rw [h0] at this; exact this
  have hF2 : ∀ q : Nat, q < H.size → ¬ A q → t.heap[q]? = H[q]? := by have := hF.2; rw [h0] at this; exact this
  obtain ⟨t2, a1, b1⟩ := kk hg1 hL (fun u hu => by
      rcases List.mem_cons.mp hu with h | h
      · rw [h]
        exact hr1 _ rfl
      · exact hS u (List.mem_append_right _ h)) T'.heap (locs ++ L2) ls (by rw [e1]; exact hP1) (kws_D hD)
    ⟨Nat.le_trans hSv.1 (by rw [e1]; exact hF1), fun q h1 h2 => by rw [e1, hF2 q (Nat.lt_of_lt_of_le h1 hSv.1) h2]; exact hSv.2.1 q h1 h2, fun q hq => by
      rcases List.mem_append.mp hq with h | h
      · exact hSv.2.2 q h
      · exact hL2 q h⟩ hl T' rfl X'
  exact ⟨t2, st t2 a1, b1⟩
end KLR

/-! THE START: what is known of constants and of the thrown classes -/
theorem nfl_in {k : Nat} {c : Cond} (h : nfl[k]? = some c) {args : Array Value} {s : State} (hgv : (Jvm.Cond.and given_1 narrow_1).before args s = true) : c.before args s = true := by
  have h2 : narrow_1.before args s = true := by
    rw [Cond.before_and, Bool.and_eq_true] at hgv
    exact hgv.2
  exact flat_of_before _ h2 _ (List.mem_of_getElem? h)
theorem kTx_inj : ∀ i : Nat, i < 19 → ∀ j : Nat, j < 19 → kLen.getD i 0 = kLen.getD j 0 → (∀ t : Nat, t < kLen.getD i 0 → (kByt.getD i []).getD t 0 = (kByt.getD j []).getD t 0) → i = j := by decide +kernel
theorem kLen_lt : ∀ i : Nat, i < 19 → kLen.getD i 0 < 10 := by decide +kernel
section EN3
variable {s : State} {b : Nat} {A : Nat → Prop}
/-- a text, alone -/
theorem en_txt (hgv : (Jvm.Cond.and given_1 narrow_1).before #[Value.ref b] s = true) (hA : ∀ a : Nat, a < s.heap.size → ¬ A a) (i : Nat) : ∃ q : Nat × Nat, i < 19 → (nT i).eval #[Value.ref b] s none [] s = some (.ref q.1) ∧ va_O "java/lang/String" q.1 A s s.heap ∧ va_OF "java/lang/String" "coder" "B" (.int 0) q.1 A s s.heap ∧ va_OF "java/lang/String" "value" "[B" (.ref q.2) q.1 A s s.heap ∧ va_T .byte q.2 (kLen.getD i 0) (fun j => .int ((kByt.getD i []).getD j 0)) A s s.heap := by
  by_cases hi : i < 19
  · obtain ⟨adK, adV, h1, h2⟩ := vk_Sof (args := #[Value.ref b]) (s := s) (N := 1) (tm := fun _ => nT i) (len := [kLen.getD i 0]) (byt := [kByt.getD i []]) (A := A)
      (fun k hk => by
        have := kLen_lt i hi
        cases k with
        | zero => show kLen.getD i 0 < 2 ^ 31; omega
        | succ k => omega)
      (fun k _ => nfl_in (nx_sx i hi) hgv) (fun k _ => nfl_in (nx_sc i hi) hgv) (fun k _ => nfl_in (nx_sa i hi) hgv)
      (fun k hk => by
        cases k with
        | zero => exact nfl_in (nx_sl i hi) hgv
        | succ k => omega)
      (fun k hk j hj => by
        cases k with
        | zero => exact nfl_in (nx_se i hi j hj) hgv
        | succ k => omega)
      (fun k j hk hj hkj => by omega) hA
    obtain ⟨a1, a2, a3, a4⟩ := h1.1 0 (by omega)
    exact ⟨(adK 0, adV 0), fun _ => ⟨h2 0 (by omega), a1, a2, a3, a4⟩⟩
  · exact ⟨(0, 0), fun h => absurd h hi⟩
theorem va_OF.uniq {o n d : String} {v w : Value} {a : Nat} {U : State} {H : Heap} (h : va_OF o n d v a A U H) (h' : va_OF o n d w a A U H) : v = w := by
  obtain ⟨cf, k, fi, f, cell, h1, h2, h3, h4, h5, h6⟩ := h
  obtain ⟨cf', k', fi', f', cell', g1, g2, g3, g4, g5, g6⟩ := h'
  rw [h1] at g1
  cases g1
  rw [h3] at g3
  cases g3
  rw [h5] at g5
  exact Option.some.inj g5
theorem va_T.len {ty : FieldType} {t N N' : Nat} {f f' : Nat → Value} {U : State} {H : Heap} (h : va_T ty t N f A U H) (h' : va_T ty t N' f' A U H) (hN : N < 100) (hN' : N' < 100) : N = N' ∧ ∀ j : Nat, j < N → f j = f' j := by
  obtain ⟨cell, h1, h2, h3, h4, h5, h6, h7⟩ := h
  obtain ⟨cell', g1, g2, g3, g4, g5, g6, g7⟩ := h'
  rw [h1] at g1
  cases g1
  have e : N = N' := by
    have e1 := h5.symm.trans g5
    have e2 := congrArg Int32.toNatClampNeg e1
    rw [Int32.toNatClampNeg_ofNat_of_lt (by omega), Int32.toNatClampNeg_ofNat_of_lt (by omega)] at e2
    exact e2
  subst e
  refine ⟨rfl, fun j hj => ?_⟩
  have e3 := (h6 j hj).symm.trans (g6 j hj)
  exact Option.some.inj e3
/-- what is known of constants, at the law's entry -/
theorem kEn_start (hts : ∀ w ∈ lw_tbl, w.before #[Value.ref b] s = true) (hgv : (Jvm.Cond.and given_1 narrow_1).before #[Value.ref b] s = true) (hA : ∀ a : Nat, a < s.heap.size → ¬ A a) : ∃ ae : Nat → Nat, kEn ae A s s.heap := by
  obtain ⟨adE, hE, hEv⟩ := va_Enof2 (args := #[Value.ref b]) (s := s) (E := "PoetFines$Word") (d := "LPoetFines$Word;") (nm := kNm) (F := [("PoetFines$Word", "place", "I", kPlL), ("PoetFines$Word", "rules", "I", kRuL)]) (A := A) (fun i hi => hts _ (nw_ln i hi)) (hts _ nw_iw) (fun i hi => nfl_in (nx_ex i hi) hgv)
    (fun q hq i hi => by
      rcases List.mem_cons.mp hq with rfl | hq
      · exact nfl_in (nx_pl i hi) hgv
      · rw [List.mem_singleton] at hq
        subst hq
        exact nfl_in (nx_ru i hi) hgv)
    (fun i j hi hj hij => (nx_ne i hi j hj hij).imp (fun h => nfl_in h hgv) (fun h => nfl_in h hgv)) hA
  obtain ⟨ad, had⟩ := Classical.axiomOfChoice (en_txt (A := A) hgv hA)
  obtain ⟨tA, hAv, hAT⟩ := va_Tof (args := #[Value.ref b]) (s := s) (tm := nA) (ty := .object "PoetFines$Word") (N := 18) (f := fun j => .ref (adE j)) (A := A) (by decide) (nfl_in nx_aa hgv) (va_eqt (nfl_in nx_an hgv)) (fun j hj => va_eqv (nfl_in (nx_al j hj) hgv) (hEv j hj)) hA
  have hS8 := va_Zqof (A := A) (hts _ nw_lp) (hts _ nw_ip) (nfl_in nx_si hgv) hA
  have hS9 : ∃ t7 : Nat, va_Z "jdk/internal/util/Preconditions" "SIOOBE_FORMATTER" "Ljava/util/function/BiFunction;" .null A s s.heap ∨ va_Z "jdk/internal/util/Preconditions" "SIOOBE_FORMATTER" "Ljava/util/function/BiFunction;" (.ref t7) A s s.heap := by
    rcases hS8 with h | ⟨t, h⟩
    · exact ⟨0, Or.inl h⟩
    · exact ⟨t, Or.inr h⟩
  obtain ⟨t7, hS7⟩ := hS9
  obtain ⟨ae, hae⟩ : ∃ ae : Nat → Nat, ae = fun n => if n = 3 then tA else if n = 7 then t7 else if n % 4 = 0 then adE (n / 4) else if n % 4 = 1 then (ad (n / 4)).1 else (ad (n / 4)).2 := ⟨_, rfl⟩
  have e3 : ae 3 = tA := by rw [hae]; rfl
  have e7 : ae 7 = t7 := by rw [hae]; rfl
  have e0 : ∀ i : Nat, ae (4 * i) = adE i := fun i => by
    rw [hae]
    show (if 4 * i = 3 then tA else if 4 * i = 7 then t7 else if 4 * i % 4 = 0 then adE (4 * i / 4) else if 4 * i % 4 = 1 then (ad (4 * i / 4)).1 else (ad (4 * i / 4)).2) = _
    rw [if_neg (by omega), if_neg (by omega), if_pos (by omega), show 4 * i / 4 = i by omega]
  have e1 : ∀ i : Nat, ae (4 * i + 1) = (ad i).1 := fun i => by
    rw [hae]
    show (if 4 * i + 1 = 3 then tA else if 4 * i + 1 = 7 then t7 else if (4 * i + 1) % 4 = 0 then adE ((4 * i + 1) / 4) else if (4 * i + 1) % 4 = 1 then (ad ((4 * i + 1) / 4)).1 else (ad ((4 * i + 1) / 4)).2) = _
    rw [if_neg (by omega), if_neg (by omega), if_neg (by omega), if_pos (by omega), show (4 * i + 1) / 4 = i by omega]
  have e2 : ∀ i : Nat, ae (4 * i + 2) = (ad i).2 := fun i => by
    rw [hae]
    show (if 4 * i + 2 = 3 then tA else if 4 * i + 2 = 7 then t7 else if (4 * i + 2) % 4 = 0 then adE ((4 * i + 2) / 4) else if (4 * i + 2) % 4 = 1 then (ad ((4 * i + 2) / 4)).1 else (ad ((4 * i + 2) / 4)).2) = _
    rw [if_neg (by omega), if_neg (by omega), if_neg (by omega), if_neg (by omega), show (4 * i + 2) / 4 = i by omega]
  clear hae
  have f0 : (fun i : Nat => ae (4 * i)) = adE := funext e0
  have f0' : (fun j : Nat => Value.ref (ae (4 * j))) = fun j => Value.ref (adE j) := funext fun j => by rw [e0]
  have f1 : (fun i : Nat => ae (4 * i + 1)) = fun i => (ad i).1 := funext e1
  have f1' : (fun i : Nat => Value.ref (ae (4 * i + 1))) = fun i => Value.ref (ad i).1 := funext fun i => by rw [e1]
  have f2 : (fun i : Nat => ae (4 * i + 2)) = fun i => (ad i).2 := funext e2
  refine ⟨ae, fun w hw => va_Nw.of (kB_on (List.mem_filter.mp hw).2) (hts w (List.mem_filter.mp hw).1), vx_Zqof (hts _ nw_lu) (hts _ nw_it) (nfl_in nx_us hgv) hA, vx_Zqof (hts _ nw_ls) (hts _ nw_it) (nfl_in nx_ss hgv) hA, fun q hq => ?_, ?_, ?_, ?_, ?_, ?_, ?_, ?_, ?_, ?_⟩
  · obtain ⟨i, hi⟩ := List.getElem?_of_mem hq
    have hl : i < 8 := (List.getElem?_eq_some_iff.mp hi).1
    obtain ⟨a, c, cell, k, q1, -⟩ := Cond.exactly_spec (nfl_in (nx_st i hl) hgv)
    have hw := hts _ (nw_st i hl)
    have eq : kSt.getD i ("", 0, "") = q := by
      rw [List.getD_eq_getElem?_getD, hi]
      rfl
    rw [eq] at q1 hw
    exact ⟨a, vk_R.of hw q1⟩
  · rw [f0]
    exact hE
  · rw [e3]
    exact va_Zof (hts _ nw_la) (hts _ nw_iw) hAv hA
  · rw [e3, f0']
    exact hAT
  · rw [f0, f1']
    exact va_Efof (args := #[Value.ref b]) (nm := kNm) (tm := nT) hEv (fun i hi => nfl_in (nx_tx i hi) hgv) (fun i hi => (had i (by omega)).1) hA
  · rw [f1, f2]
    refine ⟨fun i hi => (had i hi).2, fun i j hi hj e => ?_⟩
    obtain ⟨-, -, -, a3, a4⟩ := had i hi
    obtain ⟨-, -, -, b3, b4⟩ := had j hj
    have e : (ad i).1 = (ad j).1 := e
    rw [← e] at b3
    have e4 : (ad i).2 = (ad j).2 := Value.ref.inj (a3.uniq b3)
    rw [← e4] at b4
    have l1 := kLen_lt i hi
    have l2 := kLen_lt j hj
    obtain ⟨g1, g2⟩ := a4.len b4 (by omega) (by omega)
    exact kTx_inj i hi j hj g1 (fun t ht => Value.int.inj (g2 t ht))
  · rw [e1]
    exact vk_R.of (hts _ nw_si) (had 18 (by decide)).1
  · exact va_Zof (hts _ nw_lc) (hts _ nw_is) (va_eqt (nfl_in nx_cs hgv)) hA
  · rw [e7]
    exact hS7
  · exact va_Nw.of rfl (hts _ nw_fn)
theorem kEx_start (hts : ∀ w ∈ lw_tbl, w.before #[Value.ref b] s = true) (hgv : (Jvm.Cond.and given_1 narrow_1).before #[Value.ref b] s = true) : kEx s := by
  obtain ⟨c1, t1, a1, a2, a3⟩ := Cond.castable_spec (hts _ nw_cn)
  obtain ⟨c2, t2, b1, b2, b3⟩ := Cond.castable_spec (hts _ nw_ci)
  have ea : c1 = t1 := Option.some.inj (a1.symm.trans a2)
  have eb : c2 = t2 := Option.some.inj (b1.symm.trans b2)
  rw [← ea] at a3
  rw [← eb] at b3
  refine ⟨c1, c2, a1, b1, a3, b3, ?_⟩
  have h := nfl_in nx_ci hgv
  cases hv : s.vm.assignable c2 c1 with
  | false => rfl
  | true => simp [Cond.before, Cond.holds, Cond.value, a1, b1, hv] at h
end EN3

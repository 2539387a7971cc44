/-! THE LAW: an argument out of the script; the end of a call that may throw -/
abbrev lL (i : Nat) : List (Option kV) := [some (kr 97), some (kr 0), some (kr 71), some (kr 96), some (ki (i : Int)), none, none]
theorem lx_ix {i t : Nat} (h : i + t < 100000) : ((i + t : Nat) : Int) = w32 ((i : Int) + (t : Int)) := by
  rw [w32_s (by omega) (by omega)]
  omega
theorem kcmp_self (a : Int) : kcmp a a = 0 := by
  unfold kcmp lg_cmp
  simp
section KLT
variable {x : kX} {cc : ByteArray} {own : String} {ret : Option FieldType} {Y0 : List kD} {n0 : Nat} {l0 : Launch} {R0 : Room} {cells slots : Nat} {Q : State → Prop} {σ : kM} {pc : Nat} {L : List (Option kV)} {S : List kV} {N : Nat} {xs : Nat → Int32} {i : Nat}
theorem kw_arg {t : Nat} (C : kCx x cc own ret kcl Y0 n0 l0 R0) (hs : kSc x N xs) (hi : i + 6 ≤ N) (ht : t < 6) (d0 : decode cc pc = .ok (.aload_n 0, 1)) (d1 : decode cc (pc + 1) = .ok (.iload 4, 2)) (d2 : decode cc (pc + 3) = .ok (.iconst (t : Int), 1)) (d3 : decode cc (pc + 4) = .ok (.iadd, 1)) (d4 : decode cc (pc + 5) = .ok (.iaload, 1)) (hL0 : L[0]? = some (some (kr 97))) (hL4 : L[4]? = some (some (ki (i : Int)))) (pc' : Nat) (hpc : pc + 6 = pc') (k : KW x cells slots Q σ pc' L (ki (xs (i + t)).toInt :: S)) : KW x cells slots Q σ pc L S := by
  have hN : N ≤ 3072 := by
    obtain ⟨⟨p, l, e, R, s, m, args, below, meth, c⟩, ⟨D, cl, cA, ad, ae, Y, A, nL⟩⟩ := x
    exact hs.2.2.2
  subst hpc
  refine kw_aload_n C d0 rfl (pc + 1) rfl hL0 ?_
  refine kw_iload C d1 (pc + 3) rfl hL4 ?_
  refine kw_iconst (v := (t : Int)) C d2 (pc + 4) rfl rfl ⟨by omega, by omega⟩ ?_
  refine kw_iadd C d3 (pc + 5) rfl ?_
  refine kw_top (lx_ix (i := i) (t := t) (by omega)) ?_
  exact kw_sld C hs d4 (pc + 6) rfl (by omega) (by omega) k
end KLT
section KLU
variable {x : kX} {l0 : Launch} {cells slots : Nat} {Q : State → Prop} {σ μ : kM} {z : Nat → Int} {pc : Nat} {i : Nat}
theorem kw_tail {k b off1 off2 off3 off4 : Int} (C : kCx x code "PoetFinesLaw" (some .boolean) kcl yL 7 l0 room_1) (hc : kCv "PoetFinesLaw" 126 ky_M_thrown prog_14_method_2_code 1 (some .int) 0 "PoetFinesModel") (hcs : cells ≤ 601024 ∧ slots ≤ 7293034) (ht : μ 0 0 = k) (hz : k = 0 → z 0 = b)
    (d0 : decode code pc = .ok (.istore 6, 2)) (d1 : decode code (pc + 2) = .ok (.aload_n 2, 1)) (d2 : decode code (pc + 3) = .ok (.invokevirtual 126, 3)) (d3 : decode code (pc + 6) = .ok (.iload 5, 2)) (d4 : decode code (pc + 8) = .ok (.if_icmp .eq off1, 3)) (o1 : ((pc + 8 : Nat) : Int) + off1 = ((pc + 13 : Nat) : Int)) (d5 : decode code (pc + 13) = .ok (.iload 5, 2)) (d6 : decode code (pc + 15) = .ok (.ifCond .ne off2, 3)) (o2 : ((pc + 15 : Nat) : Int) + off2 = ((pc + 30 : Nat) : Int)) (d7 : decode code (pc + 18) = .ok (.aload_n 3, 1)) (d8 : decode code (pc + 19) = .ok (.iconst 0, 1)) (d9 : decode code (pc + 20) = .ok (.laload, 1)) (d10 : decode code (pc + 21) = .ok (.iload 6, 2)) (d11 : decode code (pc + 23) = .ok (.i2l, 1)) (d12 : decode code (pc + 24) = .ok (.lcmp, 1)) (d13 : decode code (pc + 25) = .ok (.ifCond .eq off3, 3)) (o3 : ((pc + 25 : Nat) : Int) + off3 = ((pc + 30 : Nat) : Int)) (d14 : decode code (pc + 30) = .ok (.goto off4, 3)) (o4 : ((pc + 30 : Nat) : Int) + off4 = ((2491 : Nat) : Int))
    (kk : KW x cells slots Q (kmg σ μ z) 2491 (lL i) []) : KW x cells slots Q (kmg σ μ z) pc ((lL i).set 5 (some (ki k))) [ki b] := by
  have hthr : mm_thrown μ = some (μ 0 0) := rfl
  have kk' : ∀ b : Int, KW x cells slots Q (kmg σ μ z) (pc + 30) (((lL i).set 5 (some (ki k))).set 6 (some (ki b))) [] := fun b => kw_goto C d14 2491 o4 (kw_sub (L' := lL i) ⟨rfl, rfl, rfl, rfl, rfl, trivial⟩ kk)
  refine kw_istore C d0 (pc + 2) rfl (by decide) rfl rfl ?_
  refine kw_aload_n C d1 rfl (pc + 3) rfl rfl ?_
  refine kw_callV (As := []) (S := []) (b := 71) C d2 (pc + 6) rfl hc rfl rfl ((mt_mm_thrown l0 hthr).M σ z) ⟨rfl, rfl⟩ ⟨Nat.le_of_ble_eq_true rfl, Nat.le_of_ble_eq_true rfl⟩ hcs rfl (Nat.le_of_ble_eq_true rfl) ?_
  refine kw_iload C d3 (pc + 8) rfl rfl ?_
  refine kw_icmp_eq C d4 (pc + 13) (pc + 11) o1 rfl (fun _ => ?_) (fun h => absurd ht h)
  refine kw_iload C d5 (pc + 15) rfl rfl ?_
  refine kw_if_ne C d6 (pc + 30) (pc + 18) o2 rfl (fun _ => kk' b) (fun hk => ?_)
  refine kw_aload_n C d7 rfl (pc + 19) rfl rfl ?_
  refine kw_iconst (v := 0) C d8 (pc + 20) rfl rfl ⟨by decide, by decide⟩ ?_
  refine kw_lald (k := 96) (n := 1) C d9 (pc + 21) rfl yL_out (by decide) (by decide) ?_
  refine kw_iload C d10 (pc + 23) rfl rfl ?_
  refine kw_i2l C d11 (pc + 24) rfl ?_
  refine kw_lcmp C d12 (pc + 25) rfl ?_
  have hz0 : kcmp (kmg σ μ z 96 (0 : Int).toNat) b = 0 := by
    show kcmp (z 0) b = 0
    rw [hz hk]
    exact kcmp_self b
  refine kw_if_eq C d13 (pc + 30) (pc + 28) o3 rfl (fun _ => kk' b) (fun h => absurd hz0 h)
end KLU

def R0_mm_tells : Room := ({ frames := 0, cells := 0, slots := 0, locals := 0 } : Room)
def mm_tells (σ : kM) (x1 : Int) (x2 : Int) (x3 : Int) (x4 : Int) : Option (kM) :=
  kchk (0 ≤ (w32 ((w32 (x1 + 9)) + x3)) ∧ (w32 ((w32 (x1 + 9)) + x3)) < 290) <|
  klet (kst σ 15 (kup (σ 15) ((2 : Int).toNat) (σ 8 (w32 ((w32 (x1 + 9)) + x3)).toNat))) fun σ_2 =>
  klet (kst σ_2 15 (kup (σ_2 15) ((3 : Int).toNat) x4)) fun σ_3 =>
  kchk (0 ≤ (w32 ((w32 ((w32 (x1 + 29)) + (w32 (8 * x2)))) + x3)) ∧ (w32 ((w32 ((w32 (x1 + 29)) + (w32 (8 * x2)))) + x3)) < 290) <|
  klet (kst σ_3 15 (kup (σ_3 15) ((4 : Int).toNat) (σ_3 8 (w32 ((w32 ((w32 (x1 + 29)) + (w32 (8 * x2)))) + x3)).toNat))) fun σ_5 =>
  kchk (0 ≤ (w32 (x1 + 0)) ∧ (w32 (x1 + 0)) < 290) <|
  klet (kst σ_5 15 (kup (σ_5 15) ((5 : Int).toNat) (σ_5 8 (w32 (x1 + 0)).toNat))) fun σ_7 =>
  some σ_7
set_option maxHeartbeats 4000000 in
theorem bd_mm_tells {x : kX} {l0 : Launch} {Q : State → Prop} (C : kCx x prog_14_method_48_code "PoetFinesModel" none kcl yM 5 l0 R0_mm_tells) (σ : kM) (x1 : Int) (x2 : Int) (x3 : Int) (x4 : Int) {out : kM} (h : mm_tells σ x1 x2 x3 x4 = some out) (hR : ∀ (τ : kM), out = τ → Q = kQ x none τ 0 0) : KW x 0 0 Q σ 0 [some (kr 0), some (ki x1), some (ki x2), some (ki x3), some (ki x4)] [] := by
  unfold mm_tells at h
  refine kw_aload_n C (kdec dc_M_tells 0 rfl) rfl 1 rfl rfl ?_
  refine kw_getR C (kdec dc_M_tells 1 rfl) 4 rfl fd_M_M_69_0 ?_
  refine kw_iconst C (kdec dc_M_tells 2 rfl) 5 rfl rfl ⟨by decide, by decide⟩ ?_
  refine kw_aload_n C (kdec dc_M_tells 3 rfl) rfl 6 rfl rfl ?_
  refine kw_getR C (kdec dc_M_tells 4 rfl) 9 rfl fd_M_M_48_0 ?_
  refine kw_iload_n C (kdec dc_M_tells 5 rfl) rfl 10 rfl rfl ?_
  refine kw_bipush (v := 9) C (kdec dc_M_tells 6 rfl) 12 rfl (by decide) ⟨by decide, by decide⟩ ?_
  refine kw_iadd C (kdec dc_M_tells 7 rfl) 13 rfl ?_
  refine kw_iload_n C (kdec dc_M_tells 8 rfl) rfl 14 rfl rfl ?_
  refine kw_iadd C (kdec dc_M_tells 9 rfl) 15 rfl ?_
  obtain ⟨hc_1, h⟩ := kchk_h h
  refine kw_iald C (kdec dc_M_tells 10 rfl) 16 rfl rfl hc_1.1 hc_1.2 ?_
  obtain ⟨σ_2, eσ_2, h⟩ := klet_h h
  refine kw_iast C (kdec dc_M_tells 11 rfl) 17 rfl rfl (by decide) (by decide) ?_
  refine kw_sig eσ_2 ?_
  refine kw_aload_n C (kdec dc_M_tells 12 rfl) rfl 18 rfl rfl ?_
  refine kw_getR C (kdec dc_M_tells 13 rfl) 21 rfl fd_M_M_69_0 ?_
  refine kw_iconst C (kdec dc_M_tells 14 rfl) 22 rfl rfl ⟨by decide, by decide⟩ ?_
  refine kw_iload C (kdec dc_M_tells 15 rfl) 24 rfl rfl ?_
  obtain ⟨σ_3, eσ_3, h⟩ := klet_h h
  refine kw_iast C (kdec dc_M_tells 16 rfl) 25 rfl rfl (by decide) (by decide) ?_
  refine kw_sig eσ_3 ?_
  refine kw_aload_n C (kdec dc_M_tells 17 rfl) rfl 26 rfl rfl ?_
  refine kw_getR C (kdec dc_M_tells 18 rfl) 29 rfl fd_M_M_69_0 ?_
  refine kw_iconst C (kdec dc_M_tells 19 rfl) 30 rfl rfl ⟨by decide, by decide⟩ ?_
  refine kw_aload_n C (kdec dc_M_tells 20 rfl) rfl 31 rfl rfl ?_
  refine kw_getR C (kdec dc_M_tells 21 rfl) 34 rfl fd_M_M_48_0 ?_
  refine kw_iload_n C (kdec dc_M_tells 22 rfl) rfl 35 rfl rfl ?_
  refine kw_bipush (v := 29) C (kdec dc_M_tells 23 rfl) 37 rfl (by decide) ⟨by decide, by decide⟩ ?_
  refine kw_iadd C (kdec dc_M_tells 24 rfl) 38 rfl ?_
  refine kw_bipush (v := 8) C (kdec dc_M_tells 25 rfl) 40 rfl (by decide) ⟨by decide, by decide⟩ ?_
  refine kw_iload_n C (kdec dc_M_tells 26 rfl) rfl 41 rfl rfl ?_
  refine kw_imul C (kdec dc_M_tells 27 rfl) 42 rfl ?_
  refine kw_iadd C (kdec dc_M_tells 28 rfl) 43 rfl ?_
  refine kw_iload_n C (kdec dc_M_tells 29 rfl) rfl 44 rfl rfl ?_
  refine kw_iadd C (kdec dc_M_tells 30 rfl) 45 rfl ?_
  obtain ⟨hc_4, h⟩ := kchk_h h
  refine kw_iald C (kdec dc_M_tells 31 rfl) 46 rfl rfl hc_4.1 hc_4.2 ?_
  obtain ⟨σ_5, eσ_5, h⟩ := klet_h h
  refine kw_iast C (kdec dc_M_tells 32 rfl) 47 rfl rfl (by decide) (by decide) ?_
  refine kw_sig eσ_5 ?_
  refine kw_aload_n C (kdec dc_M_tells 33 rfl) rfl 48 rfl rfl ?_
  refine kw_getR C (kdec dc_M_tells 34 rfl) 51 rfl fd_M_M_69_0 ?_
  refine kw_iconst C (kdec dc_M_tells 35 rfl) 52 rfl rfl ⟨by decide, by decide⟩ ?_
  refine kw_aload_n C (kdec dc_M_tells 36 rfl) rfl 53 rfl rfl ?_
  refine kw_getR C (kdec dc_M_tells 37 rfl) 56 rfl fd_M_M_48_0 ?_
  refine kw_iload_n C (kdec dc_M_tells 38 rfl) rfl 57 rfl rfl ?_
  refine kw_iconst C (kdec dc_M_tells 39 rfl) 58 rfl rfl ⟨by decide, by decide⟩ ?_
  refine kw_iadd C (kdec dc_M_tells 40 rfl) 59 rfl ?_
  obtain ⟨hc_6, h⟩ := kchk_h h
  refine kw_iald C (kdec dc_M_tells 41 rfl) 60 rfl rfl hc_6.1 hc_6.2 ?_
  obtain ⟨σ_7, eσ_7, h⟩ := klet_h h
  refine kw_iast C (kdec dc_M_tells 42 rfl) 61 rfl rfl (by decide) (by decide) ?_
  refine kw_sig eσ_7 ?_
  obtain rfl := Option.some.inj h
  exact kw_Q (hR _ rfl) (kw_return C (kdec dc_M_tells 43 rfl))
theorem mt_mm_tells (l0 : Launch) {σ : kM} {x1 : Int} {x2 : Int} {x3 : Int} {x4 : Int} {τ : kM} (h : mm_tells σ x1 x2 x3 x4 = some τ) : kMet l0 ky_M_tells prog_14_method_48_code 5 none R0_mm_tells kcl yM σ [kr 0, ki x1, ki x2, ki x3, ki x4] none τ := kMet.of' [some (kr 0), some (ki x1), some (ki x2), some (ki x3), some (ki x4)] (by decide) (Nat.le_of_ble_eq_true rfl) ⟨rfl, rfl, rfl, rfl, rfl, trivial⟩ (fun x C => bd_mm_tells C σ x1 x2 x3 x4 h (fun τ e => by subst e; rfl))
def R0_mm_inches : Room := ({ frames := 2, cells := 0, slots := 0, locals := 46 } : Room)
def mm_inches (σ : kM) (x1 : Int) (x2 : Int) (x3 : Int) (x4 : Int) (x5 : Int) : Option (Int × kM) :=
  kchk (0 ≤ (w32 ((w32 ((w32 (x1 + 113)) + (w32 (4 * x3)))) + x4)) ∧ (w32 ((w32 ((w32 (x1 + 113)) + (w32 (4 * x3)))) + x4)) < 290) <|
  klet (σ 8 (w32 ((w32 ((w32 (x1 + 113)) + (w32 (4 * x3)))) + x4)).toNat) fun x6_2 =>
  if (σ 0 4) = ((-1)) then
    (mm_lesser σ x5 x6_2).bind fun r_13 =>
    some ((r_13, σ))
  else
    kchk (0 ≤ (w32 ((w32 (x1 + 17)) + x2)) ∧ (w32 ((w32 (x1 + 17)) + x2)) < 290) <|
    (mm_tells σ x1 x2 x3 (σ 8 (w32 ((w32 (x1 + 17)) + x2)).toNat)).bind fun σ_4 =>
    klet (kst σ_4 15 (kup (σ_4 15) ((0 : Int).toNat) x5)) fun σ_5 =>
    klet (kst σ_5 15 (kup (σ_5 15) ((1 : Int).toNat) x6_2)) fun σ_6 =>
    (mm_reckons σ_6 (σ_6 0 4)).bind fun (r_7, σ_8) =>
    (mm_bounded σ_8 r_7 0 9).bind fun r_9 =>
    some ((r_9, σ_8))
set_option maxHeartbeats 4000000 in
theorem bd_mm_inches {x : kX} {l0 : Launch} {Q : State → Prop} (C : kCx x prog_14_method_49_code "PoetFinesModel" (some .int) kcl yM 7 l0 R0_mm_inches) (σ : kM) (x1 : Int) (x2 : Int) (x3 : Int) (x4 : Int) (x5 : Int) {out : Int × kM} (h : mm_inches σ x1 x2 x3 x4 x5 = some out) (hR : ∀ (r : Int) (τ : kM), out = (r, τ) → Q = kQ x (some (ki r)) τ 0 0) : KW x 0 0 Q σ 0 [some (kr 0), some (ki x1), some (ki x2), some (ki x3), some (ki x4), some (ki x5), none] [] := by
  unfold mm_inches at h
  refine kw_aload_n C (kdec dc_M_inches 0 rfl) rfl 1 rfl rfl ?_
  refine kw_getR C (kdec dc_M_inches 1 rfl) 4 rfl fd_M_M_48_0 ?_
  refine kw_iload_n C (kdec dc_M_inches 2 rfl) rfl 5 rfl rfl ?_
  refine kw_bipush (v := 113) C (kdec dc_M_inches 3 rfl) 7 rfl (by decide) ⟨by decide, by decide⟩ ?_
  refine kw_iadd C (kdec dc_M_inches 4 rfl) 8 rfl ?_
  refine kw_iconst C (kdec dc_M_inches 5 rfl) 9 rfl rfl ⟨by decide, by decide⟩ ?_
  refine kw_iload_n C (kdec dc_M_inches 6 rfl) rfl 10 rfl rfl ?_
  refine kw_imul C (kdec dc_M_inches 7 rfl) 11 rfl ?_
  refine kw_iadd C (kdec dc_M_inches 8 rfl) 12 rfl ?_
  refine kw_iload C (kdec dc_M_inches 9 rfl) 14 rfl rfl ?_
  refine kw_iadd C (kdec dc_M_inches 10 rfl) 15 rfl ?_
  obtain ⟨hc_1, h⟩ := kchk_h h
  refine kw_iald C (kdec dc_M_inches 11 rfl) 16 rfl rfl hc_1.1 hc_1.2 ?_
  obtain ⟨x6_2, ex6_2, h⟩ := klet_h h
  refine kw_top ex6_2 ?_
  refine kw_istore (L' := [some (kr 0), some (ki x1), some (ki x2), some (ki x3), some (ki x4), some (ki x5), some (ki x6_2)]) C (kdec dc_M_inches 12 rfl) 18 rfl (by decide) rfl rfl ?_
  refine kw_aload_n C (kdec dc_M_inches 13 rfl) rfl 19 rfl rfl ?_
  refine kw_getI C (kdec dc_M_inches 14 rfl) 22 rfl fd_M_M_13_0 ?_
  refine kw_iconst C (kdec dc_M_inches 15 rfl) 23 rfl rfl ⟨by decide, by decide⟩ ?_
  refine kw_icmp_ne C (kdec dc_M_inches 16 rfl) 34 26 (by decide) rfl (fun hc23 => ?_) (fun hc23 => ?_)
  · rw [if_neg hc23] at h
    refine kw_aload_n C (kdec dc_M_inches 21 rfl) rfl 35 rfl rfl ?_
    refine kw_iload_n C (kdec dc_M_inches 22 rfl) rfl 36 rfl rfl ?_
    refine kw_iload_n C (kdec dc_M_inches 23 rfl) rfl 37 rfl rfl ?_
    refine kw_iload_n C (kdec dc_M_inches 24 rfl) rfl 38 rfl rfl ?_
    refine kw_aload_n C (kdec dc_M_inches 25 rfl) rfl 39 rfl rfl ?_
    refine kw_getR C (kdec dc_M_inches 26 rfl) 42 rfl fd_M_M_48_0 ?_
    refine kw_iload_n C (kdec dc_M_inches 27 rfl) rfl 43 rfl rfl ?_
    refine kw_bipush (v := 17) C (kdec dc_M_inches 28 rfl) 45 rfl (by decide) ⟨by decide, by decide⟩ ?_
    refine kw_iadd C (kdec dc_M_inches 29 rfl) 46 rfl ?_
    refine kw_iload_n C (kdec dc_M_inches 30 rfl) rfl 47 rfl rfl ?_
    refine kw_iadd C (kdec dc_M_inches 31 rfl) 48 rfl ?_
    obtain ⟨hc_3, h⟩ := kchk_h h
    refine kw_iald C (kdec dc_M_inches 32 rfl) 49 rfl rfl hc_3.1 hc_3.2 ?_
    obtain ⟨σ_4, hg_12, h⟩ := kbind_h h
    refine kw_callV (As := [ki x1, ki x2, ki x3, ki (σ 8 (w32 ((w32 (x1 + 17)) + x2)).toNat)]) C (kdec dc_M_inches 33 rfl) 52 rfl cv_M_306 rfl rfl (mt_mm_tells l0 hg_12) ⟨rfl, rfl⟩ ⟨Nat.le_of_ble_eq_true rfl, Nat.le_of_ble_eq_true rfl⟩ ⟨Nat.zero_le _, Nat.zero_le _⟩ rfl (Nat.le_of_ble_eq_true rfl) ?_
    change KW x 0 0 Q σ_4 52 [some (kr 0), some (ki x1), some (ki x2), some (ki x3), some (ki x4), some (ki x5), some (ki x6_2)] []
    refine kw_aload_n C (kdec dc_M_inches 34 rfl) rfl 53 rfl rfl ?_
    refine kw_getR C (kdec dc_M_inches 35 rfl) 56 rfl fd_M_M_69_0 ?_
    refine kw_iconst C (kdec dc_M_inches 36 rfl) 57 rfl rfl ⟨by decide, by decide⟩ ?_
    refine kw_iload C (kdec dc_M_inches 37 rfl) 59 rfl rfl ?_
    obtain ⟨σ_5, eσ_5, h⟩ := klet_h h
    refine kw_iast C (kdec dc_M_inches 38 rfl) 60 rfl rfl (by decide) (by decide) ?_
    refine kw_sig eσ_5 ?_
    refine kw_aload_n C (kdec dc_M_inches 39 rfl) rfl 61 rfl rfl ?_
    refine kw_getR C (kdec dc_M_inches 40 rfl) 64 rfl fd_M_M_69_0 ?_
    refine kw_iconst C (kdec dc_M_inches 41 rfl) 65 rfl rfl ⟨by decide, by decide⟩ ?_
    refine kw_iload C (kdec dc_M_inches 42 rfl) 67 rfl rfl ?_
    obtain ⟨σ_6, eσ_6, h⟩ := klet_h h
    refine kw_iast C (kdec dc_M_inches 43 rfl) 68 rfl rfl (by decide) (by decide) ?_
    refine kw_sig eσ_6 ?_
    refine kw_aload_n C (kdec dc_M_inches 44 rfl) rfl 69 rfl rfl ?_
    refine kw_aload_n C (kdec dc_M_inches 45 rfl) rfl 70 rfl rfl ?_
    refine kw_getI C (kdec dc_M_inches 46 rfl) 73 rfl fd_M_M_13_0 ?_
    obtain ⟨⟨r_7, σ_8⟩, hg_11, h⟩ := kbind_h h
    dsimp only at h
    refine kw_callV (As := [ki (σ_6 0 4)]) C (kdec dc_M_inches 47 rfl) 76 rfl cv_M_310 rfl rfl (mt_mm_reckons l0 hg_11) ⟨rfl, rfl⟩ ⟨Nat.le_of_ble_eq_true rfl, Nat.le_of_ble_eq_true rfl⟩ ⟨Nat.zero_le _, Nat.zero_le _⟩ rfl (Nat.le_of_ble_eq_true rfl) ?_
    change KW x 0 0 Q σ_8 76 [some (kr 0), some (ki x1), some (ki x2), some (ki x3), some (ki x4), some (ki x5), some (ki x6_2)] [ki r_7]
    refine kw_iconst C (kdec dc_M_inches 48 rfl) 77 rfl rfl ⟨by decide, by decide⟩ ?_
    refine kw_bipush (v := 9) C (kdec dc_M_inches 49 rfl) 79 rfl (by decide) ⟨by decide, by decide⟩ ?_
    obtain ⟨r_9, hg_10, h⟩ := kbind_h h
    refine kw_callS (As := [ki r_7, ki 0, ki 9]) C (kdec dc_M_inches 50 rfl) 82 rfl cs_M_313 (mt_mm_bounded l0 hg_10) ⟨rfl, rfl⟩ ⟨Nat.le_of_ble_eq_true rfl, Nat.le_of_ble_eq_true rfl⟩ ⟨Nat.zero_le _, Nat.zero_le _⟩ rfl (Nat.le_of_ble_eq_true rfl) ?_
    change KW x 0 0 Q σ_8 82 [some (kr 0), some (ki x1), some (ki x2), some (ki x3), some (ki x4), some (ki x5), some (ki x6_2)] [ki r_9]
    obtain rfl := Option.some.inj h
    exact kw_Q (hR _ _ rfl) (kw_ireturn C (kdec dc_M_inches 51 rfl))
  · rw [if_pos hc23] at h
    refine kw_iload C (kdec dc_M_inches 17 rfl) 28 rfl rfl ?_
    refine kw_iload C (kdec dc_M_inches 18 rfl) 30 rfl rfl ?_
    obtain ⟨r_13, hg_14, h⟩ := kbind_h h
    refine kw_callS (As := [ki x5, ki x6_2]) C (kdec dc_M_inches 19 rfl) 33 rfl cs_M_303 (mt_mm_lesser l0 hg_14) ⟨rfl, rfl⟩ ⟨Nat.le_of_ble_eq_true rfl, Nat.le_of_ble_eq_true rfl⟩ ⟨Nat.zero_le _, Nat.zero_le _⟩ rfl (Nat.le_of_ble_eq_true rfl) ?_
    change KW x 0 0 Q σ 33 [some (kr 0), some (ki x1), some (ki x2), some (ki x3), some (ki x4), some (ki x5), some (ki x6_2)] [ki r_13]
    obtain rfl := Option.some.inj h
    exact kw_Q (hR _ _ rfl) (kw_ireturn C (kdec dc_M_inches 20 rfl))
theorem mt_mm_inches (l0 : Launch) {σ : kM} {x1 : Int} {x2 : Int} {x3 : Int} {x4 : Int} {x5 : Int} {r : Int} {τ : kM} (h : mm_inches σ x1 x2 x3 x4 x5 = some (r, τ)) : kMet l0 ky_M_inches prog_14_method_49_code 7 (some .int) R0_mm_inches kcl yM σ [kr 0, ki x1, ki x2, ki x3, ki x4, ki x5] (some (ki r)) τ := kMet.of' [some (kr 0), some (ki x1), some (ki x2), some (ki x3), some (ki x4), some (ki x5), none] (by decide) (Nat.le_of_ble_eq_true rfl) ⟨rfl, rfl, rfl, rfl, rfl, rfl, trivial⟩ (fun x C => bd_mm_inches C σ x1 x2 x3 x4 x5 h (fun r τ e => by cases e; rfl))
def R0_mm_rhymes : Room := ({ frames := 0, cells := 0, slots := 0, locals := 0 } : Room)
def mm_rhymes_j27 (σ : kM) (x1 : Int) (x2 : Int) (x3 : Int) (s0 : Int) : Option (Int) :=
  kchk (0 ≤ (w32 ((w32 ((w32 (x1 + 65)) + (w32 (6 * x2)))) + x3)) ∧ (w32 ((w32 ((w32 (x1 + 65)) + (w32 (6 * x2)))) + x3)) < 290) <|
  kchk (0 ≤ (w32 ((w32 ((w32 (x1 + 65)) + (w32 (6 * x2)))) + s0)) ∧ (w32 ((w32 ((w32 (x1 + 65)) + (w32 (6 * x2)))) + s0)) < 290) <|
  if (σ 8 (w32 ((w32 ((w32 (x1 + 65)) + (w32 (6 * x2)))) + x3)).toNat) = (σ 8 (w32 ((w32 ((w32 (x1 + 65)) + (w32 (6 * x2)))) + s0)).toNat) then
    some 1
  else
    some 0
set_option maxHeartbeats 4000000 in
theorem bd_mm_rhymes_j27 {x : kX} {l0 : Launch} {Q : State → Prop} (C : kCx x prog_14_method_50_code "PoetFinesModel" (some .boolean) kcl yM 6 l0 R0_mm_rhymes) (σ : kM) (x1 : Int) (x2 : Int) (x3 : Int) (s0 : Int) {out : Int} (h : mm_rhymes_j27 σ x1 x2 x3 s0 = some out) (hR : ∀ (r : Int), out = r → Q = kQ x (some (ki r)) σ 0 0) : KW x 0 0 Q σ 27 [some (kr 0), some (ki x1), some (ki x2), some (ki x3), none, none] [ki s0] := by
  unfold mm_rhymes_j27 at h
  refine kw_istore (L' := [some (kr 0), some (ki x1), some (ki x2), some (ki x3), none, some (ki s0)]) C (kdec dc_M_rhymes 18 rfl) 29 rfl (by decide) rfl rfl ?_
  refine kw_aload_n C (kdec dc_M_rhymes 19 rfl) rfl 30 rfl rfl ?_
  refine kw_getR C (kdec dc_M_rhymes 20 rfl) 33 rfl fd_M_M_48_0 ?_
  refine kw_iload_n C (kdec dc_M_rhymes 21 rfl) rfl 34 rfl rfl ?_
  refine kw_bipush (v := 65) C (kdec dc_M_rhymes 22 rfl) 36 rfl (by decide) ⟨by decide, by decide⟩ ?_
  refine kw_iadd C (kdec dc_M_rhymes 23 rfl) 37 rfl ?_
  refine kw_bipush (v := 6) C (kdec dc_M_rhymes 24 rfl) 39 rfl (by decide) ⟨by decide, by decide⟩ ?_
  refine kw_iload_n C (kdec dc_M_rhymes 25 rfl) rfl 40 rfl rfl ?_
  refine kw_imul C (kdec dc_M_rhymes 26 rfl) 41 rfl ?_
  refine kw_iadd C (kdec dc_M_rhymes 27 rfl) 42 rfl ?_
  refine kw_iload_n C (kdec dc_M_rhymes 28 rfl) rfl 43 rfl rfl ?_
  refine kw_iadd C (kdec dc_M_rhymes 29 rfl) 44 rfl ?_
  obtain ⟨hc_3, h⟩ := kchk_h h
  refine kw_iald C (kdec dc_M_rhymes 30 rfl) 45 rfl rfl hc_3.1 hc_3.2 ?_
  refine kw_aload_n C (kdec dc_M_rhymes 31 rfl) rfl 46 rfl rfl ?_
  refine kw_getR C (kdec dc_M_rhymes 32 rfl) 49 rfl fd_M_M_48_0 ?_
  refine kw_iload_n C (kdec dc_M_rhymes 33 rfl) rfl 50 rfl rfl ?_
  refine kw_bipush (v := 65) C (kdec dc_M_rhymes 34 rfl) 52 rfl (by decide) ⟨by decide, by decide⟩ ?_
  refine kw_iadd C (kdec dc_M_rhymes 35 rfl) 53 rfl ?_
  refine kw_bipush (v := 6) C (kdec dc_M_rhymes 36 rfl) 55 rfl (by decide) ⟨by decide, by decide⟩ ?_
  refine kw_iload_n C (kdec dc_M_rhymes 37 rfl) rfl 56 rfl rfl ?_
  refine kw_imul C (kdec dc_M_rhymes 38 rfl) 57 rfl ?_
  refine kw_iadd C (kdec dc_M_rhymes 39 rfl) 58 rfl ?_
  refine kw_iload C (kdec dc_M_rhymes 40 rfl) 60 rfl rfl ?_
  refine kw_iadd C (kdec dc_M_rhymes 41 rfl) 61 rfl ?_
  obtain ⟨hc_4, h⟩ := kchk_h h
  refine kw_iald C (kdec dc_M_rhymes 42 rfl) 62 rfl rfl hc_4.1 hc_4.2 ?_
  refine kw_icmp_ne C (kdec dc_M_rhymes 43 rfl) 69 65 (by decide) rfl (fun hc62 => ?_) (fun hc62 => ?_)
  · rw [if_neg hc62] at h
    refine kw_iconst C (kdec dc_M_rhymes 46 rfl) 70 rfl rfl ⟨by decide, by decide⟩ ?_
    obtain rfl := Option.some.inj h
    exact kw_Q (hR _ rfl) (kw_zreturn C (kdec dc_M_rhymes 47 rfl) (by decide))
  · rw [if_pos hc62] at h
    refine kw_iconst C (kdec dc_M_rhymes 44 rfl) 66 rfl rfl ⟨by decide, by decide⟩ ?_
    refine kw_goto C (kdec dc_M_rhymes 45 rfl) 70 (by decide) ?_
    obtain rfl := Option.some.inj h
    exact kw_Q (hR _ rfl) (kw_zreturn C (kdec dc_M_rhymes 47 rfl) (by decide))
def mm_rhymes (σ : kM) (x1 : Int) (x2 : Int) (x3 : Int) : Option (Int) :=
  kchk (0 ≤ (w32 ((w32 (x1 + 61)) + x2)) ∧ (w32 ((w32 (x1 + 61)) + x2)) < 290) <|
  klet (σ 8 (w32 ((w32 (x1 + 61)) + x2)).toNat) fun x4_2 =>
  if x3 = 0 then
    mm_rhymes_j27 σ x1 x2 x3 (w32 (x4_2 - 1))
  else
    mm_rhymes_j27 σ x1 x2 x3 (w32 (x3 - 1))
set_option maxHeartbeats 4000000 in
theorem bd_mm_rhymes {x : kX} {l0 : Launch} {Q : State → Prop} (C : kCx x prog_14_method_50_code "PoetFinesModel" (some .boolean) kcl yM 6 l0 R0_mm_rhymes) (σ : kM) (x1 : Int) (x2 : Int) (x3 : Int) {out : Int} (h : mm_rhymes σ x1 x2 x3 = some out) (hR : ∀ (r : Int), out = r → Q = kQ x (some (ki r)) σ 0 0) : KW x 0 0 Q σ 0 [some (kr 0), some (ki x1), some (ki x2), some (ki x3), none, none] [] := by
  unfold mm_rhymes at h
  refine kw_aload_n C (kdec dc_M_rhymes 0 rfl) rfl 1 rfl rfl ?_
  refine kw_getR C (kdec dc_M_rhymes 1 rfl) 4 rfl fd_M_M_48_0 ?_
  refine kw_iload_n C (kdec dc_M_rhymes 2 rfl) rfl 5 rfl rfl ?_
  refine kw_bipush (v := 61) C (kdec dc_M_rhymes 3 rfl) 7 rfl (by decide) ⟨by decide, by decide⟩ ?_
  refine kw_iadd C (kdec dc_M_rhymes 4 rfl) 8 rfl ?_
  refine kw_iload_n C (kdec dc_M_rhymes 5 rfl) rfl 9 rfl rfl ?_
  refine kw_iadd C (kdec dc_M_rhymes 6 rfl) 10 rfl ?_
  obtain ⟨hc_1, h⟩ := kchk_h h
  refine kw_iald C (kdec dc_M_rhymes 7 rfl) 11 rfl rfl hc_1.1 hc_1.2 ?_
  obtain ⟨x4_2, ex4_2, h⟩ := klet_h h
  refine kw_top ex4_2 ?_
  refine kw_istore (L' := [some (kr 0), some (ki x1), some (ki x2), some (ki x3), some (ki x4_2), none]) C (kdec dc_M_rhymes 8 rfl) 13 rfl (by decide) rfl rfl ?_
  refine kw_iload_n C (kdec dc_M_rhymes 9 rfl) rfl 14 rfl rfl ?_
  refine kw_if_ne C (kdec dc_M_rhymes 10 rfl) 24 17 (by decide) rfl (fun hc14 => ?_) (fun hc14 => ?_)
  · rw [if_neg hc14] at h
    refine kw_iload_n C (kdec dc_M_rhymes 15 rfl) rfl 25 rfl rfl ?_
    refine kw_iconst C (kdec dc_M_rhymes 16 rfl) 26 rfl rfl ⟨by decide, by decide⟩ ?_
    refine kw_isub C (kdec dc_M_rhymes 17 rfl) 27 rfl ?_
    exact kw_sub (L' := [some (kr 0), some (ki x1), some (ki x2), some (ki x3), none, none]) ⟨rfl, rfl, rfl, rfl, trivial⟩ (bd_mm_rhymes_j27 C σ x1 x2 x3 (w32 (x3 - 1)) h hR)
  · rw [if_pos hc14] at h
    refine kw_iload C (kdec dc_M_rhymes 11 rfl) 19 rfl rfl ?_
    refine kw_iconst C (kdec dc_M_rhymes 12 rfl) 20 rfl rfl ⟨by decide, by decide⟩ ?_
    refine kw_isub C (kdec dc_M_rhymes 13 rfl) 21 rfl ?_
    refine kw_goto C (kdec dc_M_rhymes 14 rfl) 27 (by decide) ?_
    exact kw_sub (L' := [some (kr 0), some (ki x1), some (ki x2), some (ki x3), none, none]) ⟨rfl, rfl, rfl, rfl, trivial⟩ (bd_mm_rhymes_j27 C σ x1 x2 x3 (w32 (x4_2 - 1)) h hR)
theorem mt_mm_rhymes (l0 : Launch) {σ : kM} {x1 : Int} {x2 : Int} {x3 : Int} {r : Int} (h : mm_rhymes σ x1 x2 x3 = some r) : kMet l0 ky_M_rhymes prog_14_method_50_code 6 (some .boolean) R0_mm_rhymes kcl yM σ [kr 0, ki x1, ki x2, ki x3] (some (ki r)) σ := kMet.of' [some (kr 0), some (ki x1), some (ki x2), some (ki x3), none, none] (by decide) (Nat.le_of_ble_eq_true rfl) ⟨rfl, rfl, rfl, rfl, trivial⟩ (fun x C => bd_mm_rhymes C σ x1 x2 x3 h (fun r e => by subst e; rfl))
def R0_mm_fineOf : Room := ({ frames := 2, cells := 0, slots := 0, locals := 46 } : Room)
def mm_fineOf_j60 (σ : kM) (s0 : Int) (s1 : Int) : Option (Int × kM) :=
  kchk (0 ≤ s1 ∧ s1 < 8) <|
  klet (kst σ 15 (kup (σ 15) s1.toNat s0)) fun σ_6 =>
  (mm_reckons σ_6 (σ_6 0 5)).bind fun (r_7, σ_8) =>
  (mm_bounded σ_8 r_7 0 20).bind fun r_9 =>
  some ((r_9, σ_8))
set_option maxHeartbeats 4000000 in
theorem bd_mm_fineOf_j60 {x : kX} {l0 : Launch} {Q : State → Prop} (C : kCx x prog_14_method_51_code "PoetFinesModel" (some .int) kcl yM 6 l0 R0_mm_fineOf) (σ : kM) (s0 : Int) (s1 : Int) {out : Int × kM} (h : mm_fineOf_j60 σ s0 s1 = some out) (hR : ∀ (r : Int) (τ : kM), out = (r, τ) → Q = kQ x (some (ki r)) τ 0 0) : KW x 0 0 Q σ 60 [some (kr 0), none, none, none, none, none] [ki s0, ki s1, kr 15] := by
  unfold mm_fineOf_j60 at h
  obtain ⟨hc_5, h⟩ := kchk_h h
  obtain ⟨σ_6, eσ_6, h⟩ := klet_h h
  refine kw_iast C (kdec dc_M_fineOf 36 rfl) 61 rfl rfl hc_5.1 hc_5.2 ?_
  refine kw_sig eσ_6 ?_
  refine kw_aload_n C (kdec dc_M_fineOf 37 rfl) rfl 62 rfl rfl ?_
  refine kw_aload_n C (kdec dc_M_fineOf 38 rfl) rfl 63 rfl rfl ?_
  refine kw_getI C (kdec dc_M_fineOf 39 rfl) 66 rfl fd_M_M_16_0 ?_
  obtain ⟨⟨r_7, σ_8⟩, hg_11, h⟩ := kbind_h h
  dsimp only at h
  refine kw_callV (As := [ki (σ_6 0 5)]) C (kdec dc_M_fineOf 40 rfl) 69 rfl cv_M_310 rfl rfl (mt_mm_reckons l0 hg_11) ⟨rfl, rfl⟩ ⟨Nat.le_of_ble_eq_true rfl, Nat.le_of_ble_eq_true rfl⟩ ⟨Nat.zero_le _, Nat.zero_le _⟩ rfl (Nat.le_of_ble_eq_true rfl) ?_
  change KW x 0 0 Q σ_8 69 [some (kr 0), none, none, none, none, none] [ki r_7]
  refine kw_iconst C (kdec dc_M_fineOf 41 rfl) 70 rfl rfl ⟨by decide, by decide⟩ ?_
  refine kw_bipush (v := 20) C (kdec dc_M_fineOf 42 rfl) 72 rfl (by decide) ⟨by decide, by decide⟩ ?_
  obtain ⟨r_9, hg_10, h⟩ := kbind_h h
  refine kw_callS (As := [ki r_7, ki 0, ki 20]) C (kdec dc_M_fineOf 43 rfl) 75 rfl cs_M_313 (mt_mm_bounded l0 hg_10) ⟨rfl, rfl⟩ ⟨Nat.le_of_ble_eq_true rfl, Nat.le_of_ble_eq_true rfl⟩ ⟨Nat.zero_le _, Nat.zero_le _⟩ rfl (Nat.le_of_ble_eq_true rfl) ?_
  change KW x 0 0 Q σ_8 75 [some (kr 0), none, none, none, none, none] [ki r_9]
  obtain rfl := Option.some.inj h
  exact kw_Q (hR _ _ rfl) (kw_ireturn C (kdec dc_M_fineOf 44 rfl))
def mm_fineOf (σ : kM) (x1 : Int) (x2 : Int) (x3 : Int) (x4 : Int) (x5 : Int) : Option (Int × kM) :=
  if (σ 0 5) = ((-1)) then
    some ((x5, σ))
  else
    kchk (0 ≤ (w32 ((w32 (x1 + 17)) + x2)) ∧ (w32 ((w32 (x1 + 17)) + x2)) < 290) <|
    (mm_tells σ x1 x2 x3 (σ 8 (w32 ((w32 (x1 + 17)) + x2)).toNat)).bind fun σ_2 =>
    klet (kst σ_2 15 (kup (σ_2 15) ((6 : Int).toNat) x5)) fun σ_3 =>
    (mm_rhymes σ_3 x1 x2 x4).bind fun r_4 =>
    if r_4 = 0 then
      mm_fineOf_j60 σ_3 0 7
    else
      mm_fineOf_j60 σ_3 1 7
set_option maxHeartbeats 4000000 in
theorem bd_mm_fineOf {x : kX} {l0 : Launch} {Q : State → Prop} (C : kCx x prog_14_method_51_code "PoetFinesModel" (some .int) kcl yM 6 l0 R0_mm_fineOf) (σ : kM) (x1 : Int) (x2 : Int) (x3 : Int) (x4 : Int) (x5 : Int) {out : Int × kM} (h : mm_fineOf σ x1 x2 x3 x4 x5 = some out) (hR : ∀ (r : Int) (τ : kM), out = (r, τ) → Q = kQ x (some (ki r)) τ 0 0) : KW x 0 0 Q σ 0 [some (kr 0), some (ki x1), some (ki x2), some (ki x3), some (ki x4), some (ki x5)] [] := by
  unfold mm_fineOf at h
  refine kw_aload_n C (kdec dc_M_fineOf 0 rfl) rfl 1 rfl rfl ?_
  refine kw_getI C (kdec dc_M_fineOf 1 rfl) 4 rfl fd_M_M_16_0 ?_
  refine kw_iconst C (kdec dc_M_fineOf 2 rfl) 5 rfl rfl ⟨by decide, by decide⟩ ?_
  refine kw_icmp_ne C (kdec dc_M_fineOf 3 rfl) 11 8 (by decide) rfl (fun hc5 => ?_) (fun hc5 => ?_)
  · rw [if_neg hc5] at h
    refine kw_aload_n C (kdec dc_M_fineOf 6 rfl) rfl 12 rfl rfl ?_
    refine kw_iload_n C (kdec dc_M_fineOf 7 rfl) rfl 13 rfl rfl ?_
    refine kw_iload_n C (kdec dc_M_fineOf 8 rfl) rfl 14 rfl rfl ?_
    refine kw_iload_n C (kdec dc_M_fineOf 9 rfl) rfl 15 rfl rfl ?_
    refine kw_aload_n C (kdec dc_M_fineOf 10 rfl) rfl 16 rfl rfl ?_
    refine kw_getR C (kdec dc_M_fineOf 11 rfl) 19 rfl fd_M_M_48_0 ?_
    refine kw_iload_n C (kdec dc_M_fineOf 12 rfl) rfl 20 rfl rfl ?_
    refine kw_bipush (v := 17) C (kdec dc_M_fineOf 13 rfl) 22 rfl (by decide) ⟨by decide, by decide⟩ ?_
    refine kw_iadd C (kdec dc_M_fineOf 14 rfl) 23 rfl ?_
    refine kw_iload_n C (kdec dc_M_fineOf 15 rfl) rfl 24 rfl rfl ?_
    refine kw_iadd C (kdec dc_M_fineOf 16 rfl) 25 rfl ?_
    obtain ⟨hc_1, h⟩ := kchk_h h
    refine kw_iald C (kdec dc_M_fineOf 17 rfl) 26 rfl rfl hc_1.1 hc_1.2 ?_
    obtain ⟨σ_2, hg_13, h⟩ := kbind_h h
    refine kw_callV (As := [ki x1, ki x2, ki x3, ki (σ 8 (w32 ((w32 (x1 + 17)) + x2)).toNat)]) C (kdec dc_M_fineOf 18 rfl) 29 rfl cv_M_306 rfl rfl (mt_mm_tells l0 hg_13) ⟨rfl, rfl⟩ ⟨Nat.le_of_ble_eq_true rfl, Nat.le_of_ble_eq_true rfl⟩ ⟨Nat.zero_le _, Nat.zero_le _⟩ rfl (Nat.le_of_ble_eq_true rfl) ?_
    change KW x 0 0 Q σ_2 29 [some (kr 0), some (ki x1), some (ki x2), some (ki x3), some (ki x4), some (ki x5)] []
    refine kw_aload_n C (kdec dc_M_fineOf 19 rfl) rfl 30 rfl rfl ?_
    refine kw_getR C (kdec dc_M_fineOf 20 rfl) 33 rfl fd_M_M_69_0 ?_
    refine kw_bipush (v := 6) C (kdec dc_M_fineOf 21 rfl) 35 rfl (by decide) ⟨by decide, by decide⟩ ?_
    refine kw_iload C (kdec dc_M_fineOf 22 rfl) 37 rfl rfl ?_
    obtain ⟨σ_3, eσ_3, h⟩ := klet_h h
    refine kw_iast C (kdec dc_M_fineOf 23 rfl) 38 rfl rfl (by decide) (by decide) ?_
    refine kw_sig eσ_3 ?_
    refine kw_aload_n C (kdec dc_M_fineOf 24 rfl) rfl 39 rfl rfl ?_
    refine kw_getR C (kdec dc_M_fineOf 25 rfl) 42 rfl fd_M_M_69_0 ?_
    refine kw_bipush (v := 7) C (kdec dc_M_fineOf 26 rfl) 44 rfl (by decide) ⟨by decide, by decide⟩ ?_
    refine kw_aload_n C (kdec dc_M_fineOf 27 rfl) rfl 45 rfl rfl ?_
    refine kw_iload_n C (kdec dc_M_fineOf 28 rfl) rfl 46 rfl rfl ?_
    refine kw_iload_n C (kdec dc_M_fineOf 29 rfl) rfl 47 rfl rfl ?_
    refine kw_iload C (kdec dc_M_fineOf 30 rfl) 49 rfl rfl ?_
    obtain ⟨r_4, hg_12, h⟩ := kbind_h h
    refine kw_callV (As := [ki x1, ki x2, ki x4]) C (kdec dc_M_fineOf 31 rfl) 52 rfl cv_M_316 rfl rfl (mt_mm_rhymes l0 hg_12) ⟨rfl, rfl⟩ ⟨Nat.le_of_ble_eq_true rfl, Nat.le_of_ble_eq_true rfl⟩ ⟨Nat.zero_le _, Nat.zero_le _⟩ rfl (Nat.le_of_ble_eq_true rfl) ?_
    change KW x 0 0 Q σ_3 52 [some (kr 0), some (ki x1), some (ki x2), some (ki x3), some (ki x4), some (ki x5)] [ki r_4, ki 7, kr 15]
    refine kw_if_eq C (kdec dc_M_fineOf 32 rfl) 59 55 (by decide) rfl (fun hc52 => ?_) (fun hc52 => ?_)
    · rw [if_pos hc52] at h
      refine kw_iconst C (kdec dc_M_fineOf 35 rfl) 60 rfl rfl ⟨by decide, by decide⟩ ?_
      exact kw_sub (L' := [some (kr 0), none, none, none, none, none]) ⟨rfl, trivial⟩ (bd_mm_fineOf_j60 C σ_3 0 7 h hR)
    · rw [if_neg hc52] at h
      refine kw_iconst C (kdec dc_M_fineOf 33 rfl) 56 rfl rfl ⟨by decide, by decide⟩ ?_
      refine kw_goto C (kdec dc_M_fineOf 34 rfl) 60 (by decide) ?_
      exact kw_sub (L' := [some (kr 0), none, none, none, none, none]) ⟨rfl, trivial⟩ (bd_mm_fineOf_j60 C σ_3 1 7 h hR)
  · rw [if_pos hc5] at h
    refine kw_iload C (kdec dc_M_fineOf 4 rfl) 10 rfl rfl ?_
    obtain rfl := Option.some.inj h
    exact kw_Q (hR _ _ rfl) (kw_ireturn C (kdec dc_M_fineOf 5 rfl))
theorem mt_mm_fineOf (l0 : Launch) {σ : kM} {x1 : Int} {x2 : Int} {x3 : Int} {x4 : Int} {x5 : Int} {r : Int} {τ : kM} (h : mm_fineOf σ x1 x2 x3 x4 x5 = some (r, τ)) : kMet l0 ky_M_fineOf prog_14_method_51_code 6 (some .int) R0_mm_fineOf kcl yM σ [kr 0, ki x1, ki x2, ki x3, ki x4, ki x5] (some (ki r)) τ := kMet.of' [some (kr 0), some (ki x1), some (ki x2), some (ki x3), some (ki x4), some (ki x5)] (by decide) (Nat.le_of_ble_eq_true rfl) ⟨rfl, rfl, rfl, rfl, rfl, rfl, trivial⟩ (fun x C => bd_mm_fineOf C σ x1 x2 x3 x4 x5 h (fun r τ e => by cases e; rfl))
def R0_mm_depthOf : Room := ({ frames := 0, cells := 0, slots := 0, locals := 0 } : Room)
def mm_depthOf (σ : kM) (x1 : Int) (x2 : Int) (x3 : Int) : Option (Int) :=
  kchk (0 ≤ (w32 ((w32 ((w32 (x1 + 89)) + (w32 (6 * x2)))) + x3)) ∧ (w32 ((w32 ((w32 (x1 + 89)) + (w32 (6 * x2)))) + x3)) < 290) <|
  some (σ 8 (w32 ((w32 ((w32 (x1 + 89)) + (w32 (6 * x2)))) + x3)).toNat)
set_option maxHeartbeats 4000000 in
theorem bd_mm_depthOf {x : kX} {l0 : Launch} {Q : State → Prop} (C : kCx x prog_14_method_52_code "PoetFinesModel" (some .int) kcl yM 4 l0 R0_mm_depthOf) (σ : kM) (x1 : Int) (x2 : Int) (x3 : Int) {out : Int} (h : mm_depthOf σ x1 x2 x3 = some out) (hR : ∀ (r : Int), out = r → Q = kQ x (some (ki r)) σ 0 0) : KW x 0 0 Q σ 0 [some (kr 0), some (ki x1), some (ki x2), some (ki x3)] [] := by
  unfold mm_depthOf at h
  refine kw_aload_n C (kdec dc_M_depthOf 0 rfl) rfl 1 rfl rfl ?_
  refine kw_getR C (kdec dc_M_depthOf 1 rfl) 4 rfl fd_M_M_48_0 ?_
  refine kw_iload_n C (kdec dc_M_depthOf 2 rfl) rfl 5 rfl rfl ?_
  refine kw_bipush (v := 89) C (kdec dc_M_depthOf 3 rfl) 7 rfl (by decide) ⟨by decide, by decide⟩ ?_
  refine kw_iadd C (kdec dc_M_depthOf 4 rfl) 8 rfl ?_
  refine kw_bipush (v := 6) C (kdec dc_M_depthOf 5 rfl) 10 rfl (by decide) ⟨by decide, by decide⟩ ?_
  refine kw_iload_n C (kdec dc_M_depthOf 6 rfl) rfl 11 rfl rfl ?_
  refine kw_imul C (kdec dc_M_depthOf 7 rfl) 12 rfl ?_
  refine kw_iadd C (kdec dc_M_depthOf 8 rfl) 13 rfl ?_
  refine kw_iload_n C (kdec dc_M_depthOf 9 rfl) rfl 14 rfl rfl ?_
  refine kw_iadd C (kdec dc_M_depthOf 10 rfl) 15 rfl ?_
  obtain ⟨hc_1, h⟩ := kchk_h h
  refine kw_iald C (kdec dc_M_depthOf 11 rfl) 16 rfl rfl hc_1.1 hc_1.2 ?_
  obtain rfl := Option.some.inj h
  exact kw_Q (hR _ rfl) (kw_ireturn C (kdec dc_M_depthOf 12 rfl))
theorem mt_mm_depthOf (l0 : Launch) {σ : kM} {x1 : Int} {x2 : Int} {x3 : Int} {r : Int} (h : mm_depthOf σ x1 x2 x3 = some r) : kMet l0 ky_M_depthOf prog_14_method_52_code 4 (some .int) R0_mm_depthOf kcl yM σ [kr 0, ki x1, ki x2, ki x3] (some (ki r)) σ := kMet.of' [some (kr 0), some (ki x1), some (ki x2), some (ki x3)] (by decide) (Nat.le_of_ble_eq_true rfl) ⟨rfl, rfl, rfl, rfl, trivial⟩ (fun x C => bd_mm_depthOf C σ x1 x2 x3 h (fun r e => by subst e; rfl))
def R0_mm_inchesOf : Room := ({ frames := 3, cells := 0, slots := 0, locals := 72 } : Room)
def mm_inchesOf_j41 (σ : kM) (s0 : Int) (s1 : Int) (s2 : Int) (s3 : Int) (s4 : Int) : Option (Int × kM) :=
  (mm_inches σ s4 s3 s2 s1 s0).bind fun (r_3, σ_4) =>
  some ((r_3, σ_4))
set_option maxHeartbeats 4000000 in
theorem bd_mm_inchesOf_j41 {x : kX} {l0 : Launch} {Q : State → Prop} (C : kCx x prog_14_method_53_code "PoetFinesModel" (some .int) kcl yM 5 l0 R0_mm_inchesOf) (σ : kM) (s0 : Int) (s1 : Int) (s2 : Int) (s3 : Int) (s4 : Int) {out : Int × kM} (h : mm_inchesOf_j41 σ s0 s1 s2 s3 s4 = some out) (hR : ∀ (r : Int) (τ : kM), out = (r, τ) → Q = kQ x (some (ki r)) τ 0 0) : KW x 0 0 Q σ 41 [none, none, none, none, none] [ki s0, ki s1, ki s2, ki s3, ki s4, kr 0] := by
  unfold mm_inchesOf_j41 at h
  obtain ⟨⟨r_3, σ_4⟩, hg_5, h⟩ := kbind_h h
  dsimp only at h
  refine kw_callV (As := [ki s4, ki s3, ki s2, ki s1, ki s0]) C (kdec dc_M_inchesOf 26 rfl) 44 rfl cv_M_326 rfl rfl (mt_mm_inches l0 hg_5) ⟨rfl, rfl⟩ ⟨Nat.le_of_ble_eq_true rfl, Nat.le_of_ble_eq_true rfl⟩ ⟨Nat.zero_le _, Nat.zero_le _⟩ rfl (Nat.le_of_ble_eq_true rfl) ?_
  change KW x 0 0 Q σ_4 44 [none, none, none, none, none] [ki r_3]
  obtain rfl := Option.some.inj h
  exact kw_Q (hR _ _ rfl) (kw_ireturn C (kdec dc_M_inchesOf 27 rfl))
def mm_inchesOf (σ : kM) (x1 : Int) (x2 : Int) (x3 : Int) (x4 : Int) : Option (Int × kM) :=
  kchk (0 ≤ (w32 ((w32 ((w32 (x1 + 65)) + (w32 (6 * x2)))) + x4)) ∧ (w32 ((w32 ((w32 (x1 + 65)) + (w32 (6 * x2)))) + x4)) < 290) <|
  if (σ 0 48) = 0 then
    (mm_depthOf σ x1 x2 x4).bind fun r_2 =>
    mm_inchesOf_j41 σ r_2 (σ 8 (w32 ((w32 ((w32 (x1 + 65)) + (w32 (6 * x2)))) + x4)).toNat) x3 x2 x1
  else
    mm_inchesOf_j41 σ 9 (σ 8 (w32 ((w32 ((w32 (x1 + 65)) + (w32 (6 * x2)))) + x4)).toNat) x3 x2 x1
set_option maxHeartbeats 4000000 in
theorem bd_mm_inchesOf {x : kX} {l0 : Launch} {Q : State → Prop} (C : kCx x prog_14_method_53_code "PoetFinesModel" (some .int) kcl yM 5 l0 R0_mm_inchesOf) (σ : kM) (x1 : Int) (x2 : Int) (x3 : Int) (x4 : Int) {out : Int × kM} (h : mm_inchesOf σ x1 x2 x3 x4 = some out) (hR : ∀ (r : Int) (τ : kM), out = (r, τ) → Q = kQ x (some (ki r)) τ 0 0) : KW x 0 0 Q σ 0 [some (kr 0), some (ki x1), some (ki x2), some (ki x3), some (ki x4)] [] := by
  unfold mm_inchesOf at h
  refine kw_aload_n C (kdec dc_M_inchesOf 0 rfl) rfl 1 rfl rfl ?_
  refine kw_iload_n C (kdec dc_M_inchesOf 1 rfl) rfl 2 rfl rfl ?_
  refine kw_iload_n C (kdec dc_M_inchesOf 2 rfl) rfl 3 rfl rfl ?_
  refine kw_iload_n C (kdec dc_M_inchesOf 3 rfl) rfl 4 rfl rfl ?_
  refine kw_aload_n C (kdec dc_M_inchesOf 4 rfl) rfl 5 rfl rfl ?_
  refine kw_getR C (kdec dc_M_inchesOf 5 rfl) 8 rfl fd_M_M_48_0 ?_
  refine kw_iload_n C (kdec dc_M_inchesOf 6 rfl) rfl 9 rfl rfl ?_
  refine kw_bipush (v := 65) C (kdec dc_M_inchesOf 7 rfl) 11 rfl (by decide) ⟨by decide, by decide⟩ ?_
  refine kw_iadd C (kdec dc_M_inchesOf 8 rfl) 12 rfl ?_
  refine kw_bipush (v := 6) C (kdec dc_M_inchesOf 9 rfl) 14 rfl (by decide) ⟨by decide, by decide⟩ ?_
  refine kw_iload_n C (kdec dc_M_inchesOf 10 rfl) rfl 15 rfl rfl ?_
  refine kw_imul C (kdec dc_M_inchesOf 11 rfl) 16 rfl ?_
  refine kw_iadd C (kdec dc_M_inchesOf 12 rfl) 17 rfl ?_
  refine kw_iload C (kdec dc_M_inchesOf 13 rfl) 19 rfl rfl ?_
  refine kw_iadd C (kdec dc_M_inchesOf 14 rfl) 20 rfl ?_
  obtain ⟨hc_1, h⟩ := kchk_h h
  refine kw_iald C (kdec dc_M_inchesOf 15 rfl) 21 rfl rfl hc_1.1 hc_1.2 ?_
  refine kw_aload_n C (kdec dc_M_inchesOf 16 rfl) rfl 22 rfl rfl ?_
  refine kw_getI C (kdec dc_M_inchesOf 17 rfl) 25 rfl fd_M_M_320_0 ?_
  refine kw_if_eq C (kdec dc_M_inchesOf 18 rfl) 33 28 (by decide) rfl (fun hc25 => ?_) (fun hc25 => ?_)
  · rw [if_pos hc25] at h
    refine kw_aload_n C (kdec dc_M_inchesOf 21 rfl) rfl 34 rfl rfl ?_
    refine kw_iload_n C (kdec dc_M_inchesOf 22 rfl) rfl 35 rfl rfl ?_
    refine kw_iload_n C (kdec dc_M_inchesOf 23 rfl) rfl 36 rfl rfl ?_
    refine kw_iload C (kdec dc_M_inchesOf 24 rfl) 38 rfl rfl ?_
    obtain ⟨r_2, hg_6, h⟩ := kbind_h h
    refine kw_callV (As := [ki x1, ki x2, ki x4]) C (kdec dc_M_inchesOf 25 rfl) 41 rfl cv_M_323 rfl rfl (mt_mm_depthOf l0 hg_6) ⟨rfl, rfl⟩ ⟨Nat.le_of_ble_eq_true rfl, Nat.le_of_ble_eq_true rfl⟩ ⟨Nat.zero_le _, Nat.zero_le _⟩ rfl (Nat.le_of_ble_eq_true rfl) ?_
    change KW x 0 0 Q σ 41 [some (kr 0), some (ki x1), some (ki x2), some (ki x3), some (ki x4)] [ki r_2, ki (σ 8 (w32 ((w32 ((w32 (x1 + 65)) + (w32 (6 * x2)))) + x4)).toNat), ki x3, ki x2, ki x1, kr 0]
    exact kw_sub (L' := [none, none, none, none, none]) trivial (bd_mm_inchesOf_j41 C σ r_2 (σ 8 (w32 ((w32 ((w32 (x1 + 65)) + (w32 (6 * x2)))) + x4)).toNat) x3 x2 x1 h hR)
  · rw [if_neg hc25] at h
    refine kw_bipush (v := 9) C (kdec dc_M_inchesOf 19 rfl) 30 rfl (by decide) ⟨by decide, by decide⟩ ?_
    refine kw_goto C (kdec dc_M_inchesOf 20 rfl) 41 (by decide) ?_
    exact kw_sub (L' := [none, none, none, none, none]) trivial (bd_mm_inchesOf_j41 C σ 9 (σ 8 (w32 ((w32 ((w32 (x1 + 65)) + (w32 (6 * x2)))) + x4)).toNat) x3 x2 x1 h hR)
theorem mt_mm_inchesOf (l0 : Launch) {σ : kM} {x1 : Int} {x2 : Int} {x3 : Int} {x4 : Int} {r : Int} {τ : kM} (h : mm_inchesOf σ x1 x2 x3 x4 = some (r, τ)) : kMet l0 ky_M_inchesOf prog_14_method_53_code 5 (some .int) R0_mm_inchesOf kcl yM σ [kr 0, ki x1, ki x2, ki x3, ki x4] (some (ki r)) τ := kMet.of' [some (kr 0), some (ki x1), some (ki x2), some (ki x3), some (ki x4)] (by decide) (Nat.le_of_ble_eq_true rfl) ⟨rfl, rfl, rfl, rfl, rfl, trivial⟩ (fun x C => bd_mm_inchesOf C σ x1 x2 x3 x4 h (fun r τ e => by cases e; rfl))
def R0_mm_sells : Room := ({ frames := 2, cells := 0, slots := 0, locals := 46 } : Room)
def mm_sells_l2_j124 (σ : kM) (x1 : Int) (x2 : Int) (x3 : Int) : Option ((kM × Int) ⊕ ((kM))) :=
  klet (w32 (x3 + 1)) fun x3_16 =>
  some (Sum.inl (σ, x3_16))
set_option maxHeartbeats 4000000 in
theorem bd_mm_sells_l2_j124 {x : kX} {l0 : Launch} {Q : State → Prop} (C : kCx x prog_14_method_54_code "PoetFinesModel" none kcl yM 4 l0 R0_mm_sells) (σ : kM) (x1 : Int) (x2 : Int) (x3 : Int) {out : (kM × Int) ⊕ ((kM))} (h : mm_sells_l2_j124 σ x1 x2 x3 = some out) (hC : ∀ (σ' : kM) (x3' : Int), out = Sum.inl (σ', x3') → KW x 0 0 Q σ' 2 [some (kr 0), some (ki x1), some (ki x2), some (ki x3')] []) (hX130 : ∀ (σ' : kM), out = Sum.inr σ' → KW x 0 0 Q σ' 130 [none, none, none, none] []) : KW x 0 0 Q σ 124 [some (kr 0), some (ki x1), some (ki x2), some (ki x3)] [] := by
  unfold mm_sells_l2_j124 at h
  obtain ⟨x3_16, ex3_16, h⟩ := klet_h h
  refine kw_iinc (L' := [some (kr 0), some (ki x1), some (ki x2), some (ki x3_16)]) C (kdec dc_M_sells 82 rfl) 127 rfl rfl (by decide) rfl (by rw [ex3_16]; rfl) ?_
  refine kw_goto C (kdec dc_M_sells 83 rfl) 2 (by decide) ?_
  obtain rfl := Option.some.inj h
  exact (hC _ _ rfl)
def mm_sells_l2_j65 (σ : kM) (x1 : Int) (x2 : Int) (x3 : Int) : Option ((kM × Int) ⊕ ((kM))) :=
  klet (w32 ((w32 (x1 + 1)) + x3)) fun y_4 =>
  kchk (0 ≤ y_4 ∧ y_4 < 290) <|
  kchk (0 ≤ y_4 ∧ y_4 < 290) <|
  klet (kst σ 8 (kup (σ 8) y_4.toNat (w32 ((σ 8 y_4.toNat) - 1)))) fun σ_7 =>
  kchk (0 ≤ (w32 ((w32 (x1 + 17)) + x2)) ∧ (w32 ((w32 (x1 + 17)) + x2)) < 290) <|
  if (σ_7 8 (w32 ((w32 (x1 + 17)) + x2)).toNat) = 999 then
    mm_sells_l2_j124 σ_7 x1 x2 x3
  else
    klet (w32 ((w32 (x1 + 17)) + x2)) fun y_9 =>
    kchk (0 ≤ y_9 ∧ y_9 < 290) <|
    kchk (0 ≤ y_9 ∧ y_9 < 290) <|
    klet (kst σ_7 8 (kup (σ_7 8) y_9.toNat (w32 ((σ_7 8 y_9.toNat) + 1)))) fun σ_12 =>
    kchk (0 ≤ x2 ∧ x2 < 4) <|
    kchk (0 ≤ x2 ∧ x2 < 4) <|
    klet (kst σ_12 11 (kup (σ_12 11) x2.toNat (w32 ((σ_12 11 x2.toNat) + 1)))) fun σ_15 =>
    mm_sells_l2_j124 σ_15 x1 x2 x3
set_option maxHeartbeats 4000000 in
theorem bd_mm_sells_l2_j65 {x : kX} {l0 : Launch} {Q : State → Prop} (C : kCx x prog_14_method_54_code "PoetFinesModel" none kcl yM 4 l0 R0_mm_sells) (σ : kM) (x1 : Int) (x2 : Int) (x3 : Int) {out : (kM × Int) ⊕ ((kM))} (h : mm_sells_l2_j65 σ x1 x2 x3 = some out) (hC : ∀ (σ' : kM) (x3' : Int), out = Sum.inl (σ', x3') → KW x 0 0 Q σ' 2 [some (kr 0), some (ki x1), some (ki x2), some (ki x3')] []) (hX130 : ∀ (σ' : kM), out = Sum.inr σ' → KW x 0 0 Q σ' 130 [none, none, none, none] []) : KW x 0 0 Q σ 65 [some (kr 0), some (ki x1), some (ki x2), some (ki x3)] [] := by
  unfold mm_sells_l2_j65 at h
  refine kw_aload_n C (kdec dc_M_sells 39 rfl) rfl 66 rfl rfl ?_
  refine kw_getR C (kdec dc_M_sells 40 rfl) 69 rfl fd_M_M_48_0 ?_
  refine kw_iload_n C (kdec dc_M_sells 41 rfl) rfl 70 rfl rfl ?_
  refine kw_iconst C (kdec dc_M_sells 42 rfl) 71 rfl rfl ⟨by decide, by decide⟩ ?_
  refine kw_iadd C (kdec dc_M_sells 43 rfl) 72 rfl ?_
  refine kw_iload_n C (kdec dc_M_sells 44 rfl) rfl 73 rfl rfl ?_
  refine kw_iadd C (kdec dc_M_sells 45 rfl) 74 rfl ?_
  obtain ⟨y_4, ey_4, h⟩ := klet_h h
  refine kw_top ey_4 ?_
  refine kw_dup2 C (kdec dc_M_sells 46 rfl) 75 rfl rfl rfl ?_
  obtain ⟨hc_5, h⟩ := kchk_h h
  refine kw_iald C (kdec dc_M_sells 47 rfl) 76 rfl rfl hc_5.1 hc_5.2 ?_
  refine kw_iconst C (kdec dc_M_sells 48 rfl) 77 rfl rfl ⟨by decide, by decide⟩ ?_
  refine kw_isub C (kdec dc_M_sells 49 rfl) 78 rfl ?_
  obtain ⟨hc_6, h⟩ := kchk_h h
  obtain ⟨σ_7, eσ_7, h⟩ := klet_h h
  refine kw_iast C (kdec dc_M_sells 50 rfl) 79 rfl rfl hc_6.1 hc_6.2 ?_
  refine kw_sig eσ_7 ?_
  refine kw_aload_n C (kdec dc_M_sells 51 rfl) rfl 80 rfl rfl ?_
  refine kw_getR C (kdec dc_M_sells 52 rfl) 83 rfl fd_M_M_48_0 ?_
  refine kw_iload_n C (kdec dc_M_sells 53 rfl) rfl 84 rfl rfl ?_
  refine kw_bipush (v := 17) C (kdec dc_M_sells 54 rfl) 86 rfl (by decide) ⟨by decide, by decide⟩ ?_
  refine kw_iadd C (kdec dc_M_sells 55 rfl) 87 rfl ?_
  refine kw_iload_n C (kdec dc_M_sells 56 rfl) rfl 88 rfl rfl ?_
  refine kw_iadd C (kdec dc_M_sells 57 rfl) 89 rfl ?_
  obtain ⟨hc_8, h⟩ := kchk_h h
  refine kw_iald C (kdec dc_M_sells 58 rfl) 90 rfl rfl hc_8.1 hc_8.2 ?_
  refine kw_sipush (v := 999) C (kdec dc_M_sells 59 rfl) 93 rfl (by decide) ⟨by decide, by decide⟩ ?_
  refine kw_icmp_ne C (kdec dc_M_sells 60 rfl) 99 96 (by decide) rfl (fun hc93 => ?_) (fun hc93 => ?_)
  · rw [if_neg hc93] at h
    refine kw_aload_n C (kdec dc_M_sells 62 rfl) rfl 100 rfl rfl ?_
    refine kw_getR C (kdec dc_M_sells 63 rfl) 103 rfl fd_M_M_48_0 ?_
    refine kw_iload_n C (kdec dc_M_sells 64 rfl) rfl 104 rfl rfl ?_
    refine kw_bipush (v := 17) C (kdec dc_M_sells 65 rfl) 106 rfl (by decide) ⟨by decide, by decide⟩ ?_
    refine kw_iadd C (kdec dc_M_sells 66 rfl) 107 rfl ?_
    refine kw_iload_n C (kdec dc_M_sells 67 rfl) rfl 108 rfl rfl ?_
    refine kw_iadd C (kdec dc_M_sells 68 rfl) 109 rfl ?_
    obtain ⟨y_9, ey_9, h⟩ := klet_h h
    refine kw_top ey_9 ?_
    refine kw_dup2 C (kdec dc_M_sells 69 rfl) 110 rfl rfl rfl ?_
    obtain ⟨hc_10, h⟩ := kchk_h h
    refine kw_iald C (kdec dc_M_sells 70 rfl) 111 rfl rfl hc_10.1 hc_10.2 ?_
    refine kw_iconst C (kdec dc_M_sells 71 rfl) 112 rfl rfl ⟨by decide, by decide⟩ ?_
    refine kw_iadd C (kdec dc_M_sells 72 rfl) 113 rfl ?_
    obtain ⟨hc_11, h⟩ := kchk_h h
    obtain ⟨σ_12, eσ_12, h⟩ := klet_h h
    refine kw_iast C (kdec dc_M_sells 73 rfl) 114 rfl rfl hc_11.1 hc_11.2 ?_
    refine kw_sig eσ_12 ?_
    refine kw_aload_n C (kdec dc_M_sells 74 rfl) rfl 115 rfl rfl ?_
    refine kw_getR C (kdec dc_M_sells 75 rfl) 118 rfl fd_M_M_57_0 ?_
    refine kw_iload_n C (kdec dc_M_sells 76 rfl) rfl 119 rfl rfl ?_
    refine kw_dup2 C (kdec dc_M_sells 77 rfl) 120 rfl rfl rfl ?_
    obtain ⟨hc_13, h⟩ := kchk_h h
    refine kw_iald C (kdec dc_M_sells 78 rfl) 121 rfl rfl hc_13.1 hc_13.2 ?_
    refine kw_iconst C (kdec dc_M_sells 79 rfl) 122 rfl rfl ⟨by decide, by decide⟩ ?_
    refine kw_iadd C (kdec dc_M_sells 80 rfl) 123 rfl ?_
    obtain ⟨hc_14, h⟩ := kchk_h h
    obtain ⟨σ_15, eσ_15, h⟩ := klet_h h
    refine kw_iast C (kdec dc_M_sells 81 rfl) 124 rfl rfl hc_14.1 hc_14.2 ?_
    refine kw_sig eσ_15 ?_
    exact bd_mm_sells_l2_j124 C σ_15 x1 x2 x3 h hC hX130
  · rw [if_pos hc93] at h
    refine kw_goto C (kdec dc_M_sells 61 rfl) 124 (by decide) ?_
    exact bd_mm_sells_l2_j124 C σ_7 x1 x2 x3 h hC hX130
def mm_sells_l2 (σ : kM) (x1 : Int) (x2 : Int) (x3 : Int) : Option ((kM × Int) ⊕ ((kM))) :=
  if (σ 0 2) ≤ x3 then
    some (Sum.inr σ)
  else
    kchk (0 ≤ (w32 ((w32 (x1 + 1)) + x3)) ∧ (w32 ((w32 (x1 + 1)) + x3)) < 290) <|
    if (σ 8 (w32 ((w32 (x1 + 1)) + x3)).toNat) = 0 then
      mm_sells_l2_j124 σ x1 x2 x3
    else
      kchk (0 ≤ (w32 ((w32 (x1 + 1)) + x3)) ∧ (w32 ((w32 (x1 + 1)) + x3)) < 290) <|
      (mm_tells σ x1 x2 x3 (σ 8 (w32 ((w32 (x1 + 1)) + x3)).toNat)).bind fun σ_3 =>
      if (σ_3 0 6) = ((-1)) then
        mm_sells_l2_j65 σ_3 x1 x2 x3
      else
        (mm_reckons σ_3 (σ_3 0 6)).bind fun (r_17, σ_18) =>
        if 0 < r_17 then
          mm_sells_l2_j65 σ_18 x1 x2 x3
        else
          mm_sells_l2_j124 σ_18 x1 x2 x3
set_option maxHeartbeats 4000000 in
theorem bd_mm_sells_l2 {x : kX} {l0 : Launch} {Q : State → Prop} (C : kCx x prog_14_method_54_code "PoetFinesModel" none kcl yM 4 l0 R0_mm_sells) (σ : kM) (x1 : Int) (x2 : Int) (x3 : Int) {out : (kM × Int) ⊕ ((kM))} (h : mm_sells_l2 σ x1 x2 x3 = some out) (hC : ∀ (σ' : kM) (x3' : Int), out = Sum.inl (σ', x3') → KW x 0 0 Q σ' 2 [some (kr 0), some (ki x1), some (ki x2), some (ki x3')] []) (hX130 : ∀ (σ' : kM), out = Sum.inr σ' → KW x 0 0 Q σ' 130 [none, none, none, none] []) : KW x 0 0 Q σ 2 [some (kr 0), some (ki x1), some (ki x2), some (ki x3)] [] := by
  unfold mm_sells_l2 at h
  refine kw_iload_n C (kdec dc_M_sells 2 rfl) rfl 3 rfl rfl ?_
  refine kw_aload_n C (kdec dc_M_sells 3 rfl) rfl 4 rfl rfl ?_
  refine kw_getI C (kdec dc_M_sells 4 rfl) 7 rfl fd_M_M_270_0 ?_
  refine kw_icmp_ge C (kdec dc_M_sells 5 rfl) 130 10 (by decide) rfl (fun hc7 => ?_) (fun hc7 => ?_)
  · rw [if_pos hc7] at h
    obtain rfl := Option.some.inj h
    exact kw_sub (L' := [none, none, none, none]) trivial (hX130 _ rfl)
  · rw [if_neg hc7] at h
    refine kw_aload_n C (kdec dc_M_sells 6 rfl) rfl 11 rfl rfl ?_
    refine kw_getR C (kdec dc_M_sells 7 rfl) 14 rfl fd_M_M_48_0 ?_
    refine kw_iload_n C (kdec dc_M_sells 8 rfl) rfl 15 rfl rfl ?_
    refine kw_iconst C (kdec dc_M_sells 9 rfl) 16 rfl rfl ⟨by decide, by decide⟩ ?_
    refine kw_iadd C (kdec dc_M_sells 10 rfl) 17 rfl ?_
    refine kw_iload_n C (kdec dc_M_sells 11 rfl) rfl 18 rfl rfl ?_
    refine kw_iadd C (kdec dc_M_sells 12 rfl) 19 rfl ?_
    obtain ⟨hc_1, h⟩ := kchk_h h
    refine kw_iald C (kdec dc_M_sells 13 rfl) 20 rfl rfl hc_1.1 hc_1.2 ?_
    refine kw_if_ne C (kdec dc_M_sells 14 rfl) 26 23 (by decide) rfl (fun hc20 => ?_) (fun hc20 => ?_)
    · rw [if_neg hc20] at h
      refine kw_aload_n C (kdec dc_M_sells 16 rfl) rfl 27 rfl rfl ?_
      refine kw_iload_n C (kdec dc_M_sells 17 rfl) rfl 28 rfl rfl ?_
      refine kw_iload_n C (kdec dc_M_sells 18 rfl) rfl 29 rfl rfl ?_
      refine kw_iload_n C (kdec dc_M_sells 19 rfl) rfl 30 rfl rfl ?_
      refine kw_aload_n C (kdec dc_M_sells 20 rfl) rfl 31 rfl rfl ?_
      refine kw_getR C (kdec dc_M_sells 21 rfl) 34 rfl fd_M_M_48_0 ?_
      refine kw_iload_n C (kdec dc_M_sells 22 rfl) rfl 35 rfl rfl ?_
      refine kw_iconst C (kdec dc_M_sells 23 rfl) 36 rfl rfl ⟨by decide, by decide⟩ ?_
      refine kw_iadd C (kdec dc_M_sells 24 rfl) 37 rfl ?_
      refine kw_iload_n C (kdec dc_M_sells 25 rfl) rfl 38 rfl rfl ?_
      refine kw_iadd C (kdec dc_M_sells 26 rfl) 39 rfl ?_
      obtain ⟨hc_2, h⟩ := kchk_h h
      refine kw_iald C (kdec dc_M_sells 27 rfl) 40 rfl rfl hc_2.1 hc_2.2 ?_
      obtain ⟨σ_3, hg_20, h⟩ := kbind_h h
      refine kw_callV (As := [ki x1, ki x2, ki x3, ki (σ 8 (w32 ((w32 (x1 + 1)) + x3)).toNat)]) C (kdec dc_M_sells 28 rfl) 43 rfl cv_M_306 rfl rfl (mt_mm_tells l0 hg_20) ⟨rfl, rfl⟩ ⟨Nat.le_of_ble_eq_true rfl, Nat.le_of_ble_eq_true rfl⟩ ⟨Nat.zero_le _, Nat.zero_le _⟩ rfl (Nat.le_of_ble_eq_true rfl) ?_
      change KW x 0 0 Q σ_3 43 [some (kr 0), some (ki x1), some (ki x2), some (ki x3)] []
      refine kw_aload_n C (kdec dc_M_sells 29 rfl) rfl 44 rfl rfl ?_
      refine kw_getI C (kdec dc_M_sells 30 rfl) 47 rfl fd_M_M_19_0 ?_
      refine kw_iconst C (kdec dc_M_sells 31 rfl) 48 rfl rfl ⟨by decide, by decide⟩ ?_
      refine kw_icmp_eq C (kdec dc_M_sells 32 rfl) 65 51 (by decide) rfl (fun hc48 => ?_) (fun hc48 => ?_)
      · rw [if_pos hc48] at h
        exact bd_mm_sells_l2_j65 C σ_3 x1 x2 x3 h hC hX130
      · rw [if_neg hc48] at h
        refine kw_aload_n C (kdec dc_M_sells 33 rfl) rfl 52 rfl rfl ?_
        refine kw_aload_n C (kdec dc_M_sells 34 rfl) rfl 53 rfl rfl ?_
        refine kw_getI C (kdec dc_M_sells 35 rfl) 56 rfl fd_M_M_19_0 ?_
        obtain ⟨⟨r_17, σ_18⟩, hg_19, h⟩ := kbind_h h
        dsimp only at h
        refine kw_callV (As := [ki (σ_3 0 6)]) C (kdec dc_M_sells 36 rfl) 59 rfl cv_M_310 rfl rfl (mt_mm_reckons l0 hg_19) ⟨rfl, rfl⟩ ⟨Nat.le_of_ble_eq_true rfl, Nat.le_of_ble_eq_true rfl⟩ ⟨Nat.zero_le _, Nat.zero_le _⟩ rfl (Nat.le_of_ble_eq_true rfl) ?_
        change KW x 0 0 Q σ_18 59 [some (kr 0), some (ki x1), some (ki x2), some (ki x3)] [ki r_17]
        refine kw_if_gt C (kdec dc_M_sells 37 rfl) 65 62 (by decide) rfl (fun hc59 => ?_) (fun hc59 => ?_)
        · rw [if_pos hc59] at h
          exact bd_mm_sells_l2_j65 C σ_18 x1 x2 x3 h hC hX130
        · rw [if_neg hc59] at h
          refine kw_goto C (kdec dc_M_sells 38 rfl) 124 (by decide) ?_
          exact bd_mm_sells_l2_j124 C σ_18 x1 x2 x3 h hC hX130
    · rw [if_pos hc20] at h
      refine kw_goto C (kdec dc_M_sells 15 rfl) 124 (by decide) ?_
      exact bd_mm_sells_l2_j124 C σ x1 x2 x3 h hC hX130
theorem lp_mm_sells_l2 {x : kX} {l0 : Launch} {Q : State → Prop} (C : kCx x prog_14_method_54_code "PoetFinesModel" none kcl yM 4 l0 R0_mm_sells) (x1 : Int) (x2 : Int) {ex : (kM)} (hX130 : ∀ (σ' : kM), ex = σ' → KW x 0 0 Q σ' 130 [none, none, none, none] []) (n : Nat) (σ : kM) (x3 : Int) (h : kloop (fun st => mm_sells_l2 st.1 x1 x2 st.2) n (σ, x3) = some ex) : KW x 0 0 Q σ 2 [some (kr 0), some (ki x1), some (ki x2), some (ki x3)] [] :=
  kloop_ind (P := (fun st : kM × Int => KW x 0 0 Q st.1 2 [some (kr 0), some (ki x1), some (ki x2), some (ki (st.2))] [])) (fun st out hb hc hx => bd_mm_sells_l2 C st.1 x1 x2 st.2 hb (fun a0 a1 e => hc _ e) (fun a0 e => hX130 _ ((hx _ e).symm))) n (σ, x3) h
def mm_sells (σ : kM) (x1 : Int) (x2 : Int) : Option (kM) :=
  (kloop (fun st => mm_sells_l2 st.1 x1 x2 st.2) kFuel (σ, 0)).bind fun σ_23 =>
  some σ_23
set_option maxHeartbeats 4000000 in
theorem bd_mm_sells {x : kX} {l0 : Launch} {Q : State → Prop} (C : kCx x prog_14_method_54_code "PoetFinesModel" none kcl yM 4 l0 R0_mm_sells) (σ : kM) (x1 : Int) (x2 : Int) {out : kM} (h : mm_sells σ x1 x2 = some out) (hR : ∀ (τ : kM), out = τ → Q = kQ x none τ 0 0) : KW x 0 0 Q σ 0 [some (kr 0), some (ki x1), some (ki x2), none] [] := by
  unfold mm_sells at h
  refine kw_iconst C (kdec dc_M_sells 0 rfl) 1 rfl rfl ⟨by decide, by decide⟩ ?_
  refine kw_istore_n (L' := [some (kr 0), some (ki x1), some (ki x2), some (ki 0)]) C (kdec dc_M_sells 1 rfl) rfl 2 rfl (by decide) rfl rfl ?_
  obtain ⟨ex_21, hl_22, h⟩ := kbind_h h
  refine lp_mm_sells_l2 C x1 x2 ?_ kFuel σ 0 hl_22
  · intro σ_23 e
    subst ex_21
    try dsimp only at h
    obtain rfl := Option.some.inj h
    exact kw_Q (hR _ rfl) (kw_return C (kdec dc_M_sells 84 rfl))
theorem mt_mm_sells (l0 : Launch) {σ : kM} {x1 : Int} {x2 : Int} {τ : kM} (h : mm_sells σ x1 x2 = some τ) : kMet l0 ky_M_sells prog_14_method_54_code 4 none R0_mm_sells kcl yM σ [kr 0, ki x1, ki x2] none τ := kMet.of' [some (kr 0), some (ki x1), some (ki x2), none] (by decide) (Nat.le_of_ble_eq_true rfl) ⟨rfl, rfl, rfl, trivial⟩ (fun x C => bd_mm_sells C σ x1 x2 h (fun τ e => by subst e; rfl))
def R0_mm_reads : Room := ({ frames := 4, cells := 0, slots := 0, locals := 96 } : Room)
def mm_reads_l28_j306 (σ : kM) (x1 : Int) (x2 : Int) (x3 : Int) (x4 : Int) (x5 : Int) : Option ((kM × Int × Int) ⊕ ((kM × Int))) :=
  klet (w32 (x5 + 1)) fun x5_42 =>
  some (Sum.inl (σ, x4, x5_42))
set_option maxHeartbeats 4000000 in
theorem bd_mm_reads_l28_j306 {x : kX} {l0 : Launch} {Q : State → Prop} (C : kCx x prog_14_method_55_code "PoetFinesModel" none kcl yM 9 l0 R0_mm_reads) (σ : kM) (x1 : Int) (x2 : Int) (x3 : Int) (x4 : Int) (x5 : Int) {out : (kM × Int × Int) ⊕ ((kM × Int))} (h : mm_reads_l28_j306 σ x1 x2 x3 x4 x5 = some out) (hC : ∀ (σ' : kM) (x4' : Int) (x5' : Int), out = Sum.inl (σ', x4', x5') → KW x 0 0 Q σ' 28 [some (kr 0), some (ki x1), some (ki x2), some (ki x3), some (ki x4'), some (ki x5'), none, none, none] []) (hX312 : ∀ (σ' : kM) (x4' : Int), out = Sum.inr (σ', x4') → KW x 0 0 Q σ' 312 [some (kr 0), some (ki x1), some (ki x2), some (ki x3), some (ki x4'), none, none, none, none] []) : KW x 0 0 Q σ 306 [some (kr 0), some (ki x1), some (ki x2), some (ki x3), some (ki x4), some (ki x5), none, none, none] [] := by
  unfold mm_reads_l28_j306 at h
  obtain ⟨x5_42, ex5_42, h⟩ := klet_h h
  refine kw_iinc (L' := [some (kr 0), some (ki x1), some (ki x2), some (ki x3), some (ki x4), some (ki x5_42), none, none, none]) C (kdec dc_M_reads 193 rfl) 309 rfl rfl (by decide) rfl (by rw [ex5_42]; rfl) ?_
  refine kw_goto C (kdec dc_M_reads 194 rfl) 28 (by decide) ?_
  obtain rfl := Option.some.inj h
  exact (hC _ _ _ rfl)
def mm_reads_l28_j268 (σ : kM) (x1 : Int) (x2 : Int) (x3 : Int) (x5 : Int) (s0 : Int) : Option ((kM × Int × Int) ⊕ ((kM × Int))) :=
  klet (kst σ 0 (kup (σ 0) 49 (kor (σ 0 49) (kshl 1 x5)))) fun σ_37 =>
  kchk (0 ≤ x2 ∧ x2 < 4) <|
  kchk (0 ≤ x2 ∧ x2 < 4) <|
  klet (kst σ_37 17 (kup (σ_37 17) x2.toNat (kor (σ_37 17 x2.toNat) (kshl 1 x5)))) fun σ_40 =>
  klet (kst σ_40 0 (kup (σ_40 0) 50 (w32 ((σ_40 0 50) + 1)))) fun σ_41 =>
  mm_reads_l28_j306 σ_41 x1 x2 x3 s0 x5
set_option maxHeartbeats 4000000 in
theorem bd_mm_reads_l28_j268 {x : kX} {l0 : Launch} {Q : State → Prop} (C : kCx x prog_14_method_55_code "PoetFinesModel" none kcl yM 9 l0 R0_mm_reads) (σ : kM) (x1 : Int) (x2 : Int) (x3 : Int) (x5 : Int) (s0 : Int) {out : (kM × Int × Int) ⊕ ((kM × Int))} (h : mm_reads_l28_j268 σ x1 x2 x3 x5 s0 = some out) (hC : ∀ (σ' : kM) (x4' : Int) (x5' : Int), out = Sum.inl (σ', x4', x5') → KW x 0 0 Q σ' 28 [some (kr 0), some (ki x1), some (ki x2), some (ki x3), some (ki x4'), some (ki x5'), none, none, none] []) (hX312 : ∀ (σ' : kM) (x4' : Int), out = Sum.inr (σ', x4') → KW x 0 0 Q σ' 312 [some (kr 0), some (ki x1), some (ki x2), some (ki x3), some (ki x4'), none, none, none, none] []) : KW x 0 0 Q σ 268 [some (kr 0), some (ki x1), some (ki x2), some (ki x3), none, some (ki x5), none, none, none] [ki s0] := by
  unfold mm_reads_l28_j268 at h
  refine kw_istore (L' := [some (kr 0), some (ki x1), some (ki x2), some (ki x3), some (ki s0), some (ki x5), none, none, none]) C (kdec dc_M_reads 168 rfl) 270 rfl (by decide) rfl rfl ?_
  refine kw_aload_n C (kdec dc_M_reads 169 rfl) rfl 271 rfl rfl ?_
  refine kw_dup C (kdec dc_M_reads 170 rfl) 272 rfl rfl ?_
  refine kw_getI C (kdec dc_M_reads 171 rfl) 275 rfl fd_M_M_337_0 ?_
  refine kw_iconst C (kdec dc_M_reads 172 rfl) 276 rfl rfl ⟨by decide, by decide⟩ ?_
  refine kw_iload C (kdec dc_M_reads 173 rfl) 278 rfl rfl ?_
  refine kw_ishl C (kdec dc_M_reads 174 rfl) 279 rfl ?_
  refine kw_ior C (kdec dc_M_reads 175 rfl) 280 rfl ?_
  obtain ⟨σ_37, eσ_37, h⟩ := klet_h h
  refine kw_putI C (kdec dc_M_reads 176 rfl) 283 rfl fp_M_M_337_0 ?_
  refine kw_sig eσ_37 ?_
  refine kw_aload_n C (kdec dc_M_reads 177 rfl) rfl 284 rfl rfl ?_
  refine kw_getR C (kdec dc_M_reads 178 rfl) 287 rfl fd_M_M_75_0 ?_
  refine kw_iload_n C (kdec dc_M_reads 179 rfl) rfl 288 rfl rfl ?_
  refine kw_dup2 C (kdec dc_M_reads 180 rfl) 289 rfl rfl rfl ?_
  obtain ⟨hc_38, h⟩ := kchk_h h
  refine kw_iald C (kdec dc_M_reads 181 rfl) 290 rfl rfl hc_38.1 hc_38.2 ?_
  refine kw_iconst C (kdec dc_M_reads 182 rfl) 291 rfl rfl ⟨by decide, by decide⟩ ?_
  refine kw_iload C (kdec dc_M_reads 183 rfl) 293 rfl rfl ?_
  refine kw_ishl C (kdec dc_M_reads 184 rfl) 294 rfl ?_
  refine kw_ior C (kdec dc_M_reads 185 rfl) 295 rfl ?_
  obtain ⟨hc_39, h⟩ := kchk_h h
  obtain ⟨σ_40, eσ_40, h⟩ := klet_h h
  refine kw_iast C (kdec dc_M_reads 186 rfl) 296 rfl rfl hc_39.1 hc_39.2 ?_
  refine kw_sig eσ_40 ?_
  refine kw_aload_n C (kdec dc_M_reads 187 rfl) rfl 297 rfl rfl ?_
  refine kw_dup C (kdec dc_M_reads 188 rfl) 298 rfl rfl ?_
  refine kw_getI C (kdec dc_M_reads 189 rfl) 301 rfl fd_M_M_340_0 ?_
  refine kw_iconst C (kdec dc_M_reads 190 rfl) 302 rfl rfl ⟨by decide, by decide⟩ ?_
  refine kw_iadd C (kdec dc_M_reads 191 rfl) 303 rfl ?_
  obtain ⟨σ_41, eσ_41, h⟩ := klet_h h
  refine kw_putI C (kdec dc_M_reads 192 rfl) 306 rfl fp_M_M_340_0 ?_
  refine kw_sig eσ_41 ?_
  exact bd_mm_reads_l28_j306 C σ_41 x1 x2 x3 s0 x5 h hC hX312
def mm_reads_l28_j245 (σ : kM) (x1 : Int) (x2 : Int) (x3 : Int) (x4 : Int) (x5 : Int) (x7 : Int) (x8 : Int) (s0 : Int) : Option ((kM × Int × Int) ⊕ ((kM × Int))) :=
  klet (kst σ 0 (kup (σ 0) 45 s0)) fun σ_36 =>
  if (w32 (x7 - x8)) ≤ x4 then
    mm_reads_l28_j268 σ_36 x1 x2 x3 x5 x4
  else
    mm_reads_l28_j268 σ_36 x1 x2 x3 x5 (w32 (x7 - x8))
set_option maxHeartbeats 4000000 in
theorem bd_mm_reads_l28_j245 {x : kX} {l0 : Launch} {Q : State → Prop} (C : kCx x prog_14_method_55_code "PoetFinesModel" none kcl yM 9 l0 R0_mm_reads) (σ : kM) (x1 : Int) (x2 : Int) (x3 : Int) (x4 : Int) (x5 : Int) (x7 : Int) (x8 : Int) (s0 : Int) {out : (kM × Int × Int) ⊕ ((kM × Int))} (h : mm_reads_l28_j245 σ x1 x2 x3 x4 x5 x7 x8 s0 = some out) (hC : ∀ (σ' : kM) (x4' : Int) (x5' : Int), out = Sum.inl (σ', x4', x5') → KW x 0 0 Q σ' 28 [some (kr 0), some (ki x1), some (ki x2), some (ki x3), some (ki x4'), some (ki x5'), none, none, none] []) (hX312 : ∀ (σ' : kM) (x4' : Int), out = Sum.inr (σ', x4') → KW x 0 0 Q σ' 312 [some (kr 0), some (ki x1), some (ki x2), some (ki x3), some (ki x4'), none, none, none, none] []) : KW x 0 0 Q σ 245 [some (kr 0), some (ki x1), some (ki x2), some (ki x3), some (ki x4), some (ki x5), none, some (ki x7), some (ki x8)] [ki s0, kr 0] := by
  unfold mm_reads_l28_j245 at h
  obtain ⟨σ_36, eσ_36, h⟩ := klet_h h
  refine kw_putI C (kdec dc_M_reads 157 rfl) 248 rfl fp_M_M_293_0 ?_
  refine kw_sig eσ_36 ?_
  refine kw_iload C (kdec dc_M_reads 158 rfl) 250 rfl rfl ?_
  refine kw_iload C (kdec dc_M_reads 159 rfl) 252 rfl rfl ?_
  refine kw_isub C (kdec dc_M_reads 160 rfl) 253 rfl ?_
  refine kw_iload C (kdec dc_M_reads 161 rfl) 255 rfl rfl ?_
  refine kw_icmp_le C (kdec dc_M_reads 162 rfl) 266 258 (by decide) rfl (fun hc255 => ?_) (fun hc255 => ?_)
  · rw [if_pos hc255] at h
    refine kw_iload C (kdec dc_M_reads 167 rfl) 268 rfl rfl ?_
    exact kw_sub (L' := [some (kr 0), some (ki x1), some (ki x2), some (ki x3), none, some (ki x5), none, none, none]) ⟨rfl, rfl, rfl, rfl, rfl, trivial⟩ (bd_mm_reads_l28_j268 C σ_36 x1 x2 x3 x5 x4 h hC hX312)
  · rw [if_neg hc255] at h
    refine kw_iload C (kdec dc_M_reads 163 rfl) 260 rfl rfl ?_
    refine kw_iload C (kdec dc_M_reads 164 rfl) 262 rfl rfl ?_
    refine kw_isub C (kdec dc_M_reads 165 rfl) 263 rfl ?_
    refine kw_goto C (kdec dc_M_reads 166 rfl) 268 (by decide) ?_
    exact kw_sub (L' := [some (kr 0), some (ki x1), some (ki x2), some (ki x3), none, some (ki x5), none, none, none]) ⟨rfl, rfl, rfl, rfl, rfl, trivial⟩ (bd_mm_reads_l28_j268 C σ_36 x1 x2 x3 x5 (w32 (x7 - x8)) h hC hX312)
def mm_reads_l28 (σ : kM) (x1 : Int) (x2 : Int) (x3 : Int) (x4 : Int) (x5 : Int) : Option ((kM × Int × Int) ⊕ ((kM × Int))) :=
  if (σ 0 2) ≤ x5 then
    some (Sum.inr (σ, x4))
  else
    (mm_inchesOf σ x1 x2 x5 x3).bind fun (r_6, σ_7) =>
    if r_6 = 0 then
      mm_reads_l28_j306 σ_7 x1 x2 x3 x4 x5
    else
      (mm_fineOf σ_7 x1 x2 x5 x3 r_6).bind fun (r_8, σ_9) =>
      kchk (0 ≤ (w32 ((w32 (x1 + 17)) + x2)) ∧ (w32 ((w32 (x1 + 17)) + x2)) < 290) <|
      (mm_lesser σ_9 r_8 (σ_9 8 (w32 ((w32 (x1 + 17)) + x2)).toNat)).bind fun r_11 =>
      kchk (0 ≤ (w32 ((w32 (x1 + 9)) + x5)) ∧ (w32 ((w32 (x1 + 9)) + x5)) < 290) <|
      (mm_lesser σ_9 99 (w32 ((σ_9 8 (w32 ((w32 (x1 + 9)) + x5)).toNat) + r_6))).bind fun r_13 =>
      kchk (0 ≤ (w32 ((w32 (x1 + 9)) + x5)) ∧ (w32 ((w32 (x1 + 9)) + x5)) < 290) <|
      klet (kst σ_9 8 (kup (σ_9 8) ((w32 ((w32 (x1 + 9)) + x5)).toNat) r_13)) fun σ_15 =>
      klet (w32 ((w32 (x1 + 17)) + x2)) fun y_16 =>
      kchk (0 ≤ y_16 ∧ y_16 < 290) <|
      kchk (0 ≤ y_16 ∧ y_16 < 290) <|
      klet (kst σ_15 8 (kup (σ_15 8) y_16.toNat (w32 ((σ_15 8 y_16.toNat) - r_11)))) fun σ_19 =>
      kchk (0 ≤ (w32 ((w32 (x1 + 1)) + x5)) ∧ (w32 ((w32 (x1 + 1)) + x5)) < 290) <|
      (mm_lesser σ_19 999 (w32 ((σ_19 8 (w32 ((w32 (x1 + 1)) + x5)).toNat) + r_11))).bind fun r_21 =>
      kchk (0 ≤ (w32 ((w32 (x1 + 1)) + x5)) ∧ (w32 ((w32 (x1 + 1)) + x5)) < 290) <|
      klet (kst σ_19 8 (kup (σ_19 8) ((w32 ((w32 (x1 + 1)) + x5)).toNat) r_21)) fun σ_23 =>
      klet (w32 ((w32 ((w32 (x1 + 29)) + (w32 (8 * x2)))) + x5)) fun y_24 =>
      kchk (0 ≤ y_24 ∧ y_24 < 290) <|
      kchk (0 ≤ y_24 ∧ y_24 < 290) <|
      klet (kst σ_23 8 (kup (σ_23 8) y_24.toNat (w32 ((σ_23 8 y_24.toNat) + 1)))) fun σ_27 =>
      kchk (0 ≤ x2 ∧ x2 < 4) <|
      kchk (0 ≤ x2 ∧ x2 < 4) <|
      klet (kst σ_27 10 (kup (σ_27 10) x2.toNat (w32 ((σ_27 10 x2.toNat) + r_11)))) fun σ_30 =>
      klet (kst σ_30 0 (kup (σ_30 0) 44 (w32 ((σ_30 0 44) + r_6)))) fun σ_31 =>
      klet (w32 ((w32 (8 * x2)) + x5)) fun y_32 =>
      kchk (0 ≤ y_32 ∧ y_32 < 32) <|
      kchk (0 ≤ y_32 ∧ y_32 < 32) <|
      klet (kst σ_31 14 (kup (σ_31 14) y_32.toNat (w32 ((σ_31 14 y_32.toNat) + r_6)))) fun σ_35 =>
      if r_6 ≤ (σ_35 0 45) then
        mm_reads_l28_j245 σ_35 x1 x2 x3 x4 x5 r_8 r_11 (σ_35 0 45)
      else
        mm_reads_l28_j245 σ_35 x1 x2 x3 x4 x5 r_8 r_11 r_6
set_option maxHeartbeats 4000000 in
theorem bd_mm_reads_l28 {x : kX} {l0 : Launch} {Q : State → Prop} (C : kCx x prog_14_method_55_code "PoetFinesModel" none kcl yM 9 l0 R0_mm_reads) (σ : kM) (x1 : Int) (x2 : Int) (x3 : Int) (x4 : Int) (x5 : Int) {out : (kM × Int × Int) ⊕ ((kM × Int))} (h : mm_reads_l28 σ x1 x2 x3 x4 x5 = some out) (hC : ∀ (σ' : kM) (x4' : Int) (x5' : Int), out = Sum.inl (σ', x4', x5') → KW x 0 0 Q σ' 28 [some (kr 0), some (ki x1), some (ki x2), some (ki x3), some (ki x4'), some (ki x5'), none, none, none] []) (hX312 : ∀ (σ' : kM) (x4' : Int), out = Sum.inr (σ', x4') → KW x 0 0 Q σ' 312 [some (kr 0), some (ki x1), some (ki x2), some (ki x3), some (ki x4'), none, none, none, none] []) : KW x 0 0 Q σ 28 [some (kr 0), some (ki x1), some (ki x2), some (ki x3), some (ki x4), some (ki x5), none, none, none] [] := by
  unfold mm_reads_l28 at h
  refine kw_iload C (kdec dc_M_reads 21 rfl) 30 rfl rfl ?_
  refine kw_aload_n C (kdec dc_M_reads 22 rfl) rfl 31 rfl rfl ?_
  refine kw_getI C (kdec dc_M_reads 23 rfl) 34 rfl fd_M_M_270_0 ?_
  refine kw_icmp_ge C (kdec dc_M_reads 24 rfl) 312 37 (by decide) rfl (fun hc34 => ?_) (fun hc34 => ?_)
  · rw [if_pos hc34] at h
    obtain rfl := Option.some.inj h
    exact kw_sub (L' := [some (kr 0), some (ki x1), some (ki x2), some (ki x3), some (ki x4), none, none, none, none]) ⟨rfl, rfl, rfl, rfl, rfl, trivial⟩ (hX312 _ _ rfl)
  · rw [if_neg hc34] at h
    refine kw_aload_n C (kdec dc_M_reads 25 rfl) rfl 38 rfl rfl ?_
    refine kw_iload_n C (kdec dc_M_reads 26 rfl) rfl 39 rfl rfl ?_
    refine kw_iload_n C (kdec dc_M_reads 27 rfl) rfl 40 rfl rfl ?_
    refine kw_iload C (kdec dc_M_reads 28 rfl) 42 rfl rfl ?_
    refine kw_iload_n C (kdec dc_M_reads 29 rfl) rfl 43 rfl rfl ?_
    obtain ⟨⟨r_6, σ_7⟩, hg_47, h⟩ := kbind_h h
    dsimp only at h
    refine kw_callV (As := [ki x1, ki x2, ki x5, ki x3]) C (kdec dc_M_reads 30 rfl) 46 rfl cv_M_330 rfl rfl (mt_mm_inchesOf l0 hg_47) ⟨rfl, rfl⟩ ⟨Nat.le_of_ble_eq_true rfl, Nat.le_of_ble_eq_true rfl⟩ ⟨Nat.zero_le _, Nat.zero_le _⟩ rfl (Nat.le_of_ble_eq_true rfl) ?_
    change KW x 0 0 Q σ_7 46 [some (kr 0), some (ki x1), some (ki x2), some (ki x3), some (ki x4), some (ki x5), none, none, none] [ki r_6]
    refine kw_istore (L' := [some (kr 0), some (ki x1), some (ki x2), some (ki x3), some (ki x4), some (ki x5), some (ki r_6), none, none]) C (kdec dc_M_reads 31 rfl) 48 rfl (by decide) rfl rfl ?_
    refine kw_iload C (kdec dc_M_reads 32 rfl) 50 rfl rfl ?_
    refine kw_if_ne C (kdec dc_M_reads 33 rfl) 56 53 (by decide) rfl (fun hc50 => ?_) (fun hc50 => ?_)
    · rw [if_neg hc50] at h
      refine kw_aload_n C (kdec dc_M_reads 35 rfl) rfl 57 rfl rfl ?_
      refine kw_iload_n C (kdec dc_M_reads 36 rfl) rfl 58 rfl rfl ?_
      refine kw_iload_n C (kdec dc_M_reads 37 rfl) rfl 59 rfl rfl ?_
      refine kw_iload C (kdec dc_M_reads 38 rfl) 61 rfl rfl ?_
      refine kw_iload_n C (kdec dc_M_reads 39 rfl) rfl 62 rfl rfl ?_
      refine kw_iload C (kdec dc_M_reads 40 rfl) 64 rfl rfl ?_
      obtain ⟨⟨r_8, σ_9⟩, hg_46, h⟩ := kbind_h h
      dsimp only at h
      refine kw_callV (As := [ki x1, ki x2, ki x5, ki x3, ki r_6]) C (kdec dc_M_reads 41 rfl) 67 rfl cv_M_334 rfl rfl (mt_mm_fineOf l0 hg_46) ⟨rfl, rfl⟩ ⟨Nat.le_of_ble_eq_true rfl, Nat.le_of_ble_eq_true rfl⟩ ⟨Nat.zero_le _, Nat.zero_le _⟩ rfl (Nat.le_of_ble_eq_true rfl) ?_
      change KW x 0 0 Q σ_9 67 [some (kr 0), some (ki x1), some (ki x2), some (ki x3), some (ki x4), some (ki x5), some (ki r_6), none, none] [ki r_8]
      refine kw_istore (L' := [some (kr 0), some (ki x1), some (ki x2), some (ki x3), some (ki x4), some (ki x5), some (ki r_6), some (ki r_8), none]) C (kdec dc_M_reads 42 rfl) 69 rfl (by decide) rfl rfl ?_
      refine kw_iload C (kdec dc_M_reads 43 rfl) 71 rfl rfl ?_
      refine kw_aload_n C (kdec dc_M_reads 44 rfl) rfl 72 rfl rfl ?_
      refine kw_getR C (kdec dc_M_reads 45 rfl) 75 rfl fd_M_M_48_0 ?_
      refine kw_iload_n C (kdec dc_M_reads 46 rfl) rfl 76 rfl rfl ?_
      refine kw_bipush (v := 17) C (kdec dc_M_reads 47 rfl) 78 rfl (by decide) ⟨by decide, by decide⟩ ?_
      refine kw_iadd C (kdec dc_M_reads 48 rfl) 79 rfl ?_
      refine kw_iload_n C (kdec dc_M_reads 49 rfl) rfl 80 rfl rfl ?_
      refine kw_iadd C (kdec dc_M_reads 50 rfl) 81 rfl ?_
      obtain ⟨hc_10, h⟩ := kchk_h h
      refine kw_iald C (kdec dc_M_reads 51 rfl) 82 rfl rfl hc_10.1 hc_10.2 ?_
      obtain ⟨r_11, hg_45, h⟩ := kbind_h h
      refine kw_callS (As := [ki r_8, ki (σ_9 8 (w32 ((w32 (x1 + 17)) + x2)).toNat)]) C (kdec dc_M_reads 52 rfl) 85 rfl cs_M_303 (mt_mm_lesser l0 hg_45) ⟨rfl, rfl⟩ ⟨Nat.le_of_ble_eq_true rfl, Nat.le_of_ble_eq_true rfl⟩ ⟨Nat.zero_le _, Nat.zero_le _⟩ rfl (Nat.le_of_ble_eq_true rfl) ?_
      change KW x 0 0 Q σ_9 85 [some (kr 0), some (ki x1), some (ki x2), some (ki x3), some (ki x4), some (ki x5), some (ki r_6), some (ki r_8), none] [ki r_11]
      refine kw_istore (L' := [some (kr 0), some (ki x1), some (ki x2), some (ki x3), some (ki x4), some (ki x5), some (ki r_6), some (ki r_8), some (ki r_11)]) C (kdec dc_M_reads 53 rfl) 87 rfl (by decide) rfl rfl ?_
      refine kw_aload_n C (kdec dc_M_reads 54 rfl) rfl 88 rfl rfl ?_
      refine kw_getR C (kdec dc_M_reads 55 rfl) 91 rfl fd_M_M_48_0 ?_
      refine kw_iload_n C (kdec dc_M_reads 56 rfl) rfl 92 rfl rfl ?_
      refine kw_bipush (v := 9) C (kdec dc_M_reads 57 rfl) 94 rfl (by decide) ⟨by decide, by decide⟩ ?_
      refine kw_iadd C (kdec dc_M_reads 58 rfl) 95 rfl ?_
      refine kw_iload C (kdec dc_M_reads 59 rfl) 97 rfl rfl ?_
      refine kw_iadd C (kdec dc_M_reads 60 rfl) 98 rfl ?_
      refine kw_bipush (v := 99) C (kdec dc_M_reads 61 rfl) 100 rfl (by decide) ⟨by decide, by decide⟩ ?_
      refine kw_aload_n C (kdec dc_M_reads 62 rfl) rfl 101 rfl rfl ?_
      refine kw_getR C (kdec dc_M_reads 63 rfl) 104 rfl fd_M_M_48_0 ?_
      refine kw_iload_n C (kdec dc_M_reads 64 rfl) rfl 105 rfl rfl ?_
      refine kw_bipush (v := 9) C (kdec dc_M_reads 65 rfl) 107 rfl (by decide) ⟨by decide, by decide⟩ ?_
      refine kw_iadd C (kdec dc_M_reads 66 rfl) 108 rfl ?_
      refine kw_iload C (kdec dc_M_reads 67 rfl) 110 rfl rfl ?_
      refine kw_iadd C (kdec dc_M_reads 68 rfl) 111 rfl ?_
      obtain ⟨hc_12, h⟩ := kchk_h h
      refine kw_iald C (kdec dc_M_reads 69 rfl) 112 rfl rfl hc_12.1 hc_12.2 ?_
      refine kw_iload C (kdec dc_M_reads 70 rfl) 114 rfl rfl ?_
      refine kw_iadd C (kdec dc_M_reads 71 rfl) 115 rfl ?_
      obtain ⟨r_13, hg_44, h⟩ := kbind_h h
      refine kw_callS (As := [ki 99, ki (w32 ((σ_9 8 (w32 ((w32 (x1 + 9)) + x5)).toNat) + r_6))]) C (kdec dc_M_reads 72 rfl) 118 rfl cs_M_303 (mt_mm_lesser l0 hg_44) ⟨rfl, rfl⟩ ⟨Nat.le_of_ble_eq_true rfl, Nat.le_of_ble_eq_true rfl⟩ ⟨Nat.zero_le _, Nat.zero_le _⟩ rfl (Nat.le_of_ble_eq_true rfl) ?_
      change KW x 0 0 Q σ_9 118 [some (kr 0), some (ki x1), some (ki x2), some (ki x3), some (ki x4), some (ki x5), some (ki r_6), some (ki r_8), some (ki r_11)] [ki r_13, ki (w32 ((w32 (x1 + 9)) + x5)), kr 8]
      obtain ⟨hc_14, h⟩ := kchk_h h
      obtain ⟨σ_15, eσ_15, h⟩ := klet_h h
      refine kw_iast C (kdec dc_M_reads 73 rfl) 119 rfl rfl hc_14.1 hc_14.2 ?_
      refine kw_sig eσ_15 ?_
      refine kw_aload_n C (kdec dc_M_reads 74 rfl) rfl 120 rfl rfl ?_
      refine kw_getR C (kdec dc_M_reads 75 rfl) 123 rfl fd_M_M_48_0 ?_
      refine kw_iload_n C (kdec dc_M_reads 76 rfl) rfl 124 rfl rfl ?_
      refine kw_bipush (v := 17) C (kdec dc_M_reads 77 rfl) 126 rfl (by decide) ⟨by decide, by decide⟩ ?_
      refine kw_iadd C (kdec dc_M_reads 78 rfl) 127 rfl ?_
      refine kw_iload_n C (kdec dc_M_reads 79 rfl) rfl 128 rfl rfl ?_
      refine kw_iadd C (kdec dc_M_reads 80 rfl) 129 rfl ?_
      obtain ⟨y_16, ey_16, h⟩ := klet_h h
      refine kw_top ey_16 ?_
      refine kw_dup2 C (kdec dc_M_reads 81 rfl) 130 rfl rfl rfl ?_
      obtain ⟨hc_17, h⟩ := kchk_h h
      refine kw_iald C (kdec dc_M_reads 82 rfl) 131 rfl rfl hc_17.1 hc_17.2 ?_
      refine kw_iload C (kdec dc_M_reads 83 rfl) 133 rfl rfl ?_
      refine kw_isub C (kdec dc_M_reads 84 rfl) 134 rfl ?_
      obtain ⟨hc_18, h⟩ := kchk_h h
      obtain ⟨σ_19, eσ_19, h⟩ := klet_h h
      refine kw_iast C (kdec dc_M_reads 85 rfl) 135 rfl rfl hc_18.1 hc_18.2 ?_
      refine kw_sig eσ_19 ?_
      refine kw_aload_n C (kdec dc_M_reads 86 rfl) rfl 136 rfl rfl ?_
      refine kw_getR C (kdec dc_M_reads 87 rfl) 139 rfl fd_M_M_48_0 ?_
      refine kw_iload_n C (kdec dc_M_reads 88 rfl) rfl 140 rfl rfl ?_
      refine kw_iconst C (kdec dc_M_reads 89 rfl) 141 rfl rfl ⟨by decide, by decide⟩ ?_
      refine kw_iadd C (kdec dc_M_reads 90 rfl) 142 rfl ?_
      refine kw_iload C (kdec dc_M_reads 91 rfl) 144 rfl rfl ?_
      refine kw_iadd C (kdec dc_M_reads 92 rfl) 145 rfl ?_
      refine kw_sipush (v := 999) C (kdec dc_M_reads 93 rfl) 148 rfl (by decide) ⟨by decide, by decide⟩ ?_
      refine kw_aload_n C (kdec dc_M_reads 94 rfl) rfl 149 rfl rfl ?_
      refine kw_getR C (kdec dc_M_reads 95 rfl) 152 rfl fd_M_M_48_0 ?_
      refine kw_iload_n C (kdec dc_M_reads 96 rfl) rfl 153 rfl rfl ?_
      refine kw_iconst C (kdec dc_M_reads 97 rfl) 154 rfl rfl ⟨by decide, by decide⟩ ?_
      refine kw_iadd C (kdec dc_M_reads 98 rfl) 155 rfl ?_
      refine kw_iload C (kdec dc_M_reads 99 rfl) 157 rfl rfl ?_
      refine kw_iadd C (kdec dc_M_reads 100 rfl) 158 rfl ?_
      obtain ⟨hc_20, h⟩ := kchk_h h
      refine kw_iald C (kdec dc_M_reads 101 rfl) 159 rfl rfl hc_20.1 hc_20.2 ?_
      refine kw_iload C (kdec dc_M_reads 102 rfl) 161 rfl rfl ?_
      refine kw_iadd C (kdec dc_M_reads 103 rfl) 162 rfl ?_
      obtain ⟨r_21, hg_43, h⟩ := kbind_h h
      refine kw_callS (As := [ki 999, ki (w32 ((σ_19 8 (w32 ((w32 (x1 + 1)) + x5)).toNat) + r_11))]) C (kdec dc_M_reads 104 rfl) 165 rfl cs_M_303 (mt_mm_lesser l0 hg_43) ⟨rfl, rfl⟩ ⟨Nat.le_of_ble_eq_true rfl, Nat.le_of_ble_eq_true rfl⟩ ⟨Nat.zero_le _, Nat.zero_le _⟩ rfl (Nat.le_of_ble_eq_true rfl) ?_
      change KW x 0 0 Q σ_19 165 [some (kr 0), some (ki x1), some (ki x2), some (ki x3), some (ki x4), some (ki x5), some (ki r_6), some (ki r_8), some (ki r_11)] [ki r_21, ki (w32 ((w32 (x1 + 1)) + x5)), kr 8]
      obtain ⟨hc_22, h⟩ := kchk_h h
      obtain ⟨σ_23, eσ_23, h⟩ := klet_h h
      refine kw_iast C (kdec dc_M_reads 105 rfl) 166 rfl rfl hc_22.1 hc_22.2 ?_
      refine kw_sig eσ_23 ?_
      refine kw_aload_n C (kdec dc_M_reads 106 rfl) rfl 167 rfl rfl ?_
      refine kw_getR C (kdec dc_M_reads 107 rfl) 170 rfl fd_M_M_48_0 ?_
      refine kw_iload_n C (kdec dc_M_reads 108 rfl) rfl 171 rfl rfl ?_
      refine kw_bipush (v := 29) C (kdec dc_M_reads 109 rfl) 173 rfl (by decide) ⟨by decide, by decide⟩ ?_
      refine kw_iadd C (kdec dc_M_reads 110 rfl) 174 rfl ?_
      refine kw_bipush (v := 8) C (kdec dc_M_reads 111 rfl) 176 rfl (by decide) ⟨by decide, by decide⟩ ?_
      refine kw_iload_n C (kdec dc_M_reads 112 rfl) rfl 177 rfl rfl ?_
      refine kw_imul C (kdec dc_M_reads 113 rfl) 178 rfl ?_
      refine kw_iadd C (kdec dc_M_reads 114 rfl) 179 rfl ?_
      refine kw_iload C (kdec dc_M_reads 115 rfl) 181 rfl rfl ?_
      refine kw_iadd C (kdec dc_M_reads 116 rfl) 182 rfl ?_
      obtain ⟨y_24, ey_24, h⟩ := klet_h h
      refine kw_top ey_24 ?_
      refine kw_dup2 C (kdec dc_M_reads 117 rfl) 183 rfl rfl rfl ?_
      obtain ⟨hc_25, h⟩ := kchk_h h
      refine kw_iald C (kdec dc_M_reads 118 rfl) 184 rfl rfl hc_25.1 hc_25.2 ?_
      refine kw_iconst C (kdec dc_M_reads 119 rfl) 185 rfl rfl ⟨by decide, by decide⟩ ?_
      refine kw_iadd C (kdec dc_M_reads 120 rfl) 186 rfl ?_
      obtain ⟨hc_26, h⟩ := kchk_h h
      obtain ⟨σ_27, eσ_27, h⟩ := klet_h h
      refine kw_iast C (kdec dc_M_reads 121 rfl) 187 rfl rfl hc_26.1 hc_26.2 ?_
      refine kw_sig eσ_27 ?_
      refine kw_aload_n C (kdec dc_M_reads 122 rfl) rfl 188 rfl rfl ?_
      refine kw_getR C (kdec dc_M_reads 123 rfl) 191 rfl fd_M_M_54_0 ?_
      refine kw_iload_n C (kdec dc_M_reads 124 rfl) rfl 192 rfl rfl ?_
      refine kw_dup2 C (kdec dc_M_reads 125 rfl) 193 rfl rfl rfl ?_
      obtain ⟨hc_28, h⟩ := kchk_h h
      refine kw_iald C (kdec dc_M_reads 126 rfl) 194 rfl rfl hc_28.1 hc_28.2 ?_
      refine kw_iload C (kdec dc_M_reads 127 rfl) 196 rfl rfl ?_
      refine kw_iadd C (kdec dc_M_reads 128 rfl) 197 rfl ?_
      obtain ⟨hc_29, h⟩ := kchk_h h
      obtain ⟨σ_30, eσ_30, h⟩ := klet_h h
      refine kw_iast C (kdec dc_M_reads 129 rfl) 198 rfl rfl hc_29.1 hc_29.2 ?_
      refine kw_sig eσ_30 ?_
      refine kw_aload_n C (kdec dc_M_reads 130 rfl) rfl 199 rfl rfl ?_
      refine kw_dup C (kdec dc_M_reads 131 rfl) 200 rfl rfl ?_
      refine kw_getI C (kdec dc_M_reads 132 rfl) 203 rfl fd_M_M_290_0 ?_
      refine kw_iload C (kdec dc_M_reads 133 rfl) 205 rfl rfl ?_
      refine kw_iadd C (kdec dc_M_reads 134 rfl) 206 rfl ?_
      obtain ⟨σ_31, eσ_31, h⟩ := klet_h h
      refine kw_putI C (kdec dc_M_reads 135 rfl) 209 rfl fp_M_M_290_0 ?_
      refine kw_sig eσ_31 ?_
      refine kw_aload_n C (kdec dc_M_reads 136 rfl) rfl 210 rfl rfl ?_
      refine kw_getR C (kdec dc_M_reads 137 rfl) 213 rfl fd_M_M_66_0 ?_
      refine kw_bipush (v := 8) C (kdec dc_M_reads 138 rfl) 215 rfl (by decide) ⟨by decide, by decide⟩ ?_
      refine kw_iload_n C (kdec dc_M_reads 139 rfl) rfl 216 rfl rfl ?_
      refine kw_imul C (kdec dc_M_reads 140 rfl) 217 rfl ?_
      refine kw_iload C (kdec dc_M_reads 141 rfl) 219 rfl rfl ?_
      refine kw_iadd C (kdec dc_M_reads 142 rfl) 220 rfl ?_
      obtain ⟨y_32, ey_32, h⟩ := klet_h h
      refine kw_top ey_32 ?_
      refine kw_dup2 C (kdec dc_M_reads 143 rfl) 221 rfl rfl rfl ?_
      obtain ⟨hc_33, h⟩ := kchk_h h
      refine kw_iald C (kdec dc_M_reads 144 rfl) 222 rfl rfl hc_33.1 hc_33.2 ?_
      refine kw_iload C (kdec dc_M_reads 145 rfl) 224 rfl rfl ?_
      refine kw_iadd C (kdec dc_M_reads 146 rfl) 225 rfl ?_
      obtain ⟨hc_34, h⟩ := kchk_h h
      obtain ⟨σ_35, eσ_35, h⟩ := klet_h h
      refine kw_iast C (kdec dc_M_reads 147 rfl) 226 rfl rfl hc_34.1 hc_34.2 ?_
      refine kw_sig eσ_35 ?_
      refine kw_aload_n C (kdec dc_M_reads 148 rfl) rfl 227 rfl rfl ?_
      refine kw_iload C (kdec dc_M_reads 149 rfl) 229 rfl rfl ?_
      refine kw_aload_n C (kdec dc_M_reads 150 rfl) rfl 230 rfl rfl ?_
      refine kw_getI C (kdec dc_M_reads 151 rfl) 233 rfl fd_M_M_293_0 ?_
      refine kw_icmp_le C (kdec dc_M_reads 152 rfl) 241 236 (by decide) rfl (fun hc233 => ?_) (fun hc233 => ?_)
      · rw [if_pos hc233] at h
        refine kw_aload_n C (kdec dc_M_reads 155 rfl) rfl 242 rfl rfl ?_
        refine kw_getI C (kdec dc_M_reads 156 rfl) 245 rfl fd_M_M_293_0 ?_
        exact kw_sub (L' := [some (kr 0), some (ki x1), some (ki x2), some (ki x3), some (ki x4), some (ki x5), none, some (ki r_8), some (ki r_11)]) ⟨rfl, rfl, rfl, rfl, rfl, rfl, rfl, rfl, trivial⟩ (bd_mm_reads_l28_j245 C σ_35 x1 x2 x3 x4 x5 r_8 r_11 (σ_35 0 45) h hC hX312)
      · rw [if_neg hc233] at h
        refine kw_iload C (kdec dc_M_reads 153 rfl) 238 rfl rfl ?_
        refine kw_goto C (kdec dc_M_reads 154 rfl) 245 (by decide) ?_
        exact kw_sub (L' := [some (kr 0), some (ki x1), some (ki x2), some (ki x3), some (ki x4), some (ki x5), none, some (ki r_8), some (ki r_11)]) ⟨rfl, rfl, rfl, rfl, rfl, rfl, rfl, rfl, trivial⟩ (bd_mm_reads_l28_j245 C σ_35 x1 x2 x3 x4 x5 r_8 r_11 r_6 h hC hX312)
    · rw [if_pos hc50] at h
      refine kw_goto C (kdec dc_M_reads 34 rfl) 306 (by decide) ?_
      exact kw_sub (L' := [some (kr 0), some (ki x1), some (ki x2), some (ki x3), some (ki x4), some (ki x5), none, none, none]) ⟨rfl, rfl, rfl, rfl, rfl, rfl, trivial⟩ (bd_mm_reads_l28_j306 C σ_7 x1 x2 x3 x4 x5 h hC hX312)
theorem lp_mm_reads_l28 {x : kX} {l0 : Launch} {Q : State → Prop} (C : kCx x prog_14_method_55_code "PoetFinesModel" none kcl yM 9 l0 R0_mm_reads) (x1 : Int) (x2 : Int) (x3 : Int) {ex : (kM × Int)} (hX312 : ∀ (σ' : kM) (x4' : Int), ex = (σ', x4') → KW x 0 0 Q σ' 312 [some (kr 0), some (ki x1), some (ki x2), some (ki x3), some (ki x4'), none, none, none, none] []) (n : Nat) (σ : kM) (x4 : Int) (x5 : Int) (h : kloop (fun st => mm_reads_l28 st.1 x1 x2 x3 st.2.1 st.2.2) n (σ, x4, x5) = some ex) : KW x 0 0 Q σ 28 [some (kr 0), some (ki x1), some (ki x2), some (ki x3), some (ki x4), some (ki x5), none, none, none] [] :=
  kloop_ind (P := (fun st : kM × Int × Int => KW x 0 0 Q st.1 28 [some (kr 0), some (ki x1), some (ki x2), some (ki x3), some (ki (st.2.1)), some (ki (st.2.2)), none, none, none] [])) (fun st out hb hc hx => bd_mm_reads_l28 C st.1 x1 x2 x3 st.2.1 st.2.2 hb (fun a0 a1 a2 e => hc _ e) (fun a0 a1 e => hX312 _ _ ((hx _ e).symm))) n (σ, x4, x5) h
def mm_reads (σ : kM) (x1 : Int) (x2 : Int) : Option (kM) :=
  kchk (0 ≤ (w32 ((w32 (x1 + 21)) + x2)) ∧ (w32 ((w32 (x1 + 21)) + x2)) < 290) <|
  klet (σ 8 (w32 ((w32 (x1 + 21)) + x2)).toNat) fun x3_2 =>
  kchk (0 ≤ x2 ∧ x2 < 4) <|
  kchk (0 ≤ x2 ∧ x2 < 4) <|
  klet (kst σ 12 (kup (σ 12) x2.toNat (w32 ((σ 12 x2.toNat) + 1)))) fun σ_5 =>
  (kloop (fun st => mm_reads_l28 st.1 x1 x2 x3_2 st.2.1 st.2.2) kFuel (σ_5, 0, 0)).bind fun (σ_50, x4_51) =>
  (mm_lesser σ_50 9 x4_51).bind fun r_52 =>
  kchk (0 ≤ (w32 ((w32 (x1 + 25)) + x2)) ∧ (w32 ((w32 (x1 + 25)) + x2)) < 290) <|
  klet (kst σ_50 8 (kup (σ_50 8) ((w32 ((w32 (x1 + 25)) + x2)).toNat) r_52)) fun σ_54 =>
  kchk (0 ≤ (w32 ((w32 (x1 + 61)) + x2)) ∧ (w32 ((w32 (x1 + 61)) + x2)) < 290) <|
  kchk (¬ (σ_54 8 (w32 ((w32 (x1 + 61)) + x2)).toNat) = 0) <|
  kchk (0 ≤ (w32 ((w32 (x1 + 21)) + x2)) ∧ (w32 ((w32 (x1 + 21)) + x2)) < 290) <|
  klet (kst σ_54 8 (kup (σ_54 8) ((w32 ((w32 (x1 + 21)) + x2)).toNat) (krem (w32 (x3_2 + 1)) (σ_54 8 (w32 ((w32 (x1 + 61)) + x2)).toNat)))) fun σ_58 =>
  some σ_58
set_option maxHeartbeats 4000000 in
theorem bd_mm_reads {x : kX} {l0 : Launch} {Q : State → Prop} (C : kCx x prog_14_method_55_code "PoetFinesModel" none kcl yM 9 l0 R0_mm_reads) (σ : kM) (x1 : Int) (x2 : Int) {out : kM} (h : mm_reads σ x1 x2 = some out) (hR : ∀ (τ : kM), out = τ → Q = kQ x none τ 0 0) : KW x 0 0 Q σ 0 [some (kr 0), some (ki x1), some (ki x2), none, none, none, none, none, none] [] := by
  unfold mm_reads at h
  refine kw_aload_n C (kdec dc_M_reads 0 rfl) rfl 1 rfl rfl ?_
  refine kw_getR C (kdec dc_M_reads 1 rfl) 4 rfl fd_M_M_48_0 ?_
  refine kw_iload_n C (kdec dc_M_reads 2 rfl) rfl 5 rfl rfl ?_
  refine kw_bipush (v := 21) C (kdec dc_M_reads 3 rfl) 7 rfl (by decide) ⟨by decide, by decide⟩ ?_
  refine kw_iadd C (kdec dc_M_reads 4 rfl) 8 rfl ?_
  refine kw_iload_n C (kdec dc_M_reads 5 rfl) rfl 9 rfl rfl ?_
  refine kw_iadd C (kdec dc_M_reads 6 rfl) 10 rfl ?_
  obtain ⟨hc_1, h⟩ := kchk_h h
  refine kw_iald C (kdec dc_M_reads 7 rfl) 11 rfl rfl hc_1.1 hc_1.2 ?_
  obtain ⟨x3_2, ex3_2, h⟩ := klet_h h
  refine kw_top ex3_2 ?_
  refine kw_istore_n (L' := [some (kr 0), some (ki x1), some (ki x2), some (ki x3_2), none, none, none, none, none]) C (kdec dc_M_reads 8 rfl) rfl 12 rfl (by decide) rfl rfl ?_
  refine kw_iconst C (kdec dc_M_reads 9 rfl) 13 rfl rfl ⟨by decide, by decide⟩ ?_
  refine kw_istore (L' := [some (kr 0), some (ki x1), some (ki x2), some (ki x3_2), some (ki 0), none, none, none, none]) C (kdec dc_M_reads 10 rfl) 15 rfl (by decide) rfl rfl ?_
  refine kw_aload_n C (kdec dc_M_reads 11 rfl) rfl 16 rfl rfl ?_
  refine kw_getR C (kdec dc_M_reads 12 rfl) 19 rfl fd_M_M_60_0 ?_
  refine kw_iload_n C (kdec dc_M_reads 13 rfl) rfl 20 rfl rfl ?_
  refine kw_dup2 C (kdec dc_M_reads 14 rfl) 21 rfl rfl rfl ?_
  obtain ⟨hc_3, h⟩ := kchk_h h
  refine kw_iald C (kdec dc_M_reads 15 rfl) 22 rfl rfl hc_3.1 hc_3.2 ?_
  refine kw_iconst C (kdec dc_M_reads 16 rfl) 23 rfl rfl ⟨by decide, by decide⟩ ?_
  refine kw_iadd C (kdec dc_M_reads 17 rfl) 24 rfl ?_
  obtain ⟨hc_4, h⟩ := kchk_h h
  obtain ⟨σ_5, eσ_5, h⟩ := klet_h h
  refine kw_iast C (kdec dc_M_reads 18 rfl) 25 rfl rfl hc_4.1 hc_4.2 ?_
  refine kw_sig eσ_5 ?_
  refine kw_iconst C (kdec dc_M_reads 19 rfl) 26 rfl rfl ⟨by decide, by decide⟩ ?_
  refine kw_istore (L' := [some (kr 0), some (ki x1), some (ki x2), some (ki x3_2), some (ki 0), some (ki 0), none, none, none]) C (kdec dc_M_reads 20 rfl) 28 rfl (by decide) rfl rfl ?_
  obtain ⟨ex_48, hl_49, h⟩ := kbind_h h
  refine lp_mm_reads_l28 C x1 x2 x3_2 ?_ kFuel σ_5 0 0 hl_49
  · intro σ_50 x4_51 e
    subst ex_48
    try dsimp only at h
    refine kw_aload_n C (kdec dc_M_reads 195 rfl) rfl 313 rfl rfl ?_
    refine kw_getR C (kdec dc_M_reads 196 rfl) 316 rfl fd_M_M_48_0 ?_
    refine kw_iload_n C (kdec dc_M_reads 197 rfl) rfl 317 rfl rfl ?_
    refine kw_bipush (v := 25) C (kdec dc_M_reads 198 rfl) 319 rfl (by decide) ⟨by decide, by decide⟩ ?_
    refine kw_iadd C (kdec dc_M_reads 199 rfl) 320 rfl ?_
    refine kw_iload_n C (kdec dc_M_reads 200 rfl) rfl 321 rfl rfl ?_
    refine kw_iadd C (kdec dc_M_reads 201 rfl) 322 rfl ?_
    refine kw_bipush (v := 9) C (kdec dc_M_reads 202 rfl) 324 rfl (by decide) ⟨by decide, by decide⟩ ?_
    refine kw_iload C (kdec dc_M_reads 203 rfl) 326 rfl rfl ?_
    obtain ⟨r_52, hg_59, h⟩ := kbind_h h
    refine kw_callS (As := [ki 9, ki x4_51]) C (kdec dc_M_reads 204 rfl) 329 rfl cs_M_303 (mt_mm_lesser l0 hg_59) ⟨rfl, rfl⟩ ⟨Nat.le_of_ble_eq_true rfl, Nat.le_of_ble_eq_true rfl⟩ ⟨Nat.zero_le _, Nat.zero_le _⟩ rfl (Nat.le_of_ble_eq_true rfl) ?_
    change KW x 0 0 Q σ_50 329 [some (kr 0), some (ki x1), some (ki x2), some (ki x3_2), some (ki x4_51), none, none, none, none] [ki r_52, ki (w32 ((w32 (x1 + 25)) + x2)), kr 8]
    obtain ⟨hc_53, h⟩ := kchk_h h
    obtain ⟨σ_54, eσ_54, h⟩ := klet_h h
    refine kw_iast C (kdec dc_M_reads 205 rfl) 330 rfl rfl hc_53.1 hc_53.2 ?_
    refine kw_sig eσ_54 ?_
    refine kw_aload_n C (kdec dc_M_reads 206 rfl) rfl 331 rfl rfl ?_
    refine kw_getR C (kdec dc_M_reads 207 rfl) 334 rfl fd_M_M_48_0 ?_
    refine kw_iload_n C (kdec dc_M_reads 208 rfl) rfl 335 rfl rfl ?_
    refine kw_bipush (v := 21) C (kdec dc_M_reads 209 rfl) 337 rfl (by decide) ⟨by decide, by decide⟩ ?_
    refine kw_iadd C (kdec dc_M_reads 210 rfl) 338 rfl ?_
    refine kw_iload_n C (kdec dc_M_reads 211 rfl) rfl 339 rfl rfl ?_
    refine kw_iadd C (kdec dc_M_reads 212 rfl) 340 rfl ?_
    refine kw_iload_n C (kdec dc_M_reads 213 rfl) rfl 341 rfl rfl ?_
    refine kw_iconst C (kdec dc_M_reads 214 rfl) 342 rfl rfl ⟨by decide, by decide⟩ ?_
    refine kw_iadd C (kdec dc_M_reads 215 rfl) 343 rfl ?_
    refine kw_aload_n C (kdec dc_M_reads 216 rfl) rfl 344 rfl rfl ?_
    refine kw_getR C (kdec dc_M_reads 217 rfl) 347 rfl fd_M_M_48_0 ?_
    refine kw_iload_n C (kdec dc_M_reads 218 rfl) rfl 348 rfl rfl ?_
    refine kw_bipush (v := 61) C (kdec dc_M_reads 219 rfl) 350 rfl (by decide) ⟨by decide, by decide⟩ ?_
    refine kw_iadd C (kdec dc_M_reads 220 rfl) 351 rfl ?_
    refine kw_iload_n C (kdec dc_M_reads 221 rfl) rfl 352 rfl rfl ?_
    refine kw_iadd C (kdec dc_M_reads 222 rfl) 353 rfl ?_
    obtain ⟨hc_55, h⟩ := kchk_h h
    refine kw_iald C (kdec dc_M_reads 223 rfl) 354 rfl rfl hc_55.1 hc_55.2 ?_
    obtain ⟨hc_56, h⟩ := kchk_h h
    refine kw_irem C (kdec dc_M_reads 224 rfl) 355 rfl hc_56 ?_
    obtain ⟨hc_57, h⟩ := kchk_h h
    obtain ⟨σ_58, eσ_58, h⟩ := klet_h h
    refine kw_iast C (kdec dc_M_reads 225 rfl) 356 rfl rfl hc_57.1 hc_57.2 ?_
    refine kw_sig eσ_58 ?_
    obtain rfl := Option.some.inj h
    exact kw_Q (hR _ rfl) (kw_return C (kdec dc_M_reads 226 rfl))
theorem mt_mm_reads (l0 : Launch) {σ : kM} {x1 : Int} {x2 : Int} {τ : kM} (h : mm_reads σ x1 x2 = some τ) : kMet l0 ky_M_reads prog_14_method_55_code 9 none R0_mm_reads kcl yM σ [kr 0, ki x1, ki x2] none τ := kMet.of' [some (kr 0), some (ki x1), some (ki x2), none, none, none, none, none, none] (by decide) (Nat.le_of_ble_eq_true rfl) ⟨rfl, rfl, rfl, trivial⟩ (fun x C => bd_mm_reads C σ x1 x2 h (fun τ e => by subst e; rfl))
def R0_mm_yearGoes : Room := ({ frames := 5, cells := 0, slots := 0, locals := 124 } : Room)
def mm_yearGoes_l12_j81 (σ : kM) (x1 : Int) (x2 : Int) : Option ((kM × Int) ⊕ ((kM))) :=
  klet (w32 (x2 + 1)) fun x2_8 =>
  some (Sum.inl (σ, x2_8))
set_option maxHeartbeats 4000000 in
theorem bd_mm_yearGoes_l12_j81 {x : kX} {l0 : Launch} {Q : State → Prop} (C : kCx x prog_14_method_56_code "PoetFinesModel" none kcl yM 3 l0 R0_mm_yearGoes) (σ : kM) (x1 : Int) (x2 : Int) {out : (kM × Int) ⊕ ((kM))} (h : mm_yearGoes_l12_j81 σ x1 x2 = some out) (hC : ∀ (σ' : kM) (x2' : Int), out = Sum.inl (σ', x2') → KW x 0 0 Q σ' 12 [some (kr 0), some (ki x1), some (ki x2')] []) (hX87 : ∀ (σ' : kM), out = Sum.inr σ' → KW x 0 0 Q σ' 87 [some (kr 0), some (ki x1), none] []) : KW x 0 0 Q σ 81 [some (kr 0), some (ki x1), some (ki x2)] [] := by
  unfold mm_yearGoes_l12_j81 at h
  obtain ⟨x2_8, ex2_8, h⟩ := klet_h h
  refine kw_iinc (L' := [some (kr 0), some (ki x1), some (ki x2_8)]) C (kdec dc_M_yearGoes 55 rfl) 84 rfl rfl (by decide) rfl (by rw [ex2_8]; rfl) ?_
  refine kw_goto C (kdec dc_M_yearGoes 56 rfl) 12 (by decide) ?_
  obtain rfl := Option.some.inj h
  exact (hC _ _ rfl)
def mm_yearGoes_l12 (σ : kM) (x1 : Int) (x2 : Int) : Option ((kM × Int) ⊕ ((kM))) :=
  if (σ 0 3) ≤ x2 then
    some (Sum.inr σ)
  else
    kchk (0 ≤ x2 ∧ x2 < 4) <|
    klet (kst σ 17 (kup (σ 17) x2.toNat 0)) fun σ_4 =>
    kchk (0 ≤ (w32 ((w32 (x1 + 25)) + x2)) ∧ (w32 ((w32 (x1 + 25)) + x2)) < 290) <|
    if (σ_4 8 (w32 ((w32 (x1 + 25)) + x2)).toNat) ≤ 0 then
      (mm_sells σ_4 x1 x2).bind fun σ_6 =>
      (mm_reads σ_6 x1 x2).bind fun σ_7 =>
      mm_yearGoes_l12_j81 σ_7 x1 x2
    else
      klet (w32 ((w32 (x1 + 25)) + x2)) fun y_11 =>
      kchk (0 ≤ y_11 ∧ y_11 < 290) <|
      kchk (0 ≤ y_11 ∧ y_11 < 290) <|
      klet (kst σ_4 8 (kup (σ_4 8) y_11.toNat (w32 ((σ_4 8 y_11.toNat) - 1)))) fun σ_14 =>
      kchk (0 ≤ x2 ∧ x2 < 4) <|
      kchk (0 ≤ x2 ∧ x2 < 4) <|
      klet (kst σ_14 13 (kup (σ_14 13) x2.toNat (w32 ((σ_14 13 x2.toNat) + 1)))) fun σ_17 =>
      mm_yearGoes_l12_j81 σ_17 x1 x2
set_option maxHeartbeats 4000000 in
theorem bd_mm_yearGoes_l12 {x : kX} {l0 : Launch} {Q : State → Prop} (C : kCx x prog_14_method_56_code "PoetFinesModel" none kcl yM 3 l0 R0_mm_yearGoes) (σ : kM) (x1 : Int) (x2 : Int) {out : (kM × Int) ⊕ ((kM))} (h : mm_yearGoes_l12 σ x1 x2 = some out) (hC : ∀ (σ' : kM) (x2' : Int), out = Sum.inl (σ', x2') → KW x 0 0 Q σ' 12 [some (kr 0), some (ki x1), some (ki x2')] []) (hX87 : ∀ (σ' : kM), out = Sum.inr σ' → KW x 0 0 Q σ' 87 [some (kr 0), some (ki x1), none] []) : KW x 0 0 Q σ 12 [some (kr 0), some (ki x1), some (ki x2)] [] := by
  unfold mm_yearGoes_l12 at h
  refine kw_iload_n C (kdec dc_M_yearGoes 8 rfl) rfl 13 rfl rfl ?_
  refine kw_aload_n C (kdec dc_M_yearGoes 9 rfl) rfl 14 rfl rfl ?_
  refine kw_getI C (kdec dc_M_yearGoes 10 rfl) 17 rfl fd_M_M_273_0 ?_
  refine kw_icmp_ge C (kdec dc_M_yearGoes 11 rfl) 87 20 (by decide) rfl (fun hc17 => ?_) (fun hc17 => ?_)
  · rw [if_pos hc17] at h
    obtain rfl := Option.some.inj h
    exact kw_sub (L' := [some (kr 0), some (ki x1), none]) ⟨rfl, rfl, trivial⟩ (hX87 _ rfl)
  · rw [if_neg hc17] at h
    refine kw_aload_n C (kdec dc_M_yearGoes 12 rfl) rfl 21 rfl rfl ?_
    refine kw_getR C (kdec dc_M_yearGoes 13 rfl) 24 rfl fd_M_M_75_0 ?_
    refine kw_iload_n C (kdec dc_M_yearGoes 14 rfl) rfl 25 rfl rfl ?_
    refine kw_iconst C (kdec dc_M_yearGoes 15 rfl) 26 rfl rfl ⟨by decide, by decide⟩ ?_
    obtain ⟨hc_3, h⟩ := kchk_h h
    obtain ⟨σ_4, eσ_4, h⟩ := klet_h h
    refine kw_iast C (kdec dc_M_yearGoes 16 rfl) 27 rfl rfl hc_3.1 hc_3.2 ?_
    refine kw_sig eσ_4 ?_
    refine kw_aload_n C (kdec dc_M_yearGoes 17 rfl) rfl 28 rfl rfl ?_
    refine kw_getR C (kdec dc_M_yearGoes 18 rfl) 31 rfl fd_M_M_48_0 ?_
    refine kw_iload_n C (kdec dc_M_yearGoes 19 rfl) rfl 32 rfl rfl ?_
    refine kw_bipush (v := 25) C (kdec dc_M_yearGoes 20 rfl) 34 rfl (by decide) ⟨by decide, by decide⟩ ?_
    refine kw_iadd C (kdec dc_M_yearGoes 21 rfl) 35 rfl ?_
    refine kw_iload_n C (kdec dc_M_yearGoes 22 rfl) rfl 36 rfl rfl ?_
    refine kw_iadd C (kdec dc_M_yearGoes 23 rfl) 37 rfl ?_
    obtain ⟨hc_5, h⟩ := kchk_h h
    refine kw_iald C (kdec dc_M_yearGoes 24 rfl) 38 rfl rfl hc_5.1 hc_5.2 ?_
    refine kw_if_le C (kdec dc_M_yearGoes 25 rfl) 69 41 (by decide) rfl (fun hc38 => ?_) (fun hc38 => ?_)
    · rw [if_pos hc38] at h
      refine kw_aload_n C (kdec dc_M_yearGoes 47 rfl) rfl 70 rfl rfl ?_
      refine kw_iload_n C (kdec dc_M_yearGoes 48 rfl) rfl 71 rfl rfl ?_
      refine kw_iload_n C (kdec dc_M_yearGoes 49 rfl) rfl 72 rfl rfl ?_
      obtain ⟨σ_6, hg_10, h⟩ := kbind_h h
      refine kw_callV (As := [ki x1, ki x2]) C (kdec dc_M_yearGoes 50 rfl) 75 rfl cv_M_343 rfl rfl (mt_mm_sells l0 hg_10) ⟨rfl, rfl⟩ ⟨Nat.le_of_ble_eq_true rfl, Nat.le_of_ble_eq_true rfl⟩ ⟨Nat.zero_le _, Nat.zero_le _⟩ rfl (Nat.le_of_ble_eq_true rfl) ?_
      change KW x 0 0 Q σ_6 75 [some (kr 0), some (ki x1), some (ki x2)] []
      refine kw_aload_n C (kdec dc_M_yearGoes 51 rfl) rfl 76 rfl rfl ?_
      refine kw_iload_n C (kdec dc_M_yearGoes 52 rfl) rfl 77 rfl rfl ?_
      refine kw_iload_n C (kdec dc_M_yearGoes 53 rfl) rfl 78 rfl rfl ?_
      obtain ⟨σ_7, hg_9, h⟩ := kbind_h h
      refine kw_callV (As := [ki x1, ki x2]) C (kdec dc_M_yearGoes 54 rfl) 81 rfl cv_M_346 rfl rfl (mt_mm_reads l0 hg_9) ⟨rfl, rfl⟩ ⟨Nat.le_of_ble_eq_true rfl, Nat.le_of_ble_eq_true rfl⟩ ⟨Nat.zero_le _, Nat.zero_le _⟩ rfl (Nat.le_of_ble_eq_true rfl) ?_
      change KW x 0 0 Q σ_7 81 [some (kr 0), some (ki x1), some (ki x2)] []
      exact bd_mm_yearGoes_l12_j81 C σ_7 x1 x2 h hC hX87
    · rw [if_neg hc38] at h
      refine kw_aload_n C (kdec dc_M_yearGoes 26 rfl) rfl 42 rfl rfl ?_
      refine kw_getR C (kdec dc_M_yearGoes 27 rfl) 45 rfl fd_M_M_48_0 ?_
      refine kw_iload_n C (kdec dc_M_yearGoes 28 rfl) rfl 46 rfl rfl ?_
      refine kw_bipush (v := 25) C (kdec dc_M_yearGoes 29 rfl) 48 rfl (by decide) ⟨by decide, by decide⟩ ?_
      refine kw_iadd C (kdec dc_M_yearGoes 30 rfl) 49 rfl ?_
      refine kw_iload_n C (kdec dc_M_yearGoes 31 rfl) rfl 50 rfl rfl ?_
      refine kw_iadd C (kdec dc_M_yearGoes 32 rfl) 51 rfl ?_
      obtain ⟨y_11, ey_11, h⟩ := klet_h h
      refine kw_top ey_11 ?_
      refine kw_dup2 C (kdec dc_M_yearGoes 33 rfl) 52 rfl rfl rfl ?_
      obtain ⟨hc_12, h⟩ := kchk_h h
      refine kw_iald C (kdec dc_M_yearGoes 34 rfl) 53 rfl rfl hc_12.1 hc_12.2 ?_
      refine kw_iconst C (kdec dc_M_yearGoes 35 rfl) 54 rfl rfl ⟨by decide, by decide⟩ ?_
      refine kw_isub C (kdec dc_M_yearGoes 36 rfl) 55 rfl ?_
      obtain ⟨hc_13, h⟩ := kchk_h h
      obtain ⟨σ_14, eσ_14, h⟩ := klet_h h
      refine kw_iast C (kdec dc_M_yearGoes 37 rfl) 56 rfl rfl hc_13.1 hc_13.2 ?_
      refine kw_sig eσ_14 ?_
      refine kw_aload_n C (kdec dc_M_yearGoes 38 rfl) rfl 57 rfl rfl ?_
      refine kw_getR C (kdec dc_M_yearGoes 39 rfl) 60 rfl fd_M_M_63_0 ?_
      refine kw_iload_n C (kdec dc_M_yearGoes 40 rfl) rfl 61 rfl rfl ?_
      refine kw_dup2 C (kdec dc_M_yearGoes 41 rfl) 62 rfl rfl rfl ?_
      obtain ⟨hc_15, h⟩ := kchk_h h
      refine kw_iald C (kdec dc_M_yearGoes 42 rfl) 63 rfl rfl hc_15.1 hc_15.2 ?_
      refine kw_iconst C (kdec dc_M_yearGoes 43 rfl) 64 rfl rfl ⟨by decide, by decide⟩ ?_
      refine kw_iadd C (kdec dc_M_yearGoes 44 rfl) 65 rfl ?_
      obtain ⟨hc_16, h⟩ := kchk_h h
      obtain ⟨σ_17, eσ_17, h⟩ := klet_h h
      refine kw_iast C (kdec dc_M_yearGoes 45 rfl) 66 rfl rfl hc_16.1 hc_16.2 ?_
      refine kw_sig eσ_17 ?_
      refine kw_goto C (kdec dc_M_yearGoes 46 rfl) 81 (by decide) ?_
      exact bd_mm_yearGoes_l12_j81 C σ_17 x1 x2 h hC hX87
theorem lp_mm_yearGoes_l12 {x : kX} {l0 : Launch} {Q : State → Prop} (C : kCx x prog_14_method_56_code "PoetFinesModel" none kcl yM 3 l0 R0_mm_yearGoes) (x1 : Int) {ex : (kM)} (hX87 : ∀ (σ' : kM), ex = σ' → KW x 0 0 Q σ' 87 [some (kr 0), some (ki x1), none] []) (n : Nat) (σ : kM) (x2 : Int) (h : kloop (fun st => mm_yearGoes_l12 st.1 x1 st.2) n (σ, x2) = some ex) : KW x 0 0 Q σ 12 [some (kr 0), some (ki x1), some (ki x2)] [] :=
  kloop_ind (P := (fun st : kM × Int => KW x 0 0 Q st.1 12 [some (kr 0), some (ki x1), some (ki (st.2))] [])) (fun st out hb hc hx => bd_mm_yearGoes_l12 C st.1 x1 st.2 hb (fun a0 a1 e => hc _ e) (fun a0 e => hX87 _ ((hx _ e).symm))) n (σ, x2) h
def mm_yearGoes (σ : kM) (x1 : Int) : Option (kM) :=
  klet (kst σ 0 (kup (σ 0) 49 0)) fun σ_1 =>
  klet (kst σ_1 0 (kup (σ_1 0) 50 0)) fun σ_2 =>
  (kloop (fun st => mm_yearGoes_l12 st.1 x1 st.2) kFuel (σ_2, 0)).bind fun σ_20 =>
  klet (w32 (x1 + 0)) fun y_21 =>
  kchk (0 ≤ y_21 ∧ y_21 < 290) <|
  kchk (0 ≤ y_21 ∧ y_21 < 290) <|
  klet (kst σ_20 8 (kup (σ_20 8) y_21.toNat (w32 ((σ_20 8 y_21.toNat) + 1)))) fun σ_24 =>
  some σ_24
set_option maxHeartbeats 4000000 in
theorem bd_mm_yearGoes {x : kX} {l0 : Launch} {Q : State → Prop} (C : kCx x prog_14_method_56_code "PoetFinesModel" none kcl yM 3 l0 R0_mm_yearGoes) (σ : kM) (x1 : Int) {out : kM} (h : mm_yearGoes σ x1 = some out) (hR : ∀ (τ : kM), out = τ → Q = kQ x none τ 0 0) : KW x 0 0 Q σ 0 [some (kr 0), some (ki x1), none] [] := by
  unfold mm_yearGoes at h
  refine kw_aload_n C (kdec dc_M_yearGoes 0 rfl) rfl 1 rfl rfl ?_
  refine kw_iconst C (kdec dc_M_yearGoes 1 rfl) 2 rfl rfl ⟨by decide, by decide⟩ ?_
  obtain ⟨σ_1, eσ_1, h⟩ := klet_h h
  refine kw_putI C (kdec dc_M_yearGoes 2 rfl) 5 rfl fp_M_M_337_0 ?_
  refine kw_sig eσ_1 ?_
  refine kw_aload_n C (kdec dc_M_yearGoes 3 rfl) rfl 6 rfl rfl ?_
  refine kw_iconst C (kdec dc_M_yearGoes 4 rfl) 7 rfl rfl ⟨by decide, by decide⟩ ?_
  obtain ⟨σ_2, eσ_2, h⟩ := klet_h h
  refine kw_putI C (kdec dc_M_yearGoes 5 rfl) 10 rfl fp_M_M_340_0 ?_
  refine kw_sig eσ_2 ?_
  refine kw_iconst C (kdec dc_M_yearGoes 6 rfl) 11 rfl rfl ⟨by decide, by decide⟩ ?_
  refine kw_istore_n (L' := [some (kr 0), some (ki x1), some (ki 0)]) C (kdec dc_M_yearGoes 7 rfl) rfl 12 rfl (by decide) rfl rfl ?_
  obtain ⟨ex_18, hl_19, h⟩ := kbind_h h
  refine lp_mm_yearGoes_l12 C x1 ?_ kFuel σ_2 0 hl_19
  · intro σ_20 e
    subst ex_18
    try dsimp only at h
    refine kw_aload_n C (kdec dc_M_yearGoes 57 rfl) rfl 88 rfl rfl ?_
    refine kw_getR C (kdec dc_M_yearGoes 58 rfl) 91 rfl fd_M_M_48_0 ?_
    refine kw_iload_n C (kdec dc_M_yearGoes 59 rfl) rfl 92 rfl rfl ?_
    refine kw_iconst C (kdec dc_M_yearGoes 60 rfl) 93 rfl rfl ⟨by decide, by decide⟩ ?_
    refine kw_iadd C (kdec dc_M_yearGoes 61 rfl) 94 rfl ?_
    obtain ⟨y_21, ey_21, h⟩ := klet_h h
    refine kw_top ey_21 ?_
    refine kw_dup2 C (kdec dc_M_yearGoes 62 rfl) 95 rfl rfl rfl ?_
    obtain ⟨hc_22, h⟩ := kchk_h h
    refine kw_iald C (kdec dc_M_yearGoes 63 rfl) 96 rfl rfl hc_22.1 hc_22.2 ?_
    refine kw_iconst C (kdec dc_M_yearGoes 64 rfl) 97 rfl rfl ⟨by decide, by decide⟩ ?_
    refine kw_iadd C (kdec dc_M_yearGoes 65 rfl) 98 rfl ?_
    obtain ⟨hc_23, h⟩ := kchk_h h
    obtain ⟨σ_24, eσ_24, h⟩ := klet_h h
    refine kw_iast C (kdec dc_M_yearGoes 66 rfl) 99 rfl rfl hc_23.1 hc_23.2 ?_
    refine kw_sig eσ_24 ?_
    obtain rfl := Option.some.inj h
    exact kw_Q (hR _ rfl) (kw_return C (kdec dc_M_yearGoes 67 rfl))
theorem mt_mm_yearGoes (l0 : Launch) {σ : kM} {x1 : Int} {τ : kM} (h : mm_yearGoes σ x1 = some τ) : kMet l0 ky_M_yearGoes prog_14_method_56_code 3 none R0_mm_yearGoes kcl yM σ [kr 0, ki x1] none τ := kMet.of' [some (kr 0), some (ki x1), none] (by decide) (Nat.le_of_ble_eq_true rfl) ⟨rfl, rfl, trivial⟩ (fun x C => bd_mm_yearGoes C σ x1 h (fun τ e => by subst e; rfl))

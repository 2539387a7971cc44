def R0_mm_feel : Room := ({ frames := 2, cells := 0, slots := 0, locals := 43 } : Room)
def mm_feel_j34 (σ : kM) : Option (Int × kM) :=
  (mm_refuses σ 2).bind fun (r_4, σ_5) =>
  some ((r_4, σ_5))
set_option maxHeartbeats 4000000 in
theorem bd_mm_feel_j34 {x : kX} {l0 : Launch} {Q : State → Prop} (C : kCx x prog_14_method_102_code "PoetFinesModel" (some .int) kcl yM 4 l0 R0_mm_feel) (σ : kM) {out : Int × kM} (h : mm_feel_j34 σ = some out) (hR : ∀ (r : Int) (τ : kM), out = (r, τ) → Q = kQ x (some (ki r)) τ 0 0) : KW x 0 0 Q σ 34 [some (kr 0), none, none, none] [] := by
  unfold mm_feel_j34 at h
  refine kw_aload_n C (kdec dc_M_feel 18 rfl) rfl 35 rfl rfl ?_
  refine kw_iconst C (kdec dc_M_feel 19 rfl) 36 rfl rfl ⟨by decide, by decide⟩ ?_
  obtain ⟨⟨r_4, σ_5⟩, hg_6, h⟩ := kbind_h h
  dsimp only at h
  refine kw_callV (As := [ki 2]) C (kdec dc_M_feel 20 rfl) 39 rfl cv_M_395 rfl rfl (mt_mm_refuses l0 hg_6) ⟨rfl, rfl⟩ ⟨Nat.le_of_ble_eq_true rfl, Nat.le_of_ble_eq_true rfl⟩ ⟨Nat.zero_le _, Nat.zero_le _⟩ rfl (Nat.le_of_ble_eq_true rfl) ?_
  change KW x 0 0 Q σ_5 39 [some (kr 0), none, none, none] [ki r_4]
  obtain rfl := Option.some.inj h
  exact kw_Q (hR _ _ rfl) (kw_ireturn C (kdec dc_M_feel 21 rfl))
def mm_feel_j87 (σ : kM) (s0 : Int) (s1 : Int) : Option (Int × kM) :=
  kchk (0 ≤ s1 ∧ s1 < 24) <|
  klet (kst σ 19 (kup (σ 19) s1.toNat s0)) fun σ_13 =>
  klet (kst σ_13 0 (kup (σ_13 0) 53 (w32 ((σ_13 0 53) + 1)))) fun σ_14 =>
  some ((σ_14 0 53, σ_14))
set_option maxHeartbeats 4000000 in
theorem bd_mm_feel_j87 {x : kX} {l0 : Launch} {Q : State → Prop} (C : kCx x prog_14_method_102_code "PoetFinesModel" (some .int) kcl yM 4 l0 R0_mm_feel) (σ : kM) (s0 : Int) (s1 : Int) {out : Int × kM} (h : mm_feel_j87 σ s0 s1 = some out) (hR : ∀ (r : Int) (τ : kM), out = (r, τ) → Q = kQ x (some (ki r)) τ 0 0) : KW x 0 0 Q σ 87 [some (kr 0), none, none, none] [ki s0, ki s1, kr 19] := by
  unfold mm_feel_j87 at h
  obtain ⟨hc_12, h⟩ := kchk_h h
  obtain ⟨σ_13, eσ_13, h⟩ := klet_h h
  refine kw_iast C (kdec dc_M_feel 53 rfl) 88 rfl rfl hc_12.1 hc_12.2 ?_
  refine kw_sig eσ_13 ?_
  refine kw_aload_n C (kdec dc_M_feel 54 rfl) rfl 89 rfl rfl ?_
  refine kw_dup C (kdec dc_M_feel 55 rfl) 90 rfl rfl ?_
  refine kw_getI C (kdec dc_M_feel 56 rfl) 93 rfl fd_M_M_283_0 ?_
  refine kw_iconst C (kdec dc_M_feel 57 rfl) 94 rfl rfl ⟨by decide, by decide⟩ ?_
  refine kw_iadd C (kdec dc_M_feel 58 rfl) 95 rfl ?_
  obtain ⟨σ_14, eσ_14, h⟩ := klet_h h
  refine kw_putI C (kdec dc_M_feel 59 rfl) 98 rfl fp_M_M_283_0 ?_
  refine kw_sig eσ_14 ?_
  refine kw_aload_n C (kdec dc_M_feel 60 rfl) rfl 99 rfl rfl ?_
  refine kw_getI C (kdec dc_M_feel 61 rfl) 102 rfl fd_M_M_283_0 ?_
  obtain rfl := Option.some.inj h
  exact kw_Q (hR _ _ rfl) (kw_ireturn C (kdec dc_M_feel 62 rfl))
def mm_feel (σ : kM) (x1 : Int) (x2 : Int) (x3 : Int) : Option (Int × kM) :=
  klet (kst σ 0 (kup (σ 0) 0 0)) fun σ_1 =>
  (mm_isPerson σ_1 x1).bind fun (r_2, σ_3) =>
  if r_2 = 0 then
    some ((0, σ_3))
  else
    if (σ_3 0 53) = 8 then
      mm_feel_j34 σ_3
    else
      (mm_within σ_3 x2 1 20).bind fun r_7 =>
      if r_7 = 0 then
        mm_feel_j34 σ_3
      else
        kchk (0 ≤ (w32 (3 * (σ_3 0 53))) ∧ (w32 (3 * (σ_3 0 53))) < 24) <|
        klet (kst σ_3 19 (kup (σ_3 19) ((w32 (3 * (σ_3 0 53))).toNat) x1)) fun σ_9 =>
        kchk (0 ≤ (w32 ((w32 (3 * (σ_9 0 53))) + 1)) ∧ (w32 ((w32 (3 * (σ_9 0 53))) + 1)) < 24) <|
        klet (kst σ_9 19 (kup (σ_9 19) ((w32 ((w32 (3 * (σ_9 0 53))) + 1)).toNat) x2)) fun σ_11 =>
        if x3 = 0 then
          mm_feel_j87 σ_11 0 (w32 ((w32 (3 * (σ_11 0 53))) + 2))
        else
          mm_feel_j87 σ_11 1 (w32 ((w32 (3 * (σ_11 0 53))) + 2))
set_option maxHeartbeats 4000000 in
theorem bd_mm_feel {x : kX} {l0 : Launch} {Q : State → Prop} (C : kCx x prog_14_method_102_code "PoetFinesModel" (some .int) kcl yM 4 l0 R0_mm_feel) (σ : kM) (x1 : Int) (x2 : Int) (x3 : Int) {out : Int × kM} (h : mm_feel σ x1 x2 x3 = some out) (hR : ∀ (r : Int) (τ : kM), out = (r, τ) → Q = kQ x (some (ki r)) τ 0 0) : KW x 0 0 Q σ 0 [some (kr 0), some (ki x1), some (ki x2), some (ki x3)] [] := by
  unfold mm_feel at h
  refine kw_aload_n C (kdec dc_M_feel 0 rfl) rfl 1 rfl rfl ?_
  refine kw_iconst C (kdec dc_M_feel 1 rfl) 2 rfl rfl ⟨by decide, by decide⟩ ?_
  obtain ⟨σ_1, eσ_1, h⟩ := klet_h h
  refine kw_putI C (kdec dc_M_feel 2 rfl) 5 rfl fp_M_M_99_0 ?_
  refine kw_sig eσ_1 ?_
  refine kw_aload_n C (kdec dc_M_feel 3 rfl) rfl 6 rfl rfl ?_
  refine kw_iload_n C (kdec dc_M_feel 4 rfl) rfl 7 rfl rfl ?_
  obtain ⟨⟨r_2, σ_3⟩, hg_16, h⟩ := kbind_h h
  dsimp only at h
  refine kw_callV (As := [ki x1]) C (kdec dc_M_feel 5 rfl) 10 rfl cv_M_370 rfl rfl (mt_mm_isPerson l0 hg_16) ⟨rfl, rfl⟩ ⟨Nat.le_of_ble_eq_true rfl, Nat.le_of_ble_eq_true rfl⟩ ⟨Nat.zero_le _, Nat.zero_le _⟩ rfl (Nat.le_of_ble_eq_true rfl) ?_
  change KW x 0 0 Q σ_3 10 [some (kr 0), some (ki x1), some (ki x2), some (ki x3)] [ki r_2]
  refine kw_if_ne C (kdec dc_M_feel 6 rfl) 15 13 (by decide) rfl (fun hc10 => ?_) (fun hc10 => ?_)
  · rw [if_neg hc10] at h
    refine kw_aload_n C (kdec dc_M_feel 9 rfl) rfl 16 rfl rfl ?_
    refine kw_getI C (kdec dc_M_feel 10 rfl) 19 rfl fd_M_M_283_0 ?_
    refine kw_bipush (v := 8) C (kdec dc_M_feel 11 rfl) 21 rfl (by decide) ⟨by decide, by decide⟩ ?_
    refine kw_icmp_eq C (kdec dc_M_feel 12 rfl) 34 24 (by decide) rfl (fun hc21 => ?_) (fun hc21 => ?_)
    · rw [if_pos hc21] at h
      exact kw_sub (L' := [some (kr 0), none, none, none]) ⟨rfl, trivial⟩ (bd_mm_feel_j34 C σ_3 h hR)
    · rw [if_neg hc21] at h
      refine kw_iload_n C (kdec dc_M_feel 13 rfl) rfl 25 rfl rfl ?_
      refine kw_iconst C (kdec dc_M_feel 14 rfl) 26 rfl rfl ⟨by decide, by decide⟩ ?_
      refine kw_bipush (v := 20) C (kdec dc_M_feel 15 rfl) 28 rfl (by decide) ⟨by decide, by decide⟩ ?_
      obtain ⟨r_7, hg_15, h⟩ := kbind_h h
      refine kw_callS (As := [ki x2, ki 1, ki 20]) C (kdec dc_M_feel 16 rfl) 31 rfl cs_M_355 (mt_mm_within l0 hg_15) ⟨rfl, rfl⟩ ⟨Nat.le_of_ble_eq_true rfl, Nat.le_of_ble_eq_true rfl⟩ ⟨Nat.zero_le _, Nat.zero_le _⟩ rfl (Nat.le_of_ble_eq_true rfl) ?_
      change KW x 0 0 Q σ_3 31 [some (kr 0), some (ki x1), some (ki x2), some (ki x3)] [ki r_7]
      refine kw_if_ne C (kdec dc_M_feel 17 rfl) 40 34 (by decide) rfl (fun hc31 => ?_) (fun hc31 => ?_)
      · rw [if_neg hc31] at h
        refine kw_aload_n C (kdec dc_M_feel 22 rfl) rfl 41 rfl rfl ?_
        refine kw_getR C (kdec dc_M_feel 23 rfl) 44 rfl fd_M_M_81_0 ?_
        refine kw_iconst C (kdec dc_M_feel 24 rfl) 45 rfl rfl ⟨by decide, by decide⟩ ?_
        refine kw_aload_n C (kdec dc_M_feel 25 rfl) rfl 46 rfl rfl ?_
        refine kw_getI C (kdec dc_M_feel 26 rfl) 49 rfl fd_M_M_283_0 ?_
        refine kw_imul C (kdec dc_M_feel 27 rfl) 50 rfl ?_
        refine kw_iload_n C (kdec dc_M_feel 28 rfl) rfl 51 rfl rfl ?_
        obtain ⟨hc_8, h⟩ := kchk_h h
        obtain ⟨σ_9, eσ_9, h⟩ := klet_h h
        refine kw_iast C (kdec dc_M_feel 29 rfl) 52 rfl rfl hc_8.1 hc_8.2 ?_
        refine kw_sig eσ_9 ?_
        refine kw_aload_n C (kdec dc_M_feel 30 rfl) rfl 53 rfl rfl ?_
        refine kw_getR C (kdec dc_M_feel 31 rfl) 56 rfl fd_M_M_81_0 ?_
        refine kw_iconst C (kdec dc_M_feel 32 rfl) 57 rfl rfl ⟨by decide, by decide⟩ ?_
        refine kw_aload_n C (kdec dc_M_feel 33 rfl) rfl 58 rfl rfl ?_
        refine kw_getI C (kdec dc_M_feel 34 rfl) 61 rfl fd_M_M_283_0 ?_
        refine kw_imul C (kdec dc_M_feel 35 rfl) 62 rfl ?_
        refine kw_iconst C (kdec dc_M_feel 36 rfl) 63 rfl rfl ⟨by decide, by decide⟩ ?_
        refine kw_iadd C (kdec dc_M_feel 37 rfl) 64 rfl ?_
        refine kw_iload_n C (kdec dc_M_feel 38 rfl) rfl 65 rfl rfl ?_
        obtain ⟨hc_10, h⟩ := kchk_h h
        obtain ⟨σ_11, eσ_11, h⟩ := klet_h h
        refine kw_iast C (kdec dc_M_feel 39 rfl) 66 rfl rfl hc_10.1 hc_10.2 ?_
        refine kw_sig eσ_11 ?_
        refine kw_aload_n C (kdec dc_M_feel 40 rfl) rfl 67 rfl rfl ?_
        refine kw_getR C (kdec dc_M_feel 41 rfl) 70 rfl fd_M_M_81_0 ?_
        refine kw_iconst C (kdec dc_M_feel 42 rfl) 71 rfl rfl ⟨by decide, by decide⟩ ?_
        refine kw_aload_n C (kdec dc_M_feel 43 rfl) rfl 72 rfl rfl ?_
        refine kw_getI C (kdec dc_M_feel 44 rfl) 75 rfl fd_M_M_283_0 ?_
        refine kw_imul C (kdec dc_M_feel 45 rfl) 76 rfl ?_
        refine kw_iconst C (kdec dc_M_feel 46 rfl) 77 rfl rfl ⟨by decide, by decide⟩ ?_
        refine kw_iadd C (kdec dc_M_feel 47 rfl) 78 rfl ?_
        refine kw_iload_n C (kdec dc_M_feel 48 rfl) rfl 79 rfl rfl ?_
        refine kw_if_eq C (kdec dc_M_feel 49 rfl) 86 82 (by decide) rfl (fun hc79 => ?_) (fun hc79 => ?_)
        · rw [if_pos hc79] at h
          refine kw_iconst C (kdec dc_M_feel 52 rfl) 87 rfl rfl ⟨by decide, by decide⟩ ?_
          exact kw_sub (L' := [some (kr 0), none, none, none]) ⟨rfl, trivial⟩ (bd_mm_feel_j87 C σ_11 0 (w32 ((w32 (3 * (σ_11 0 53))) + 2)) h hR)
        · rw [if_neg hc79] at h
          refine kw_iconst C (kdec dc_M_feel 50 rfl) 83 rfl rfl ⟨by decide, by decide⟩ ?_
          refine kw_goto C (kdec dc_M_feel 51 rfl) 87 (by decide) ?_
          exact kw_sub (L' := [some (kr 0), none, none, none]) ⟨rfl, trivial⟩ (bd_mm_feel_j87 C σ_11 1 (w32 ((w32 (3 * (σ_11 0 53))) + 2)) h hR)
      · rw [if_pos hc31] at h
        exact kw_sub (L' := [some (kr 0), none, none, none]) ⟨rfl, trivial⟩ (bd_mm_feel_j34 C σ_3 h hR)
  · rw [if_pos hc10] at h
    refine kw_iconst C (kdec dc_M_feel 7 rfl) 14 rfl rfl ⟨by decide, by decide⟩ ?_
    obtain rfl := Option.some.inj h
    exact kw_Q (hR _ _ rfl) (kw_ireturn C (kdec dc_M_feel 8 rfl))
theorem mt_mm_feel (l0 : Launch) {σ : kM} {x1 : Int} {x2 : Int} {x3 : Int} {r : Int} {τ : kM} (h : mm_feel σ x1 x2 x3 = some (r, τ)) : kMet l0 ky_M_feel prog_14_method_102_code 4 (some .int) R0_mm_feel kcl yM σ [kr 0, ki x1, ki x2, ki x3] (some (ki r)) τ := kMet.of' [some (kr 0), some (ki x1), some (ki x2), some (ki x3)] (by decide) (Nat.le_of_ble_eq_true rfl) ⟨rfl, rfl, rfl, rfl, trivial⟩ (fun x C => bd_mm_feel C σ x1 x2 x3 h (fun r τ e => by cases e; rfl))
def R0_mm_forget : Room := ({ frames := 0, cells := 0, slots := 0, locals := 0 } : Room)
def mm_forget (σ : kM) : Option (kM) :=
  klet (kst σ 0 (kup (σ 0) 0 0)) fun σ_1 =>
  klet (kst σ_1 0 (kup (σ_1 0) 53 0)) fun σ_2 =>
  some σ_2
set_option maxHeartbeats 4000000 in
theorem bd_mm_forget {x : kX} {l0 : Launch} {Q : State → Prop} (C : kCx x prog_14_method_103_code "PoetFinesModel" none kcl yM 1 l0 R0_mm_forget) (σ : kM) {out : kM} (h : mm_forget σ = some out) (hR : ∀ (τ : kM), out = τ → Q = kQ x none τ 0 0) : KW x 0 0 Q σ 0 [some (kr 0)] [] := by
  unfold mm_forget at h
  refine kw_aload_n C (kdec dc_M_forget 0 rfl) rfl 1 rfl rfl ?_
  refine kw_iconst C (kdec dc_M_forget 1 rfl) 2 rfl rfl ⟨by decide, by decide⟩ ?_
  obtain ⟨σ_1, eσ_1, h⟩ := klet_h h
  refine kw_putI C (kdec dc_M_forget 2 rfl) 5 rfl fp_M_M_99_0 ?_
  refine kw_sig eσ_1 ?_
  refine kw_aload_n C (kdec dc_M_forget 3 rfl) rfl 6 rfl rfl ?_
  refine kw_iconst C (kdec dc_M_forget 4 rfl) 7 rfl rfl ⟨by decide, by decide⟩ ?_
  obtain ⟨σ_2, eσ_2, h⟩ := klet_h h
  refine kw_putI C (kdec dc_M_forget 5 rfl) 10 rfl fp_M_M_283_0 ?_
  refine kw_sig eσ_2 ?_
  obtain rfl := Option.some.inj h
  exact kw_Q (hR _ rfl) (kw_return C (kdec dc_M_forget 6 rfl))
theorem mt_mm_forget (l0 : Launch) {σ : kM} {τ : kM} (h : mm_forget σ = some τ) : kMet l0 ky_M_forget prog_14_method_103_code 1 none R0_mm_forget kcl yM σ [kr 0] none τ := kMet.of' [some (kr 0)] (by decide) (Nat.le_of_ble_eq_true rfl) ⟨rfl, trivial⟩ (fun x C => bd_mm_forget C σ h (fun τ e => by subst e; rfl))
def R0_mm_isFelt : Room := ({ frames := 6, cells := 0, slots := 0, locals := 146 } : Room)
def mm_isFelt_l17_j69 (σ : kM) (x1 : Int) (x2 : Int) : Option ((Int) ⊕ ((Unit) ⊕ (Unit))) :=
  klet (w32 (x2 + 1)) fun x2_3 =>
  some (Sum.inl x2_3)
set_option maxHeartbeats 4000000 in
theorem bd_mm_isFelt_l17_j69 {x : kX} {l0 : Launch} {Q : State → Prop} (C : kCx x prog_14_method_104_code "PoetFinesModel" (some .boolean) kcl yM 3 l0 R0_mm_isFelt) (σ : kM) (x1 : Int) (x2 : Int) {out : (Int) ⊕ ((Unit) ⊕ (Unit))} (h : mm_isFelt_l17_j69 σ x1 x2 = some out) (hC : ∀ (x2' : Int), out = Sum.inl x2' → KW x 0 0 Q σ 17 [some (kr 0), some (ki x1), some (ki x2')] []) (hX67 : out = Sum.inr (Sum.inl ()) → KW x 0 0 Q σ 67 [none, none, none] []) (hX75 : out = Sum.inr (Sum.inr ()) → KW x 0 0 Q σ 75 [some (kr 0), some (ki x1), none] []) : KW x 0 0 Q σ 69 [some (kr 0), some (ki x1), some (ki x2)] [] := by
  unfold mm_isFelt_l17_j69 at h
  obtain ⟨x2_3, ex2_3, h⟩ := klet_h h
  refine kw_iinc (L' := [some (kr 0), some (ki x1), some (ki x2_3)]) C (kdec dc_M_isFelt 46 rfl) 72 rfl rfl (by decide) rfl (by rw [ex2_3]; rfl) ?_
  refine kw_goto C (kdec dc_M_isFelt 47 rfl) 17 (by decide) ?_
  obtain rfl := Option.some.inj h
  exact (hC _ rfl)
def mm_isFelt_l17 (σ : kM) (x1 : Int) (x2 : Int) : Option ((Int) ⊕ ((Unit) ⊕ (Unit))) :=
  if (σ 0 53) ≤ x2 then
    some (Sum.inr (Sum.inr ()))
  else
    kchk (0 ≤ (w32 ((w32 (3 * x2)) + 1)) ∧ (w32 ((w32 (3 * x2)) + 1)) < 24) <|
    if (σ 19 (w32 ((w32 (3 * x2)) + 1)).toNat) = x1 then
      kchk (0 ≤ (w32 (3 * x2)) ∧ (w32 (3 * x2)) < 24) <|
      kchk (0 ≤ (w32 ((w32 (3 * x2)) + 2)) ∧ (w32 ((w32 (3 * x2)) + 2)) < 24) <|
      if (kand (kshr (σ 0 49) (σ 19 (w32 (3 * x2)).toNat)) 1) = (σ 19 (w32 ((w32 (3 * x2)) + 2)).toNat) then
        mm_isFelt_l17_j69 σ x1 x2
      else
        some (Sum.inr (Sum.inl ()))
    else
      mm_isFelt_l17_j69 σ x1 x2
set_option maxHeartbeats 4000000 in
theorem bd_mm_isFelt_l17 {x : kX} {l0 : Launch} {Q : State → Prop} (C : kCx x prog_14_method_104_code "PoetFinesModel" (some .boolean) kcl yM 3 l0 R0_mm_isFelt) (σ : kM) (x1 : Int) (x2 : Int) {out : (Int) ⊕ ((Unit) ⊕ (Unit))} (h : mm_isFelt_l17 σ x1 x2 = some out) (hC : ∀ (x2' : Int), out = Sum.inl x2' → KW x 0 0 Q σ 17 [some (kr 0), some (ki x1), some (ki x2')] []) (hX67 : out = Sum.inr (Sum.inl ()) → KW x 0 0 Q σ 67 [none, none, none] []) (hX75 : out = Sum.inr (Sum.inr ()) → KW x 0 0 Q σ 75 [some (kr 0), some (ki x1), none] []) : KW x 0 0 Q σ 17 [some (kr 0), some (ki x1), some (ki x2)] [] := by
  unfold mm_isFelt_l17 at h
  refine kw_iload_n C (kdec dc_M_isFelt 10 rfl) rfl 18 rfl rfl ?_
  refine kw_aload_n C (kdec dc_M_isFelt 11 rfl) rfl 19 rfl rfl ?_
  refine kw_getI C (kdec dc_M_isFelt 12 rfl) 22 rfl fd_M_M_283_0 ?_
  refine kw_icmp_ge C (kdec dc_M_isFelt 13 rfl) 75 25 (by decide) rfl (fun hc22 => ?_) (fun hc22 => ?_)
  · rw [if_pos hc22] at h
    obtain rfl := Option.some.inj h
    exact kw_sub (L' := [some (kr 0), some (ki x1), none]) ⟨rfl, rfl, trivial⟩ (hX75 rfl)
  · rw [if_neg hc22] at h
    refine kw_aload_n C (kdec dc_M_isFelt 14 rfl) rfl 26 rfl rfl ?_
    refine kw_getR C (kdec dc_M_isFelt 15 rfl) 29 rfl fd_M_M_81_0 ?_
    refine kw_iconst C (kdec dc_M_isFelt 16 rfl) 30 rfl rfl ⟨by decide, by decide⟩ ?_
    refine kw_iload_n C (kdec dc_M_isFelt 17 rfl) rfl 31 rfl rfl ?_
    refine kw_imul C (kdec dc_M_isFelt 18 rfl) 32 rfl ?_
    refine kw_iconst C (kdec dc_M_isFelt 19 rfl) 33 rfl rfl ⟨by decide, by decide⟩ ?_
    refine kw_iadd C (kdec dc_M_isFelt 20 rfl) 34 rfl ?_
    obtain ⟨hc_2, h⟩ := kchk_h h
    refine kw_iald C (kdec dc_M_isFelt 21 rfl) 35 rfl rfl hc_2.1 hc_2.2 ?_
    refine kw_iload_n C (kdec dc_M_isFelt 22 rfl) rfl 36 rfl rfl ?_
    refine kw_icmp_ne C (kdec dc_M_isFelt 23 rfl) 69 39 (by decide) rfl (fun hc36 => ?_) (fun hc36 => ?_)
    · rw [if_neg hc36] at h
      exact bd_mm_isFelt_l17_j69 C σ x1 x2 h hC hX67 hX75
    · rw [if_pos hc36] at h
      refine kw_aload_n C (kdec dc_M_isFelt 24 rfl) rfl 40 rfl rfl ?_
      refine kw_getI C (kdec dc_M_isFelt 25 rfl) 43 rfl fd_M_M_337_0 ?_
      refine kw_aload_n C (kdec dc_M_isFelt 26 rfl) rfl 44 rfl rfl ?_
      refine kw_getR C (kdec dc_M_isFelt 27 rfl) 47 rfl fd_M_M_81_0 ?_
      refine kw_iconst C (kdec dc_M_isFelt 28 rfl) 48 rfl rfl ⟨by decide, by decide⟩ ?_
      refine kw_iload_n C (kdec dc_M_isFelt 29 rfl) rfl 49 rfl rfl ?_
      refine kw_imul C (kdec dc_M_isFelt 30 rfl) 50 rfl ?_
      obtain ⟨hc_4, h⟩ := kchk_h h
      refine kw_iald C (kdec dc_M_isFelt 31 rfl) 51 rfl rfl hc_4.1 hc_4.2 ?_
      refine kw_ishr C (kdec dc_M_isFelt 32 rfl) 52 rfl ?_
      refine kw_iconst C (kdec dc_M_isFelt 33 rfl) 53 rfl rfl ⟨by decide, by decide⟩ ?_
      refine kw_iand C (kdec dc_M_isFelt 34 rfl) 54 rfl ?_
      refine kw_aload_n C (kdec dc_M_isFelt 35 rfl) rfl 55 rfl rfl ?_
      refine kw_getR C (kdec dc_M_isFelt 36 rfl) 58 rfl fd_M_M_81_0 ?_
      refine kw_iconst C (kdec dc_M_isFelt 37 rfl) 59 rfl rfl ⟨by decide, by decide⟩ ?_
      refine kw_iload_n C (kdec dc_M_isFelt 38 rfl) rfl 60 rfl rfl ?_
      refine kw_imul C (kdec dc_M_isFelt 39 rfl) 61 rfl ?_
      refine kw_iconst C (kdec dc_M_isFelt 40 rfl) 62 rfl rfl ⟨by decide, by decide⟩ ?_
      refine kw_iadd C (kdec dc_M_isFelt 41 rfl) 63 rfl ?_
      obtain ⟨hc_5, h⟩ := kchk_h h
      refine kw_iald C (kdec dc_M_isFelt 42 rfl) 64 rfl rfl hc_5.1 hc_5.2 ?_
      refine kw_icmp_eq C (kdec dc_M_isFelt 43 rfl) 69 67 (by decide) rfl (fun hc64 => ?_) (fun hc64 => ?_)
      · rw [if_pos hc64] at h
        exact bd_mm_isFelt_l17_j69 C σ x1 x2 h hC hX67 hX75
      · rw [if_neg hc64] at h
        obtain rfl := Option.some.inj h
        exact kw_sub (L' := [none, none, none]) trivial (hX67 rfl)
theorem lp_mm_isFelt_l17 {x : kX} {l0 : Launch} {Q : State → Prop} (C : kCx x prog_14_method_104_code "PoetFinesModel" (some .boolean) kcl yM 3 l0 R0_mm_isFelt) (σ : kM) (x1 : Int) {ex : (Unit) ⊕ (Unit)} (hX67 : ex = (Sum.inl ()) → KW x 0 0 Q σ 67 [none, none, none] []) (hX75 : ex = (Sum.inr ()) → KW x 0 0 Q σ 75 [some (kr 0), some (ki x1), none] []) (n : Nat) (x2 : Int) (h : kloop (fun st => mm_isFelt_l17 σ x1 st) n x2 = some ex) : KW x 0 0 Q σ 17 [some (kr 0), some (ki x1), some (ki x2)] [] :=
  kloop_ind (P := (fun st : Int => KW x 0 0 Q σ 17 [some (kr 0), some (ki x1), some (ki st)] [])) (fun st out hb hc hx => bd_mm_isFelt_l17 C σ x1 st hb (fun a0 e => hc _ e) (fun e => hX67 ((hx _ e).symm)) (fun e => hX75 ((hx _ e).symm))) n x2 h
def mm_isFelt_l2_j112 (σ : kM) (x1 : Int) : Option ((kM × Int) ⊕ ((kM) ⊕ (kM))) :=
  klet (w32 (x1 + 1)) fun x1_8 =>
  some (Sum.inl (σ, x1_8))
set_option maxHeartbeats 4000000 in
theorem bd_mm_isFelt_l2_j112 {x : kX} {l0 : Launch} {Q : State → Prop} (C : kCx x prog_14_method_104_code "PoetFinesModel" (some .boolean) kcl yM 3 l0 R0_mm_isFelt) (σ : kM) (x1 : Int) {out : (kM × Int) ⊕ ((kM) ⊕ (kM))} (h : mm_isFelt_l2_j112 σ x1 = some out) (hC : ∀ (σ' : kM) (x1' : Int), out = Sum.inl (σ', x1') → KW x 0 0 Q σ' 2 [some (kr 0), some (ki x1'), none] []) (hX67 : ∀ (σ' : kM), out = Sum.inr (Sum.inl σ') → KW x 0 0 Q σ' 67 [none, none, none] []) (hX118 : ∀ (σ' : kM), out = Sum.inr (Sum.inr σ') → KW x 0 0 Q σ' 118 [none, none, none] []) : KW x 0 0 Q σ 112 [some (kr 0), some (ki x1), none] [] := by
  unfold mm_isFelt_l2_j112 at h
  obtain ⟨x1_8, ex1_8, h⟩ := klet_h h
  refine kw_iinc (L' := [some (kr 0), some (ki x1_8), none]) C (kdec dc_M_isFelt 69 rfl) 115 rfl rfl (by decide) rfl (by rw [ex1_8]; rfl) ?_
  refine kw_goto C (kdec dc_M_isFelt 70 rfl) 2 (by decide) ?_
  obtain rfl := Option.some.inj h
  exact (hC _ _ rfl)
def mm_isFelt_l82 (σ : kM) (x1 : Int) (x2 : Int) : Option ((kM × Int) ⊕ ((kM))) :=
  if (σ 0 2) ≤ x2 then
    some (Sum.inr σ)
  else
    kchk (0 ≤ (w32 (154 + x2)) ∧ (w32 (154 + x2)) < 290) <|
    kchk (0 ≤ x2 ∧ x2 < 8) <|
    klet (kst σ 20 (kup (σ 20) x2.toNat (σ 8 (w32 (154 + x2)).toNat))) fun σ_11 =>
    klet (w32 (x2 + 1)) fun x2_12 =>
    some (Sum.inl (σ_11, x2_12))
set_option maxHeartbeats 4000000 in
theorem bd_mm_isFelt_l82 {x : kX} {l0 : Launch} {Q : State → Prop} (C : kCx x prog_14_method_104_code "PoetFinesModel" (some .boolean) kcl yM 3 l0 R0_mm_isFelt) (σ : kM) (x1 : Int) (x2 : Int) {out : (kM × Int) ⊕ ((kM))} (h : mm_isFelt_l82 σ x1 x2 = some out) (hC : ∀ (σ' : kM) (x2' : Int), out = Sum.inl (σ', x2') → KW x 0 0 Q σ' 82 [some (kr 0), some (ki x1), some (ki x2')] []) (hX112 : ∀ (σ' : kM), out = Sum.inr σ' → KW x 0 0 Q σ' 112 [some (kr 0), some (ki x1), none] []) : KW x 0 0 Q σ 82 [some (kr 0), some (ki x1), some (ki x2)] [] := by
  unfold mm_isFelt_l82 at h
  refine kw_iload_n C (kdec dc_M_isFelt 53 rfl) rfl 83 rfl rfl ?_
  refine kw_aload_n C (kdec dc_M_isFelt 54 rfl) rfl 84 rfl rfl ?_
  refine kw_getI C (kdec dc_M_isFelt 55 rfl) 87 rfl fd_M_M_270_0 ?_
  refine kw_icmp_ge C (kdec dc_M_isFelt 56 rfl) 112 90 (by decide) rfl (fun hc87 => ?_) (fun hc87 => ?_)
  · rw [if_pos hc87] at h
    obtain rfl := Option.some.inj h
    exact kw_sub (L' := [some (kr 0), some (ki x1), none]) ⟨rfl, rfl, trivial⟩ (hX112 _ rfl)
  · rw [if_neg hc87] at h
    refine kw_aload_n C (kdec dc_M_isFelt 57 rfl) rfl 91 rfl rfl ?_
    refine kw_getR C (kdec dc_M_isFelt 58 rfl) 94 rfl fd_M_M_84_0 ?_
    refine kw_iload_n C (kdec dc_M_isFelt 59 rfl) rfl 95 rfl rfl ?_
    refine kw_aload_n C (kdec dc_M_isFelt 60 rfl) rfl 96 rfl rfl ?_
    refine kw_getR C (kdec dc_M_isFelt 61 rfl) 99 rfl fd_M_M_48_0 ?_
    refine kw_sipush (v := 154) C (kdec dc_M_isFelt 62 rfl) 102 rfl (by decide) ⟨by decide, by decide⟩ ?_
    refine kw_iload_n C (kdec dc_M_isFelt 63 rfl) rfl 103 rfl rfl ?_
    refine kw_iadd C (kdec dc_M_isFelt 64 rfl) 104 rfl ?_
    obtain ⟨hc_9, h⟩ := kchk_h h
    refine kw_iald C (kdec dc_M_isFelt 65 rfl) 105 rfl rfl hc_9.1 hc_9.2 ?_
    obtain ⟨hc_10, h⟩ := kchk_h h
    obtain ⟨σ_11, eσ_11, h⟩ := klet_h h
    refine kw_iast C (kdec dc_M_isFelt 66 rfl) 106 rfl rfl hc_10.1 hc_10.2 ?_
    refine kw_sig eσ_11 ?_
    obtain ⟨x2_12, ex2_12, h⟩ := klet_h h
    refine kw_iinc (L' := [some (kr 0), some (ki x1), some (ki x2_12)]) C (kdec dc_M_isFelt 67 rfl) 109 rfl rfl (by decide) rfl (by rw [ex2_12]; rfl) ?_
    refine kw_goto C (kdec dc_M_isFelt 68 rfl) 82 (by decide) ?_
    obtain rfl := Option.some.inj h
    exact (hC _ _ rfl)
theorem lp_mm_isFelt_l82 {x : kX} {l0 : Launch} {Q : State → Prop} (C : kCx x prog_14_method_104_code "PoetFinesModel" (some .boolean) kcl yM 3 l0 R0_mm_isFelt) (x1 : Int) {ex : (kM)} (hX112 : ∀ (σ' : kM), ex = σ' → KW x 0 0 Q σ' 112 [some (kr 0), some (ki x1), none] []) (n : Nat) (σ : kM) (x2 : Int) (h : kloop (fun st => mm_isFelt_l82 st.1 x1 st.2) n (σ, x2) = some ex) : KW x 0 0 Q σ 82 [some (kr 0), some (ki x1), some (ki x2)] [] :=
  kloop_ind (P := (fun st : kM × Int => KW x 0 0 Q st.1 82 [some (kr 0), some (ki x1), some (ki (st.2))] [])) (fun st out hb hc hx => bd_mm_isFelt_l82 C st.1 x1 st.2 hb (fun a0 a1 e => hc _ e) (fun a0 e => hX112 _ ((hx _ e).symm))) n (σ, x2) h
def mm_isFelt_l2 (σ : kM) (x1 : Int) : Option ((kM × Int) ⊕ ((kM) ⊕ (kM))) :=
  if 20 < x1 then
    some (Sum.inr (Sum.inr σ))
  else
    (mm_yearGoes σ 145).bind fun σ_1 =>
    (kloop (fun st => mm_isFelt_l17 σ_1 x1 st) kFuel 0).bind fun ex_6 => match ex_6 with
      | (Sum.inl ()) =>
        some (Sum.inr (Sum.inl σ_1))
      | (Sum.inr ()) =>
        if x1 = 5 then
          (kloop (fun st => mm_isFelt_l82 st.1 x1 st.2) kFuel (σ_1, 0)).bind fun σ_15 =>
          mm_isFelt_l2_j112 σ_15 x1
        else
          mm_isFelt_l2_j112 σ_1 x1
set_option maxHeartbeats 4000000 in
theorem bd_mm_isFelt_l2 {x : kX} {l0 : Launch} {Q : State → Prop} (C : kCx x prog_14_method_104_code "PoetFinesModel" (some .boolean) kcl yM 3 l0 R0_mm_isFelt) (σ : kM) (x1 : Int) {out : (kM × Int) ⊕ ((kM) ⊕ (kM))} (h : mm_isFelt_l2 σ x1 = some out) (hC : ∀ (σ' : kM) (x1' : Int), out = Sum.inl (σ', x1') → KW x 0 0 Q σ' 2 [some (kr 0), some (ki x1'), none] []) (hX67 : ∀ (σ' : kM), out = Sum.inr (Sum.inl σ') → KW x 0 0 Q σ' 67 [none, none, none] []) (hX118 : ∀ (σ' : kM), out = Sum.inr (Sum.inr σ') → KW x 0 0 Q σ' 118 [none, none, none] []) : KW x 0 0 Q σ 2 [some (kr 0), some (ki x1), none] [] := by
  unfold mm_isFelt_l2 at h
  refine kw_iload_n C (kdec dc_M_isFelt 2 rfl) rfl 3 rfl rfl ?_
  refine kw_bipush (v := 20) C (kdec dc_M_isFelt 3 rfl) 5 rfl (by decide) ⟨by decide, by decide⟩ ?_
  refine kw_icmp_gt C (kdec dc_M_isFelt 4 rfl) 118 8 (by decide) rfl (fun hc5 => ?_) (fun hc5 => ?_)
  · rw [if_pos hc5] at h
    obtain rfl := Option.some.inj h
    exact kw_sub (L' := [none, none, none]) trivial (hX118 _ rfl)
  · rw [if_neg hc5] at h
    refine kw_aload_n C (kdec dc_M_isFelt 5 rfl) rfl 9 rfl rfl ?_
    refine kw_sipush (v := 145) C (kdec dc_M_isFelt 6 rfl) 12 rfl (by decide) ⟨by decide, by decide⟩ ?_
    obtain ⟨σ_1, hg_16, h⟩ := kbind_h h
    refine kw_callV (As := [ki 145]) C (kdec dc_M_isFelt 7 rfl) 15 rfl cv_M_352 rfl rfl (mt_mm_yearGoes l0 hg_16) ⟨rfl, rfl⟩ ⟨Nat.le_of_ble_eq_true rfl, Nat.le_of_ble_eq_true rfl⟩ ⟨Nat.zero_le _, Nat.zero_le _⟩ rfl (Nat.le_of_ble_eq_true rfl) ?_
    change KW x 0 0 Q σ_1 15 [some (kr 0), some (ki x1), none] []
    refine kw_iconst C (kdec dc_M_isFelt 8 rfl) 16 rfl rfl ⟨by decide, by decide⟩ ?_
    refine kw_istore_n (L' := [some (kr 0), some (ki x1), some (ki 0)]) C (kdec dc_M_isFelt 9 rfl) rfl 17 rfl (by decide) rfl rfl ?_
    obtain ⟨ex_6, hl_7, h⟩ := kbind_h h
    refine lp_mm_isFelt_l17 C σ_1 x1 ?_ ?_ kFuel 0 hl_7
    · intro e
      subst ex_6
      try dsimp only at h
      obtain rfl := Option.some.inj h
      exact (hX67 _ rfl)
    · intro e
      subst ex_6
      try dsimp only at h
      refine kw_iload_n C (kdec dc_M_isFelt 48 rfl) rfl 76 rfl rfl ?_
      refine kw_iconst C (kdec dc_M_isFelt 49 rfl) 77 rfl rfl ⟨by decide, by decide⟩ ?_
      refine kw_icmp_ne C (kdec dc_M_isFelt 50 rfl) 112 80 (by decide) rfl (fun hc77 => ?_) (fun hc77 => ?_)
      · rw [if_neg hc77] at h
        exact bd_mm_isFelt_l2_j112 C σ_1 x1 h hC hX67 hX118
      · rw [if_pos hc77] at h
        refine kw_iconst C (kdec dc_M_isFelt 51 rfl) 81 rfl rfl ⟨by decide, by decide⟩ ?_
        refine kw_istore_n (L' := [some (kr 0), some (ki x1), some (ki 0)]) C (kdec dc_M_isFelt 52 rfl) rfl 82 rfl (by decide) rfl rfl ?_
        obtain ⟨ex_13, hl_14, h⟩ := kbind_h h
        refine lp_mm_isFelt_l82 C x1 ?_ kFuel σ_1 0 hl_14
        · intro σ_15 e
          subst ex_13
          try dsimp only at h
          exact bd_mm_isFelt_l2_j112 C σ_15 x1 h hC hX67 hX118
theorem lp_mm_isFelt_l2 {x : kX} {l0 : Launch} {Q : State → Prop} (C : kCx x prog_14_method_104_code "PoetFinesModel" (some .boolean) kcl yM 3 l0 R0_mm_isFelt) {ex : (kM) ⊕ (kM)} (hX67 : ∀ (σ' : kM), ex = (Sum.inl σ') → KW x 0 0 Q σ' 67 [none, none, none] []) (hX118 : ∀ (σ' : kM), ex = (Sum.inr σ') → KW x 0 0 Q σ' 118 [none, none, none] []) (n : Nat) (σ : kM) (x1 : Int) (h : kloop (fun st => mm_isFelt_l2 st.1 st.2) n (σ, x1) = some ex) : KW x 0 0 Q σ 2 [some (kr 0), some (ki x1), none] [] :=
  kloop_ind (P := (fun st : kM × Int => KW x 0 0 Q st.1 2 [some (kr 0), some (ki (st.2)), none] [])) (fun st out hb hc hx => bd_mm_isFelt_l2 C st.1 st.2 hb (fun a0 a1 e => hc _ e) (fun a0 e => hX67 _ ((hx _ e).symm)) (fun a0 e => hX118 _ ((hx _ e).symm))) n (σ, x1) h
def mm_isFelt (σ : kM) : Option (Int × kM) :=
  (kloop (fun st => mm_isFelt_l2 st.1 st.2) kFuel (σ, 1)).bind fun ex_17 => match ex_17 with
    | (Sum.inl σ_19) =>
      some ((0, σ_19))
    | (Sum.inr σ_20) =>
      some ((1, σ_20))
set_option maxHeartbeats 4000000 in
theorem bd_mm_isFelt {x : kX} {l0 : Launch} {Q : State → Prop} (C : kCx x prog_14_method_104_code "PoetFinesModel" (some .boolean) kcl yM 3 l0 R0_mm_isFelt) (σ : kM) {out : Int × kM} (h : mm_isFelt σ = some out) (hR : ∀ (r : Int) (τ : kM), out = (r, τ) → Q = kQ x (some (ki r)) τ 0 0) : KW x 0 0 Q σ 0 [some (kr 0), none, none] [] := by
  unfold mm_isFelt at h
  refine kw_iconst C (kdec dc_M_isFelt 0 rfl) 1 rfl rfl ⟨by decide, by decide⟩ ?_
  refine kw_istore_n (L' := [some (kr 0), some (ki 1), none]) C (kdec dc_M_isFelt 1 rfl) rfl 2 rfl (by decide) rfl rfl ?_
  obtain ⟨ex_17, hl_18, h⟩ := kbind_h h
  refine lp_mm_isFelt_l2 C ?_ ?_ kFuel σ 1 hl_18
  · intro σ_19 e
    subst ex_17
    try dsimp only at h
    refine kw_iconst C (kdec dc_M_isFelt 44 rfl) 68 rfl rfl ⟨by decide, by decide⟩ ?_
    obtain rfl := Option.some.inj h
    exact kw_Q (hR _ _ rfl) (kw_zreturn C (kdec dc_M_isFelt 45 rfl) (by decide))
  · intro σ_20 e
    subst ex_17
    try dsimp only at h
    refine kw_iconst C (kdec dc_M_isFelt 71 rfl) 119 rfl rfl ⟨by decide, by decide⟩ ?_
    obtain rfl := Option.some.inj h
    exact kw_Q (hR _ _ rfl) (kw_zreturn C (kdec dc_M_isFelt 72 rfl) (by decide))
theorem mt_mm_isFelt (l0 : Launch) {σ : kM} {r : Int} {τ : kM} (h : mm_isFelt σ = some (r, τ)) : kMet l0 ky_M_isFelt prog_14_method_104_code 3 (some .boolean) R0_mm_isFelt kcl yM σ [kr 0] (some (ki r)) τ := kMet.of' [some (kr 0), none, none] (by decide) (Nat.le_of_ble_eq_true rfl) ⟨rfl, trivial⟩ (fun x C => bd_mm_isFelt C σ h (fun r τ e => by cases e; rfl))
def R0_mm_isGuess : Room := ({ frames := 7, cells := 0, slots := 0, locals := 168 } : Room)
def mm_isGuess (σ : kM) (x1 : Int) : Option (Int × kM) :=
  klet (w32 ((w32 (113 + (w32 (4 * (kdiv x1 100))))) + (krem (kdiv x1 10) 10))) fun x2_1 =>
  if (σ 0 1) ≤ (krem (kdiv x1 10) 10) then
    some ((0, σ))
  else
    kchk (0 ≤ x2_1 ∧ x2_1 < 290) <|
    if (σ 8 x2_1.toNat) = (krem x1 10) then
      some ((0, σ))
    else
      (mm_tries σ).bind fun σ_3 =>
      kchk (0 ≤ (w32 (145 + x2_1)) ∧ (w32 (145 + x2_1)) < 290) <|
      klet (kst σ_3 8 (kup (σ_3 8) ((w32 (145 + x2_1)).toNat) (krem x1 10))) fun σ_5 =>
      (mm_isFelt σ_5).bind fun (r_6, σ_7) =>
      kchk (r_6 = 0 ∨ r_6 = 1) <|
      some ((r_6, σ_7))
set_option maxHeartbeats 4000000 in
theorem bd_mm_isGuess {x : kX} {l0 : Launch} {Q : State → Prop} (C : kCx x prog_14_method_105_code "PoetFinesModel" (some .boolean) kcl yM 3 l0 R0_mm_isGuess) (σ : kM) (x1 : Int) {out : Int × kM} (h : mm_isGuess σ x1 = some out) (hR : ∀ (r : Int) (τ : kM), out = (r, τ) → Q = kQ x (some (ki r)) τ 0 0) : KW x 0 0 Q σ 0 [some (kr 0), some (ki x1), none] [] := by
  unfold mm_isGuess at h
  refine kw_bipush (v := 113) C (kdec dc_M_isGuess 0 rfl) 2 rfl (by decide) ⟨by decide, by decide⟩ ?_
  refine kw_iconst C (kdec dc_M_isGuess 1 rfl) 3 rfl rfl ⟨by decide, by decide⟩ ?_
  refine kw_iload_n C (kdec dc_M_isGuess 2 rfl) rfl 4 rfl rfl ?_
  refine kw_bipush (v := 100) C (kdec dc_M_isGuess 3 rfl) 6 rfl (by decide) ⟨by decide, by decide⟩ ?_
  refine kw_idiv C (kdec dc_M_isGuess 4 rfl) 7 rfl (by decide) ?_
  refine kw_imul C (kdec dc_M_isGuess 5 rfl) 8 rfl ?_
  refine kw_iadd C (kdec dc_M_isGuess 6 rfl) 9 rfl ?_
  refine kw_iload_n C (kdec dc_M_isGuess 7 rfl) rfl 10 rfl rfl ?_
  refine kw_bipush (v := 10) C (kdec dc_M_isGuess 8 rfl) 12 rfl (by decide) ⟨by decide, by decide⟩ ?_
  refine kw_idiv C (kdec dc_M_isGuess 9 rfl) 13 rfl (by decide) ?_
  refine kw_bipush (v := 10) C (kdec dc_M_isGuess 10 rfl) 15 rfl (by decide) ⟨by decide, by decide⟩ ?_
  refine kw_irem C (kdec dc_M_isGuess 11 rfl) 16 rfl (by decide) ?_
  refine kw_iadd C (kdec dc_M_isGuess 12 rfl) 17 rfl ?_
  obtain ⟨x2_1, ex2_1, h⟩ := klet_h h
  refine kw_top ex2_1 ?_
  refine kw_istore_n (L' := [some (kr 0), some (ki x1), some (ki x2_1)]) C (kdec dc_M_isGuess 13 rfl) rfl 18 rfl (by decide) rfl rfl ?_
  refine kw_iload_n C (kdec dc_M_isGuess 14 rfl) rfl 19 rfl rfl ?_
  refine kw_bipush (v := 10) C (kdec dc_M_isGuess 15 rfl) 21 rfl (by decide) ⟨by decide, by decide⟩ ?_
  refine kw_idiv C (kdec dc_M_isGuess 16 rfl) 22 rfl (by decide) ?_
  refine kw_bipush (v := 10) C (kdec dc_M_isGuess 17 rfl) 24 rfl (by decide) ⟨by decide, by decide⟩ ?_
  refine kw_irem C (kdec dc_M_isGuess 18 rfl) 25 rfl (by decide) ?_
  refine kw_aload_n C (kdec dc_M_isGuess 19 rfl) rfl 26 rfl rfl ?_
  refine kw_getI C (kdec dc_M_isGuess 20 rfl) 29 rfl fd_M_M_7_0 ?_
  refine kw_icmp_ge C (kdec dc_M_isGuess 21 rfl) 45 32 (by decide) rfl (fun hc29 => ?_) (fun hc29 => ?_)
  · rw [if_pos hc29] at h
    refine kw_iconst C (kdec dc_M_isGuess 30 rfl) 46 rfl rfl ⟨by decide, by decide⟩ ?_
    obtain rfl := Option.some.inj h
    exact kw_Q (hR _ _ rfl) (kw_zreturn C (kdec dc_M_isGuess 31 rfl) (by decide))
  · rw [if_neg hc29] at h
    refine kw_aload_n C (kdec dc_M_isGuess 22 rfl) rfl 33 rfl rfl ?_
    refine kw_getR C (kdec dc_M_isGuess 23 rfl) 36 rfl fd_M_M_48_0 ?_
    refine kw_iload_n C (kdec dc_M_isGuess 24 rfl) rfl 37 rfl rfl ?_
    obtain ⟨hc_2, h⟩ := kchk_h h
    refine kw_iald C (kdec dc_M_isGuess 25 rfl) 38 rfl rfl hc_2.1 hc_2.2 ?_
    refine kw_iload_n C (kdec dc_M_isGuess 26 rfl) rfl 39 rfl rfl ?_
    refine kw_bipush (v := 10) C (kdec dc_M_isGuess 27 rfl) 41 rfl (by decide) ⟨by decide, by decide⟩ ?_
    refine kw_irem C (kdec dc_M_isGuess 28 rfl) 42 rfl (by decide) ?_
    refine kw_icmp_ne C (kdec dc_M_isGuess 29 rfl) 47 45 (by decide) rfl (fun hc42 => ?_) (fun hc42 => ?_)
    · rw [if_neg hc42] at h
      refine kw_aload_n C (kdec dc_M_isGuess 32 rfl) rfl 48 rfl rfl ?_
      obtain ⟨σ_3, hg_10, h⟩ := kbind_h h
      refine kw_callV (As := []) C (kdec dc_M_isGuess 33 rfl) 51 rfl cv_M_349 rfl rfl (mt_mm_tries l0 hg_10) ⟨rfl, rfl⟩ ⟨Nat.le_of_ble_eq_true rfl, Nat.le_of_ble_eq_true rfl⟩ ⟨Nat.zero_le _, Nat.zero_le _⟩ rfl (Nat.le_of_ble_eq_true rfl) ?_
      change KW x 0 0 Q σ_3 51 [some (kr 0), some (ki x1), some (ki x2_1)] []
      refine kw_aload_n C (kdec dc_M_isGuess 34 rfl) rfl 52 rfl rfl ?_
      refine kw_getR C (kdec dc_M_isGuess 35 rfl) 55 rfl fd_M_M_48_0 ?_
      refine kw_sipush (v := 145) C (kdec dc_M_isGuess 36 rfl) 58 rfl (by decide) ⟨by decide, by decide⟩ ?_
      refine kw_iload_n C (kdec dc_M_isGuess 37 rfl) rfl 59 rfl rfl ?_
      refine kw_iadd C (kdec dc_M_isGuess 38 rfl) 60 rfl ?_
      refine kw_iload_n C (kdec dc_M_isGuess 39 rfl) rfl 61 rfl rfl ?_
      refine kw_bipush (v := 10) C (kdec dc_M_isGuess 40 rfl) 63 rfl (by decide) ⟨by decide, by decide⟩ ?_
      refine kw_irem C (kdec dc_M_isGuess 41 rfl) 64 rfl (by decide) ?_
      obtain ⟨hc_4, h⟩ := kchk_h h
      obtain ⟨σ_5, eσ_5, h⟩ := klet_h h
      refine kw_iast C (kdec dc_M_isGuess 42 rfl) 65 rfl rfl hc_4.1 hc_4.2 ?_
      refine kw_sig eσ_5 ?_
      refine kw_aload_n C (kdec dc_M_isGuess 43 rfl) rfl 66 rfl rfl ?_
      obtain ⟨⟨r_6, σ_7⟩, hg_9, h⟩ := kbind_h h
      dsimp only at h
      refine kw_callV (As := []) C (kdec dc_M_isGuess 44 rfl) 69 rfl cv_M_428 rfl rfl (mt_mm_isFelt l0 hg_9) ⟨rfl, rfl⟩ ⟨Nat.le_of_ble_eq_true rfl, Nat.le_of_ble_eq_true rfl⟩ ⟨Nat.zero_le _, Nat.zero_le _⟩ rfl (Nat.le_of_ble_eq_true rfl) ?_
      change KW x 0 0 Q σ_7 69 [some (kr 0), some (ki x1), some (ki x2_1)] [ki r_6]
      obtain ⟨hc_8, h⟩ := kchk_h h
      obtain rfl := Option.some.inj h
      exact kw_Q (hR _ _ rfl) (kw_zreturn C (kdec dc_M_isGuess 45 rfl) hc_8)
    · rw [if_pos hc42] at h
      refine kw_iconst C (kdec dc_M_isGuess 30 rfl) 46 rfl rfl ⟨by decide, by decide⟩ ?_
      obtain rfl := Option.some.inj h
      exact kw_Q (hR _ _ rfl) (kw_zreturn C (kdec dc_M_isGuess 31 rfl) (by decide))
theorem mt_mm_isGuess (l0 : Launch) {σ : kM} {x1 : Int} {r : Int} {τ : kM} (h : mm_isGuess σ x1 = some (r, τ)) : kMet l0 ky_M_isGuess prog_14_method_105_code 3 (some .boolean) R0_mm_isGuess kcl yM σ [kr 0, ki x1] (some (ki r)) τ := kMet.of' [some (kr 0), some (ki x1), none] (by decide) (Nat.le_of_ble_eq_true rfl) ⟨rfl, rfl, trivial⟩ (fun x C => bd_mm_isGuess C σ x1 h (fun r τ e => by cases e; rfl))
def R0_mm_truths : Room := ({ frames := 8, cells := 0, slots := 0, locals := 190 } : Room)
def mm_truths_l45_j80 (σ : kM) (x1 : Int) (x2 : Int) (x3 : Int) (x4 : Int) : Option ((kM × Int × Int × Int) ⊕ ((kM × Int × Int))) :=
  klet (w32 (x4 + 1)) fun x4_8 =>
  some (Sum.inl (σ, x2, x3, x4_8))
set_option maxHeartbeats 4000000 in
theorem bd_mm_truths_l45_j80 {x : kX} {l0 : Launch} {Q : State → Prop} (C : kCx x prog_14_method_106_code "PoetFinesModel" (some .int) kcl yM 5 l0 R0_mm_truths) (σ : kM) (x1 : Int) (x2 : Int) (x3 : Int) (x4 : Int) {out : (kM × Int × Int × Int) ⊕ ((kM × Int × Int))} (h : mm_truths_l45_j80 σ x1 x2 x3 x4 = some out) (hC : ∀ (σ' : kM) (x2' : Int) (x3' : Int) (x4' : Int), out = Sum.inl (σ', x2', x3', x4') → KW x 0 0 Q σ' 45 [some (kr 0), some (ki x1), some (ki x2'), some (ki x3'), some (ki x4')] []) (hX86 : ∀ (σ' : kM) (x2' : Int) (x3' : Int), out = Sum.inr (σ', x2', x3') → KW x 0 0 Q σ' 86 [none, some (ki x1), some (ki x2'), some (ki x3'), none] []) : KW x 0 0 Q σ 80 [some (kr 0), some (ki x1), some (ki x2), some (ki x3), some (ki x4)] [] := by
  unfold mm_truths_l45_j80 at h
  obtain ⟨x4_8, ex4_8, h⟩ := klet_h h
  refine kw_iinc (L' := [some (kr 0), some (ki x1), some (ki x2), some (ki x3), some (ki x4_8)]) C (kdec dc_M_truths 45 rfl) 83 rfl rfl (by decide) rfl (by rw [ex4_8]; rfl) ?_
  refine kw_goto C (kdec dc_M_truths 46 rfl) 45 (by decide) ?_
  obtain rfl := Option.some.inj h
  exact (hC _ _ _ _ rfl)
def mm_truths_l45 (σ : kM) (x1 : Int) (x2 : Int) (x3 : Int) (x4 : Int) : Option ((kM × Int × Int × Int) ⊕ ((kM × Int × Int))) :=
  if (w32 (100 * (σ 0 2))) ≤ x4 then
    some (Sum.inr (σ, x2, x3))
  else
    (mm_isGuess σ x4).bind fun (r_5, σ_6) =>
    if r_5 = 0 then
      mm_truths_l45_j80 σ_6 x1 x2 x3 x4
    else
      klet (w32 (x2 + 1)) fun x2_7 =>
      if x3 = ((-1)) then
        mm_truths_l45_j80 σ_6 x1 x2_7 x4 x4
      else
        mm_truths_l45_j80 σ_6 x1 x2_7 x3 x4
set_option maxHeartbeats 4000000 in
theorem bd_mm_truths_l45 {x : kX} {l0 : Launch} {Q : State → Prop} (C : kCx x prog_14_method_106_code "PoetFinesModel" (some .int) kcl yM 5 l0 R0_mm_truths) (σ : kM) (x1 : Int) (x2 : Int) (x3 : Int) (x4 : Int) {out : (kM × Int × Int × Int) ⊕ ((kM × Int × Int))} (h : mm_truths_l45 σ x1 x2 x3 x4 = some out) (hC : ∀ (σ' : kM) (x2' : Int) (x3' : Int) (x4' : Int), out = Sum.inl (σ', x2', x3', x4') → KW x 0 0 Q σ' 45 [some (kr 0), some (ki x1), some (ki x2'), some (ki x3'), some (ki x4')] []) (hX86 : ∀ (σ' : kM) (x2' : Int) (x3' : Int), out = Sum.inr (σ', x2', x3') → KW x 0 0 Q σ' 86 [none, some (ki x1), some (ki x2'), some (ki x3'), none] []) : KW x 0 0 Q σ 45 [some (kr 0), some (ki x1), some (ki x2), some (ki x3), some (ki x4)] [] := by
  unfold mm_truths_l45 at h
  refine kw_iload C (kdec dc_M_truths 28 rfl) 47 rfl rfl ?_
  refine kw_bipush (v := 100) C (kdec dc_M_truths 29 rfl) 49 rfl (by decide) ⟨by decide, by decide⟩ ?_
  refine kw_aload_n C (kdec dc_M_truths 30 rfl) rfl 50 rfl rfl ?_
  refine kw_getI C (kdec dc_M_truths 31 rfl) 53 rfl fd_M_M_270_0 ?_
  refine kw_imul C (kdec dc_M_truths 32 rfl) 54 rfl ?_
  refine kw_icmp_ge C (kdec dc_M_truths 33 rfl) 86 57 (by decide) rfl (fun hc54 => ?_) (fun hc54 => ?_)
  · rw [if_pos hc54] at h
    obtain rfl := Option.some.inj h
    exact kw_sub (L' := [none, some (ki x1), some (ki x2), some (ki x3), none]) ⟨rfl, rfl, rfl, trivial⟩ (hX86 _ _ _ rfl)
  · rw [if_neg hc54] at h
    refine kw_aload_n C (kdec dc_M_truths 34 rfl) rfl 58 rfl rfl ?_
    refine kw_iload C (kdec dc_M_truths 35 rfl) 60 rfl rfl ?_
    obtain ⟨⟨r_5, σ_6⟩, hg_9, h⟩ := kbind_h h
    dsimp only at h
    refine kw_callV (As := [ki x4]) C (kdec dc_M_truths 36 rfl) 63 rfl cv_M_431 rfl rfl (mt_mm_isGuess l0 hg_9) ⟨rfl, rfl⟩ ⟨Nat.le_of_ble_eq_true rfl, Nat.le_of_ble_eq_true rfl⟩ ⟨Nat.zero_le _, Nat.zero_le _⟩ rfl (Nat.le_of_ble_eq_true rfl) ?_
    change KW x 0 0 Q σ_6 63 [some (kr 0), some (ki x1), some (ki x2), some (ki x3), some (ki x4)] [ki r_5]
    refine kw_if_ne C (kdec dc_M_truths 37 rfl) 69 66 (by decide) rfl (fun hc63 => ?_) (fun hc63 => ?_)
    · rw [if_neg hc63] at h
      obtain ⟨x2_7, ex2_7, h⟩ := klet_h h
      refine kw_iinc (L' := [some (kr 0), some (ki x1), some (ki x2_7), some (ki x3), some (ki x4)]) C (kdec dc_M_truths 39 rfl) 72 rfl rfl (by decide) rfl (by rw [ex2_7]; rfl) ?_
      refine kw_iload_n C (kdec dc_M_truths 40 rfl) rfl 73 rfl rfl ?_
      refine kw_iconst C (kdec dc_M_truths 41 rfl) 74 rfl rfl ⟨by decide, by decide⟩ ?_
      refine kw_icmp_ne C (kdec dc_M_truths 42 rfl) 80 77 (by decide) rfl (fun hc74 => ?_) (fun hc74 => ?_)
      · rw [if_neg hc74] at h
        exact bd_mm_truths_l45_j80 C σ_6 x1 x2_7 x3 x4 h hC hX86
      · rw [if_pos hc74] at h
        refine kw_iload C (kdec dc_M_truths 43 rfl) 79 rfl rfl ?_
        refine kw_istore_n (L' := [some (kr 0), some (ki x1), some (ki x2_7), some (ki x4), some (ki x4)]) C (kdec dc_M_truths 44 rfl) rfl 80 rfl (by decide) rfl rfl ?_
        exact bd_mm_truths_l45_j80 C σ_6 x1 x2_7 x4 x4 h hC hX86
    · rw [if_pos hc63] at h
      refine kw_goto C (kdec dc_M_truths 38 rfl) 80 (by decide) ?_
      exact bd_mm_truths_l45_j80 C σ_6 x1 x2 x3 x4 h hC hX86
theorem lp_mm_truths_l45 {x : kX} {l0 : Launch} {Q : State → Prop} (C : kCx x prog_14_method_106_code "PoetFinesModel" (some .int) kcl yM 5 l0 R0_mm_truths) (x1 : Int) {ex : (kM × Int × Int)} (hX86 : ∀ (σ' : kM) (x2' : Int) (x3' : Int), ex = (σ', x2', x3') → KW x 0 0 Q σ' 86 [none, some (ki x1), some (ki x2'), some (ki x3'), none] []) (n : Nat) (σ : kM) (x2 : Int) (x3 : Int) (x4 : Int) (h : kloop (fun st => mm_truths_l45 st.1 x1 st.2.1 st.2.2.1 st.2.2.2) n (σ, x2, x3, x4) = some ex) : KW x 0 0 Q σ 45 [some (kr 0), some (ki x1), some (ki x2), some (ki x3), some (ki x4)] [] :=
  kloop_ind (P := (fun st : kM × Int × Int × Int => KW x 0 0 Q st.1 45 [some (kr 0), some (ki x1), some (ki (st.2.1)), some (ki (st.2.2.1)), some (ki (st.2.2.2))] [])) (fun st out hb hc hx => bd_mm_truths_l45 C st.1 x1 st.2.1 st.2.2.1 st.2.2.2 hb (fun a0 a1 a2 a3 e => hc _ e) (fun a0 a1 a2 e => hX86 _ _ _ ((hx _ e).symm))) n (σ, x2, x3, x4) h
def mm_truths (σ : kM) (x1 : Int) : Option (Int × kM) :=
  klet (kst σ 0 (kup (σ 0) 0 0)) fun σ_1 =>
  (mm_isWhat σ_1 x1 2).bind fun (r_2, σ_3) =>
  if r_2 = 0 then
    some ((0, σ_3))
  else
    if x1 = 2 then
      (mm_tries σ_3).bind fun σ_15 =>
      (mm_isFelt σ_15).bind fun (r_16, σ_17) =>
      if r_16 = 0 then
        some ((0, σ_17))
      else
        some ((1, σ_17))
    else
      klet ((-1)) fun x3_4 =>
      (kloop (fun st => mm_truths_l45 st.1 x1 st.2.1 st.2.2.1 st.2.2.2) kFuel (σ_3, 0, x3_4, 0)).bind fun (σ_12, x2_13, x3_14) =>
      if x1 = 0 then
        some ((x2_13, σ_12))
      else
        some ((x3_14, σ_12))
set_option maxHeartbeats 4000000 in
theorem bd_mm_truths {x : kX} {l0 : Launch} {Q : State → Prop} (C : kCx x prog_14_method_106_code "PoetFinesModel" (some .int) kcl yM 5 l0 R0_mm_truths) (σ : kM) (x1 : Int) {out : Int × kM} (h : mm_truths σ x1 = some out) (hR : ∀ (r : Int) (τ : kM), out = (r, τ) → Q = kQ x (some (ki r)) τ 0 0) : KW x 0 0 Q σ 0 [some (kr 0), some (ki x1), none, none, none] [] := by
  unfold mm_truths at h
  refine kw_aload_n C (kdec dc_M_truths 0 rfl) rfl 1 rfl rfl ?_
  refine kw_iconst C (kdec dc_M_truths 1 rfl) 2 rfl rfl ⟨by decide, by decide⟩ ?_
  obtain ⟨σ_1, eσ_1, h⟩ := klet_h h
  refine kw_putI C (kdec dc_M_truths 2 rfl) 5 rfl fp_M_M_99_0 ?_
  refine kw_sig eσ_1 ?_
  refine kw_aload_n C (kdec dc_M_truths 3 rfl) rfl 6 rfl rfl ?_
  refine kw_iload_n C (kdec dc_M_truths 4 rfl) rfl 7 rfl rfl ?_
  refine kw_iconst C (kdec dc_M_truths 5 rfl) 8 rfl rfl ⟨by decide, by decide⟩ ?_
  obtain ⟨⟨r_2, σ_3⟩, hg_20, h⟩ := kbind_h h
  dsimp only at h
  refine kw_callV (As := [ki x1, ki 2]) C (kdec dc_M_truths 6 rfl) 11 rfl cv_M_376 rfl rfl (mt_mm_isWhat l0 hg_20) ⟨rfl, rfl⟩ ⟨Nat.le_of_ble_eq_true rfl, Nat.le_of_ble_eq_true rfl⟩ ⟨Nat.zero_le _, Nat.zero_le _⟩ rfl (Nat.le_of_ble_eq_true rfl) ?_
  change KW x 0 0 Q σ_3 11 [some (kr 0), some (ki x1), none, none, none] [ki r_2]
  refine kw_if_ne C (kdec dc_M_truths 7 rfl) 16 14 (by decide) rfl (fun hc11 => ?_) (fun hc11 => ?_)
  · rw [if_neg hc11] at h
    refine kw_iload_n C (kdec dc_M_truths 10 rfl) rfl 17 rfl rfl ?_
    refine kw_iconst C (kdec dc_M_truths 11 rfl) 18 rfl rfl ⟨by decide, by decide⟩ ?_
    refine kw_icmp_ne C (kdec dc_M_truths 12 rfl) 38 21 (by decide) rfl (fun hc18 => ?_) (fun hc18 => ?_)
    · rw [if_neg hc18] at h
      refine kw_iconst C (kdec dc_M_truths 22 rfl) 39 rfl rfl ⟨by decide, by decide⟩ ?_
      refine kw_istore_n (L' := [some (kr 0), some (ki x1), some (ki 0), none, none]) C (kdec dc_M_truths 23 rfl) rfl 40 rfl (by decide) rfl rfl ?_
      refine kw_iconst C (kdec dc_M_truths 24 rfl) 41 rfl rfl ⟨by decide, by decide⟩ ?_
      obtain ⟨x3_4, ex3_4, h⟩ := klet_h h
      refine kw_top ex3_4 ?_
      refine kw_istore_n (L' := [some (kr 0), some (ki x1), some (ki 0), some (ki x3_4), none]) C (kdec dc_M_truths 25 rfl) rfl 42 rfl (by decide) rfl rfl ?_
      refine kw_iconst C (kdec dc_M_truths 26 rfl) 43 rfl rfl ⟨by decide, by decide⟩ ?_
      refine kw_istore (L' := [some (kr 0), some (ki x1), some (ki 0), some (ki x3_4), some (ki 0)]) C (kdec dc_M_truths 27 rfl) 45 rfl (by decide) rfl rfl ?_
      obtain ⟨ex_10, hl_11, h⟩ := kbind_h h
      refine lp_mm_truths_l45 C x1 ?_ kFuel σ_3 0 x3_4 0 hl_11
      · intro σ_12 x2_13 x3_14 e
        subst ex_10
        try dsimp only at h
        refine kw_iload_n C (kdec dc_M_truths 47 rfl) rfl 87 rfl rfl ?_
        refine kw_if_ne C (kdec dc_M_truths 48 rfl) 94 90 (by decide) rfl (fun hc87 => ?_) (fun hc87 => ?_)
        · rw [if_neg hc87] at h
          refine kw_iload_n C (kdec dc_M_truths 51 rfl) rfl 95 rfl rfl ?_
          obtain rfl := Option.some.inj h
          exact kw_Q (hR _ _ rfl) (kw_ireturn C (kdec dc_M_truths 52 rfl))
        · rw [if_pos hc87] at h
          refine kw_iload_n C (kdec dc_M_truths 49 rfl) rfl 91 rfl rfl ?_
          refine kw_goto C (kdec dc_M_truths 50 rfl) 95 (by decide) ?_
          obtain rfl := Option.some.inj h
          exact kw_Q (hR _ _ rfl) (kw_ireturn C (kdec dc_M_truths 52 rfl))
    · rw [if_pos hc18] at h
      refine kw_aload_n C (kdec dc_M_truths 13 rfl) rfl 22 rfl rfl ?_
      obtain ⟨σ_15, hg_19, h⟩ := kbind_h h
      refine kw_callV (As := []) C (kdec dc_M_truths 14 rfl) 25 rfl cv_M_349 rfl rfl (mt_mm_tries l0 hg_19) ⟨rfl, rfl⟩ ⟨Nat.le_of_ble_eq_true rfl, Nat.le_of_ble_eq_true rfl⟩ ⟨Nat.zero_le _, Nat.zero_le _⟩ rfl (Nat.le_of_ble_eq_true rfl) ?_
      change KW x 0 0 Q σ_15 25 [some (kr 0), some (ki x1), none, none, none] []
      refine kw_aload_n C (kdec dc_M_truths 15 rfl) rfl 26 rfl rfl ?_
      obtain ⟨⟨r_16, σ_17⟩, hg_18, h⟩ := kbind_h h
      dsimp only at h
      refine kw_callV (As := []) C (kdec dc_M_truths 16 rfl) 29 rfl cv_M_428 rfl rfl (mt_mm_isFelt l0 hg_18) ⟨rfl, rfl⟩ ⟨Nat.le_of_ble_eq_true rfl, Nat.le_of_ble_eq_true rfl⟩ ⟨Nat.zero_le _, Nat.zero_le _⟩ rfl (Nat.le_of_ble_eq_true rfl) ?_
      change KW x 0 0 Q σ_17 29 [some (kr 0), some (ki x1), none, none, none] [ki r_16]
      refine kw_if_eq C (kdec dc_M_truths 17 rfl) 36 32 (by decide) rfl (fun hc29 => ?_) (fun hc29 => ?_)
      · rw [if_pos hc29] at h
        refine kw_iconst C (kdec dc_M_truths 20 rfl) 37 rfl rfl ⟨by decide, by decide⟩ ?_
        obtain rfl := Option.some.inj h
        exact kw_Q (hR _ _ rfl) (kw_ireturn C (kdec dc_M_truths 21 rfl))
      · rw [if_neg hc29] at h
        refine kw_iconst C (kdec dc_M_truths 18 rfl) 33 rfl rfl ⟨by decide, by decide⟩ ?_
        refine kw_goto C (kdec dc_M_truths 19 rfl) 37 (by decide) ?_
        obtain rfl := Option.some.inj h
        exact kw_Q (hR _ _ rfl) (kw_ireturn C (kdec dc_M_truths 21 rfl))
  · rw [if_pos hc11] at h
    refine kw_iconst C (kdec dc_M_truths 8 rfl) 15 rfl rfl ⟨by decide, by decide⟩ ?_
    obtain rfl := Option.some.inj h
    exact kw_Q (hR _ _ rfl) (kw_ireturn C (kdec dc_M_truths 9 rfl))
theorem mt_mm_truths (l0 : Launch) {σ : kM} {x1 : Int} {r : Int} {τ : kM} (h : mm_truths σ x1 = some (r, τ)) : kMet l0 ky_M_truths prog_14_method_106_code 5 (some .int) R0_mm_truths kcl yM σ [kr 0, ki x1] (some (ki r)) τ := kMet.of' [some (kr 0), some (ki x1), none, none, none] (by decide) (Nat.le_of_ble_eq_true rfl) ⟨rfl, rfl, trivial⟩ (fun x C => bd_mm_truths C σ x1 h (fun r τ e => by cases e; rfl))
def R0_mm_listen : Room := ({ frames := 8, cells := 0, slots := 0, locals := 190 } : Room)
def mm_listen_l45 (σ : kM) (x1 : Int) (x2 : Int) (x3 : Int) (x4 : Int) : Option ((kM × Int) ⊕ ((kM))) :=
  if (σ 0 2) ≤ x4 then
    some (Sum.inr σ)
  else
    kchk (0 ≤ x4 ∧ x4 < 8) <|
    kchk (0 ≤ (w32 ((w32 (8 * x2)) + x4)) ∧ (w32 ((w32 (8 * x2)) + x4)) < 2304) <|
    klet (kst σ 21 (kup (σ 21) ((w32 ((w32 (8 * x2)) + x4)).toNat) (σ 20 x4.toNat))) fun σ_8 =>
    klet (w32 (x4 + 1)) fun x4_9 =>
    some (Sum.inl (σ_8, x4_9))
set_option maxHeartbeats 4000000 in
theorem bd_mm_listen_l45 {x : kX} {l0 : Launch} {Q : State → Prop} (C : kCx x prog_14_method_107_code "PoetFinesModel" (some .int) kcl yM 10 l0 R0_mm_listen) (σ : kM) (x1 : Int) (x2 : Int) (x3 : Int) (x4 : Int) {out : (kM × Int) ⊕ ((kM))} (h : mm_listen_l45 σ x1 x2 x3 x4 = some out) (hC : ∀ (σ' : kM) (x4' : Int), out = Sum.inl (σ', x4') → KW x 0 0 Q σ' 45 [some (kr 0), some (ki x1), some (ki x2), some (ki x3), some (ki x4'), none, none, none, none, none] []) (hX79 : ∀ (σ' : kM), out = Sum.inr σ' → KW x 0 0 Q σ' 79 [some (kr 0), some (ki x1), some (ki x2), some (ki x3), none, none, none, none, none, none] []) : KW x 0 0 Q σ 45 [some (kr 0), some (ki x1), some (ki x2), some (ki x3), some (ki x4), none, none, none, none, none] [] := by
  unfold mm_listen_l45 at h
  refine kw_iload C (kdec dc_M_listen 27 rfl) 47 rfl rfl ?_
  refine kw_aload_n C (kdec dc_M_listen 28 rfl) rfl 48 rfl rfl ?_
  refine kw_getI C (kdec dc_M_listen 29 rfl) 51 rfl fd_M_M_270_0 ?_
  refine kw_icmp_ge C (kdec dc_M_listen 30 rfl) 79 54 (by decide) rfl (fun hc51 => ?_) (fun hc51 => ?_)
  · rw [if_pos hc51] at h
    obtain rfl := Option.some.inj h
    exact kw_sub (L' := [some (kr 0), some (ki x1), some (ki x2), some (ki x3), none, none, none, none, none, none]) ⟨rfl, rfl, rfl, rfl, trivial⟩ (hX79 _ rfl)
  · rw [if_neg hc51] at h
    refine kw_aload_n C (kdec dc_M_listen 31 rfl) rfl 55 rfl rfl ?_
    refine kw_getR C (kdec dc_M_listen 32 rfl) 58 rfl fd_M_M_87_0 ?_
    refine kw_bipush (v := 8) C (kdec dc_M_listen 33 rfl) 60 rfl (by decide) ⟨by decide, by decide⟩ ?_
    refine kw_iload_n C (kdec dc_M_listen 34 rfl) rfl 61 rfl rfl ?_
    refine kw_imul C (kdec dc_M_listen 35 rfl) 62 rfl ?_
    refine kw_iload C (kdec dc_M_listen 36 rfl) 64 rfl rfl ?_
    refine kw_iadd C (kdec dc_M_listen 37 rfl) 65 rfl ?_
    refine kw_aload_n C (kdec dc_M_listen 38 rfl) rfl 66 rfl rfl ?_
    refine kw_getR C (kdec dc_M_listen 39 rfl) 69 rfl fd_M_M_84_0 ?_
    refine kw_iload C (kdec dc_M_listen 40 rfl) 71 rfl rfl ?_
    obtain ⟨hc_6, h⟩ := kchk_h h
    refine kw_iald C (kdec dc_M_listen 41 rfl) 72 rfl rfl hc_6.1 hc_6.2 ?_
    obtain ⟨hc_7, h⟩ := kchk_h h
    obtain ⟨σ_8, eσ_8, h⟩ := klet_h h
    refine kw_iast C (kdec dc_M_listen 42 rfl) 73 rfl rfl hc_7.1 hc_7.2 ?_
    refine kw_sig eσ_8 ?_
    obtain ⟨x4_9, ex4_9, h⟩ := klet_h h
    refine kw_iinc (L' := [some (kr 0), some (ki x1), some (ki x2), some (ki x3), some (ki x4_9), none, none, none, none, none]) C (kdec dc_M_listen 43 rfl) 76 rfl rfl (by decide) rfl (by rw [ex4_9]; rfl) ?_
    refine kw_goto C (kdec dc_M_listen 44 rfl) 45 (by decide) ?_
    obtain rfl := Option.some.inj h
    exact (hC _ _ rfl)
theorem lp_mm_listen_l45 {x : kX} {l0 : Launch} {Q : State → Prop} (C : kCx x prog_14_method_107_code "PoetFinesModel" (some .int) kcl yM 10 l0 R0_mm_listen) (x1 : Int) (x2 : Int) (x3 : Int) {ex : (kM)} (hX79 : ∀ (σ' : kM), ex = σ' → KW x 0 0 Q σ' 79 [some (kr 0), some (ki x1), some (ki x2), some (ki x3), none, none, none, none, none, none] []) (n : Nat) (σ : kM) (x4 : Int) (h : kloop (fun st => mm_listen_l45 st.1 x1 x2 x3 st.2) n (σ, x4) = some ex) : KW x 0 0 Q σ 45 [some (kr 0), some (ki x1), some (ki x2), some (ki x3), some (ki x4), none, none, none, none, none] [] :=
  kloop_ind (P := (fun st : kM × Int => KW x 0 0 Q st.1 45 [some (kr 0), some (ki x1), some (ki x2), some (ki x3), some (ki (st.2)), none, none, none, none, none] [])) (fun st out hb hc hx => bd_mm_listen_l45 C st.1 x1 x2 x3 st.2 hb (fun a0 a1 e => hc _ e) (fun a0 e => hX79 _ ((hx _ e).symm))) n (σ, x4) h
def mm_listen_l20_j82 (σ : kM) (x1 : Int) (x2 : Int) (x3 : Int) : Option ((kM × Int × Int) ⊕ ((kM × Int))) :=
  klet (w32 (x3 + 1)) fun x3_14 =>
  some (Sum.inl (σ, x2, x3_14))
set_option maxHeartbeats 4000000 in
theorem bd_mm_listen_l20_j82 {x : kX} {l0 : Launch} {Q : State → Prop} (C : kCx x prog_14_method_107_code "PoetFinesModel" (some .int) kcl yM 10 l0 R0_mm_listen) (σ : kM) (x1 : Int) (x2 : Int) (x3 : Int) {out : (kM × Int × Int) ⊕ ((kM × Int))} (h : mm_listen_l20_j82 σ x1 x2 x3 = some out) (hC : ∀ (σ' : kM) (x2' : Int) (x3' : Int), out = Sum.inl (σ', x2', x3') → KW x 0 0 Q σ' 20 [some (kr 0), some (ki x1), some (ki x2'), some (ki x3'), none, none, none, none, none, none] []) (hX88 : ∀ (σ' : kM) (x2' : Int), out = Sum.inr (σ', x2') → KW x 0 0 Q σ' 88 [some (kr 0), some (ki x1), some (ki x2'), none, none, none, none, none, none, none] []) : KW x 0 0 Q σ 82 [some (kr 0), some (ki x1), some (ki x2), some (ki x3), none, none, none, none, none, none] [] := by
  unfold mm_listen_l20_j82 at h
  obtain ⟨x3_14, ex3_14, h⟩ := klet_h h
  refine kw_iinc (L' := [some (kr 0), some (ki x1), some (ki x2), some (ki x3_14), none, none, none, none, none, none]) C (kdec dc_M_listen 46 rfl) 85 rfl rfl (by decide) rfl (by rw [ex3_14]; rfl) ?_
  refine kw_goto C (kdec dc_M_listen 47 rfl) 20 (by decide) ?_
  obtain rfl := Option.some.inj h
  exact (hC _ _ _ rfl)
def mm_listen_l20 (σ : kM) (x1 : Int) (x2 : Int) (x3 : Int) : Option ((kM × Int × Int) ⊕ ((kM × Int))) :=
  if (w32 (100 * (σ 0 2))) ≤ x3 then
    some (Sum.inr (σ, x2))
  else
    (mm_isGuess σ x3).bind fun (r_4, σ_5) =>
    if r_4 = 0 then
      mm_listen_l20_j82 σ_5 x1 x2 x3
    else
      (kloop (fun st => mm_listen_l45 st.1 x1 x2 x3 st.2) kFuel (σ_5, 0)).bind fun σ_12 =>
      klet (w32 (x2 + 1)) fun x2_13 =>
      mm_listen_l20_j82 σ_12 x1 x2_13 x3
set_option maxHeartbeats 4000000 in
theorem bd_mm_listen_l20 {x : kX} {l0 : Launch} {Q : State → Prop} (C : kCx x prog_14_method_107_code "PoetFinesModel" (some .int) kcl yM 10 l0 R0_mm_listen) (σ : kM) (x1 : Int) (x2 : Int) (x3 : Int) {out : (kM × Int × Int) ⊕ ((kM × Int))} (h : mm_listen_l20 σ x1 x2 x3 = some out) (hC : ∀ (σ' : kM) (x2' : Int) (x3' : Int), out = Sum.inl (σ', x2', x3') → KW x 0 0 Q σ' 20 [some (kr 0), some (ki x1), some (ki x2'), some (ki x3'), none, none, none, none, none, none] []) (hX88 : ∀ (σ' : kM) (x2' : Int), out = Sum.inr (σ', x2') → KW x 0 0 Q σ' 88 [some (kr 0), some (ki x1), some (ki x2'), none, none, none, none, none, none, none] []) : KW x 0 0 Q σ 20 [some (kr 0), some (ki x1), some (ki x2), some (ki x3), none, none, none, none, none, none] [] := by
  unfold mm_listen_l20 at h
  refine kw_iload_n C (kdec dc_M_listen 14 rfl) rfl 21 rfl rfl ?_
  refine kw_bipush (v := 100) C (kdec dc_M_listen 15 rfl) 23 rfl (by decide) ⟨by decide, by decide⟩ ?_
  refine kw_aload_n C (kdec dc_M_listen 16 rfl) rfl 24 rfl rfl ?_
  refine kw_getI C (kdec dc_M_listen 17 rfl) 27 rfl fd_M_M_270_0 ?_
  refine kw_imul C (kdec dc_M_listen 18 rfl) 28 rfl ?_
  refine kw_icmp_ge C (kdec dc_M_listen 19 rfl) 88 31 (by decide) rfl (fun hc28 => ?_) (fun hc28 => ?_)
  · rw [if_pos hc28] at h
    obtain rfl := Option.some.inj h
    exact kw_sub (L' := [some (kr 0), some (ki x1), some (ki x2), none, none, none, none, none, none, none]) ⟨rfl, rfl, rfl, trivial⟩ (hX88 _ _ rfl)
  · rw [if_neg hc28] at h
    refine kw_aload_n C (kdec dc_M_listen 20 rfl) rfl 32 rfl rfl ?_
    refine kw_iload_n C (kdec dc_M_listen 21 rfl) rfl 33 rfl rfl ?_
    obtain ⟨⟨r_4, σ_5⟩, hg_15, h⟩ := kbind_h h
    dsimp only at h
    refine kw_callV (As := [ki x3]) C (kdec dc_M_listen 22 rfl) 36 rfl cv_M_431 rfl rfl (mt_mm_isGuess l0 hg_15) ⟨rfl, rfl⟩ ⟨Nat.le_of_ble_eq_true rfl, Nat.le_of_ble_eq_true rfl⟩ ⟨Nat.zero_le _, Nat.zero_le _⟩ rfl (Nat.le_of_ble_eq_true rfl) ?_
    change KW x 0 0 Q σ_5 36 [some (kr 0), some (ki x1), some (ki x2), some (ki x3), none, none, none, none, none, none] [ki r_4]
    refine kw_if_ne C (kdec dc_M_listen 23 rfl) 42 39 (by decide) rfl (fun hc36 => ?_) (fun hc36 => ?_)
    · rw [if_neg hc36] at h
      refine kw_iconst C (kdec dc_M_listen 25 rfl) 43 rfl rfl ⟨by decide, by decide⟩ ?_
      refine kw_istore (L' := [some (kr 0), some (ki x1), some (ki x2), some (ki x3), some (ki 0), none, none, none, none, none]) C (kdec dc_M_listen 26 rfl) 45 rfl (by decide) rfl rfl ?_
      obtain ⟨ex_10, hl_11, h⟩ := kbind_h h
      refine lp_mm_listen_l45 C x1 x2 x3 ?_ kFuel σ_5 0 hl_11
      · intro σ_12 e
        subst ex_10
        try dsimp only at h
        obtain ⟨x2_13, ex2_13, h⟩ := klet_h h
        refine kw_iinc (L' := [some (kr 0), some (ki x1), some (ki x2_13), some (ki x3), none, none, none, none, none, none]) C (kdec dc_M_listen 45 rfl) 82 rfl rfl (by decide) rfl (by rw [ex2_13]; rfl) ?_
        exact bd_mm_listen_l20_j82 C σ_12 x1 x2_13 x3 h hC hX88
    · rw [if_pos hc36] at h
      refine kw_goto C (kdec dc_M_listen 24 rfl) 82 (by decide) ?_
      exact bd_mm_listen_l20_j82 C σ_5 x1 x2 x3 h hC hX88
theorem lp_mm_listen_l20 {x : kX} {l0 : Launch} {Q : State → Prop} (C : kCx x prog_14_method_107_code "PoetFinesModel" (some .int) kcl yM 10 l0 R0_mm_listen) (x1 : Int) {ex : (kM × Int)} (hX88 : ∀ (σ' : kM) (x2' : Int), ex = (σ', x2') → KW x 0 0 Q σ' 88 [some (kr 0), some (ki x1), some (ki x2'), none, none, none, none, none, none, none] []) (n : Nat) (σ : kM) (x2 : Int) (x3 : Int) (h : kloop (fun st => mm_listen_l20 st.1 x1 st.2.1 st.2.2) n (σ, x2, x3) = some ex) : KW x 0 0 Q σ 20 [some (kr 0), some (ki x1), some (ki x2), some (ki x3), none, none, none, none, none, none] [] :=
  kloop_ind (P := (fun st : kM × Int × Int => KW x 0 0 Q st.1 20 [some (kr 0), some (ki x1), some (ki (st.2.1)), some (ki (st.2.2)), none, none, none, none, none, none] [])) (fun st out hb hc hx => bd_mm_listen_l20 C st.1 x1 st.2.1 st.2.2 hb (fun a0 a1 a2 e => hc _ e) (fun a0 a1 e => hX88 _ _ ((hx _ e).symm))) n (σ, x2, x3) h
def mm_listen_l123_j169 (σ : kM) (x1 : Int) (x2 : Int) (x3 : Int) (x4 : Int) (x5 : Int) (x6 : Int) (x7 : Int) (x9 : Int) (s0 : Int) : Option ((Int × Int) ⊕ ((Int))) :=
  klet (w32 (x9 + 1)) fun x9_23 =>
  some (Sum.inl (s0, x9_23))
set_option maxHeartbeats 4000000 in
theorem bd_mm_listen_l123_j169 {x : kX} {l0 : Launch} {Q : State → Prop} (C : kCx x prog_14_method_107_code "PoetFinesModel" (some .int) kcl yM 10 l0 R0_mm_listen) (σ : kM) (x1 : Int) (x2 : Int) (x3 : Int) (x4 : Int) (x5 : Int) (x6 : Int) (x7 : Int) (x9 : Int) (s0 : Int) {out : (Int × Int) ⊕ ((Int))} (h : mm_listen_l123_j169 σ x1 x2 x3 x4 x5 x6 x7 x9 s0 = some out) (hC : ∀ (x8' : Int) (x9' : Int), out = Sum.inl (x8', x9') → KW x 0 0 Q σ 123 [some (kr 0), some (ki x1), some (ki x2), some (ki x3), some (ki x4), some (ki x5), some (ki x6), some (ki x7), some (ki x8'), some (ki x9')] []) (hX177 : ∀ (x8' : Int), out = Sum.inr x8' → KW x 0 0 Q σ 177 [some (kr 0), some (ki x1), some (ki x2), some (ki x3), some (ki x4), some (ki x5), some (ki x6), some (ki x7), some (ki x8'), none] []) : KW x 0 0 Q σ 169 [some (kr 0), some (ki x1), some (ki x2), some (ki x3), some (ki x4), some (ki x5), some (ki x6), some (ki x7), none, some (ki x9)] [ki s0] := by
  unfold mm_listen_l123_j169 at h
  refine kw_istore (L' := [some (kr 0), some (ki x1), some (ki x2), some (ki x3), some (ki x4), some (ki x5), some (ki x6), some (ki x7), some (ki s0), some (ki x9)]) C (kdec dc_M_listen 94 rfl) 171 rfl (by decide) rfl rfl ?_
  obtain ⟨x9_23, ex9_23, h⟩ := klet_h h
  refine kw_iinc (L' := [some (kr 0), some (ki x1), some (ki x2), some (ki x3), some (ki x4), some (ki x5), some (ki x6), some (ki x7), some (ki s0), some (ki x9_23)]) C (kdec dc_M_listen 95 rfl) 174 rfl rfl (by decide) rfl (by rw [ex9_23]; rfl) ?_
  refine kw_goto C (kdec dc_M_listen 96 rfl) 123 (by decide) ?_
  obtain rfl := Option.some.inj h
  exact (hC _ _ rfl)
def mm_listen_l123 (σ : kM) (x1 : Int) (x2 : Int) (x3 : Int) (x4 : Int) (x5 : Int) (x6 : Int) (x7 : Int) (x8 : Int) (x9 : Int) : Option ((Int × Int) ⊕ ((Int))) :=
  if x7 ≤ x9 then
    some (Sum.inr x8)
  else
    if x8 = 0 then
      some (Sum.inr x8)
    else
      kchk (0 ≤ (w32 ((w32 (8 * x7)) + x5)) ∧ (w32 ((w32 (8 * x7)) + x5)) < 2304) <|
      kchk (0 ≤ (w32 ((w32 (8 * x9)) + x5)) ∧ (w32 ((w32 (8 * x9)) + x5)) < 2304) <|
      if (σ 21 (w32 ((w32 (8 * x7)) + x5)).toNat) = (σ 21 (w32 ((w32 (8 * x9)) + x5)).toNat) then
        mm_listen_l123_j169 σ x1 x2 x3 x4 x5 x6 x7 x9 0
      else
        mm_listen_l123_j169 σ x1 x2 x3 x4 x5 x6 x7 x9 1
set_option maxHeartbeats 4000000 in
theorem bd_mm_listen_l123 {x : kX} {l0 : Launch} {Q : State → Prop} (C : kCx x prog_14_method_107_code "PoetFinesModel" (some .int) kcl yM 10 l0 R0_mm_listen) (σ : kM) (x1 : Int) (x2 : Int) (x3 : Int) (x4 : Int) (x5 : Int) (x6 : Int) (x7 : Int) (x8 : Int) (x9 : Int) {out : (Int × Int) ⊕ ((Int))} (h : mm_listen_l123 σ x1 x2 x3 x4 x5 x6 x7 x8 x9 = some out) (hC : ∀ (x8' : Int) (x9' : Int), out = Sum.inl (x8', x9') → KW x 0 0 Q σ 123 [some (kr 0), some (ki x1), some (ki x2), some (ki x3), some (ki x4), some (ki x5), some (ki x6), some (ki x7), some (ki x8'), some (ki x9')] []) (hX177 : ∀ (x8' : Int), out = Sum.inr x8' → KW x 0 0 Q σ 177 [some (kr 0), some (ki x1), some (ki x2), some (ki x3), some (ki x4), some (ki x5), some (ki x6), some (ki x7), some (ki x8'), none] []) : KW x 0 0 Q σ 123 [some (kr 0), some (ki x1), some (ki x2), some (ki x3), some (ki x4), some (ki x5), some (ki x6), some (ki x7), some (ki x8), some (ki x9)] [] := by
  unfold mm_listen_l123 at h
  refine kw_iload C (kdec dc_M_listen 69 rfl) 125 rfl rfl ?_
  refine kw_iload C (kdec dc_M_listen 70 rfl) 127 rfl rfl ?_
  refine kw_icmp_ge C (kdec dc_M_listen 71 rfl) 177 130 (by decide) rfl (fun hc127 => ?_) (fun hc127 => ?_)
  · rw [if_pos hc127] at h
    obtain rfl := Option.some.inj h
    exact kw_sub (L' := [some (kr 0), some (ki x1), some (ki x2), some (ki x3), some (ki x4), some (ki x5), some (ki x6), some (ki x7), some (ki x8), none]) ⟨rfl, rfl, rfl, rfl, rfl, rfl, rfl, rfl, rfl, trivial⟩ (hX177 _ rfl)
  · rw [if_neg hc127] at h
    refine kw_iload C (kdec dc_M_listen 72 rfl) 132 rfl rfl ?_
    refine kw_if_eq C (kdec dc_M_listen 73 rfl) 177 135 (by decide) rfl (fun hc132 => ?_) (fun hc132 => ?_)
    · rw [if_pos hc132] at h
      obtain rfl := Option.some.inj h
      exact kw_sub (L' := [some (kr 0), some (ki x1), some (ki x2), some (ki x3), some (ki x4), some (ki x5), some (ki x6), some (ki x7), some (ki x8), none]) ⟨rfl, rfl, rfl, rfl, rfl, rfl, rfl, rfl, rfl, trivial⟩ (hX177 _ rfl)
    · rw [if_neg hc132] at h
      refine kw_aload_n C (kdec dc_M_listen 74 rfl) rfl 136 rfl rfl ?_
      refine kw_getR C (kdec dc_M_listen 75 rfl) 139 rfl fd_M_M_87_0 ?_
      refine kw_bipush (v := 8) C (kdec dc_M_listen 76 rfl) 141 rfl (by decide) ⟨by decide, by decide⟩ ?_
      refine kw_iload C (kdec dc_M_listen 77 rfl) 143 rfl rfl ?_
      refine kw_imul C (kdec dc_M_listen 78 rfl) 144 rfl ?_
      refine kw_iload C (kdec dc_M_listen 79 rfl) 146 rfl rfl ?_
      refine kw_iadd C (kdec dc_M_listen 80 rfl) 147 rfl ?_
      obtain ⟨hc_21, h⟩ := kchk_h h
      refine kw_iald C (kdec dc_M_listen 81 rfl) 148 rfl rfl hc_21.1 hc_21.2 ?_
      refine kw_aload_n C (kdec dc_M_listen 82 rfl) rfl 149 rfl rfl ?_
      refine kw_getR C (kdec dc_M_listen 83 rfl) 152 rfl fd_M_M_87_0 ?_
      refine kw_bipush (v := 8) C (kdec dc_M_listen 84 rfl) 154 rfl (by decide) ⟨by decide, by decide⟩ ?_
      refine kw_iload C (kdec dc_M_listen 85 rfl) 156 rfl rfl ?_
      refine kw_imul C (kdec dc_M_listen 86 rfl) 157 rfl ?_
      refine kw_iload C (kdec dc_M_listen 87 rfl) 159 rfl rfl ?_
      refine kw_iadd C (kdec dc_M_listen 88 rfl) 160 rfl ?_
      obtain ⟨hc_22, h⟩ := kchk_h h
      refine kw_iald C (kdec dc_M_listen 89 rfl) 161 rfl rfl hc_22.1 hc_22.2 ?_
      refine kw_icmp_eq C (kdec dc_M_listen 90 rfl) 168 164 (by decide) rfl (fun hc161 => ?_) (fun hc161 => ?_)
      · rw [if_pos hc161] at h
        refine kw_iconst C (kdec dc_M_listen 93 rfl) 169 rfl rfl ⟨by decide, by decide⟩ ?_
        exact kw_sub (L' := [some (kr 0), some (ki x1), some (ki x2), some (ki x3), some (ki x4), some (ki x5), some (ki x6), some (ki x7), none, some (ki x9)]) ⟨rfl, rfl, rfl, rfl, rfl, rfl, rfl, rfl, rfl, trivial⟩ (bd_mm_listen_l123_j169 C σ x1 x2 x3 x4 x5 x6 x7 x9 0 h hC hX177)
      · rw [if_neg hc161] at h
        refine kw_iconst C (kdec dc_M_listen 91 rfl) 165 rfl rfl ⟨by decide, by decide⟩ ?_
        refine kw_goto C (kdec dc_M_listen 92 rfl) 169 (by decide) ?_
        exact kw_sub (L' := [some (kr 0), some (ki x1), some (ki x2), some (ki x3), some (ki x4), some (ki x5), some (ki x6), some (ki x7), none, some (ki x9)]) ⟨rfl, rfl, rfl, rfl, rfl, rfl, rfl, rfl, rfl, trivial⟩ (bd_mm_listen_l123_j169 C σ x1 x2 x3 x4 x5 x6 x7 x9 1 h hC hX177)
theorem lp_mm_listen_l123 {x : kX} {l0 : Launch} {Q : State → Prop} (C : kCx x prog_14_method_107_code "PoetFinesModel" (some .int) kcl yM 10 l0 R0_mm_listen) (σ : kM) (x1 : Int) (x2 : Int) (x3 : Int) (x4 : Int) (x5 : Int) (x6 : Int) (x7 : Int) {ex : (Int)} (hX177 : ∀ (x8' : Int), ex = x8' → KW x 0 0 Q σ 177 [some (kr 0), some (ki x1), some (ki x2), some (ki x3), some (ki x4), some (ki x5), some (ki x6), some (ki x7), some (ki x8'), none] []) (n : Nat) (x8 : Int) (x9 : Int) (h : kloop (fun st => mm_listen_l123 σ x1 x2 x3 x4 x5 x6 x7 st.1 st.2) n (x8, x9) = some ex) : KW x 0 0 Q σ 123 [some (kr 0), some (ki x1), some (ki x2), some (ki x3), some (ki x4), some (ki x5), some (ki x6), some (ki x7), some (ki x8), some (ki x9)] [] :=
  kloop_ind (P := (fun st : Int × Int => KW x 0 0 Q σ 123 [some (kr 0), some (ki x1), some (ki x2), some (ki x3), some (ki x4), some (ki x5), some (ki x6), some (ki x7), some (ki (st.1)), some (ki (st.2))] [])) (fun st out hb hc hx => bd_mm_listen_l123 C σ x1 x2 x3 x4 x5 x6 x7 st.1 st.2 hb (fun a0 a1 e => hc _ e) (fun a0 e => hX177 _ ((hx _ e).symm))) n (x8, x9) h
def mm_listen_l111_j189 (σ : kM) (x1 : Int) (x2 : Int) (x3 : Int) (x4 : Int) (x5 : Int) (x7 : Int) (s0 : Int) (s1 : Int) : Option ((Int × Int) ⊕ ((Int))) :=
  klet (w32 (s1 + s0)) fun x6_27 =>
  klet (w32 (x7 + 1)) fun x7_28 =>
  some (Sum.inl (x6_27, x7_28))
set_option maxHeartbeats 4000000 in
theorem bd_mm_listen_l111_j189 {x : kX} {l0 : Launch} {Q : State → Prop} (C : kCx x prog_14_method_107_code "PoetFinesModel" (some .int) kcl yM 10 l0 R0_mm_listen) (σ : kM) (x1 : Int) (x2 : Int) (x3 : Int) (x4 : Int) (x5 : Int) (x7 : Int) (s0 : Int) (s1 : Int) {out : (Int × Int) ⊕ ((Int))} (h : mm_listen_l111_j189 σ x1 x2 x3 x4 x5 x7 s0 s1 = some out) (hC : ∀ (x6' : Int) (x7' : Int), out = Sum.inl (x6', x7') → KW x 0 0 Q σ 111 [some (kr 0), some (ki x1), some (ki x2), some (ki x3), some (ki x4), some (ki x5), some (ki x6'), some (ki x7'), none, none] []) (hX198 : ∀ (x6' : Int), out = Sum.inr x6' → KW x 0 0 Q σ 198 [some (kr 0), some (ki x1), some (ki x2), some (ki x3), some (ki x4), some (ki x5), some (ki x6'), none, none, none] []) : KW x 0 0 Q σ 189 [some (kr 0), some (ki x1), some (ki x2), some (ki x3), some (ki x4), some (ki x5), none, some (ki x7), none, none] [ki s0, ki s1] := by
  unfold mm_listen_l111_j189 at h
  refine kw_iadd C (kdec dc_M_listen 103 rfl) 190 rfl ?_
  obtain ⟨x6_27, ex6_27, h⟩ := klet_h h
  refine kw_top ex6_27 ?_
  refine kw_istore (L' := [some (kr 0), some (ki x1), some (ki x2), some (ki x3), some (ki x4), some (ki x5), some (ki x6_27), some (ki x7), none, none]) C (kdec dc_M_listen 104 rfl) 192 rfl (by decide) rfl rfl ?_
  obtain ⟨x7_28, ex7_28, h⟩ := klet_h h
  refine kw_iinc (L' := [some (kr 0), some (ki x1), some (ki x2), some (ki x3), some (ki x4), some (ki x5), some (ki x6_27), some (ki x7_28), none, none]) C (kdec dc_M_listen 105 rfl) 195 rfl rfl (by decide) rfl (by rw [ex7_28]; rfl) ?_
  refine kw_goto C (kdec dc_M_listen 106 rfl) 111 (by decide) ?_
  obtain rfl := Option.some.inj h
  exact (hC _ _ rfl)
def mm_listen_l111 (σ : kM) (x1 : Int) (x2 : Int) (x3 : Int) (x4 : Int) (x5 : Int) (x6 : Int) (x7 : Int) : Option ((Int × Int) ⊕ ((Int))) :=
  if x2 ≤ x7 then
    some (Sum.inr x6)
  else
    (kloop (fun st => mm_listen_l123 σ x1 x2 x3 x4 x5 x6 x7 st.1 st.2) kFuel (1, 0)).bind fun x8_26 =>
    if x8_26 = 0 then
      mm_listen_l111_j189 σ x1 x2 x3 x4 x5 x7 0 x6
    else
      mm_listen_l111_j189 σ x1 x2 x3 x4 x5 x7 1 x6
set_option maxHeartbeats 4000000 in
theorem bd_mm_listen_l111 {x : kX} {l0 : Launch} {Q : State → Prop} (C : kCx x prog_14_method_107_code "PoetFinesModel" (some .int) kcl yM 10 l0 R0_mm_listen) (σ : kM) (x1 : Int) (x2 : Int) (x3 : Int) (x4 : Int) (x5 : Int) (x6 : Int) (x7 : Int) {out : (Int × Int) ⊕ ((Int))} (h : mm_listen_l111 σ x1 x2 x3 x4 x5 x6 x7 = some out) (hC : ∀ (x6' : Int) (x7' : Int), out = Sum.inl (x6', x7') → KW x 0 0 Q σ 111 [some (kr 0), some (ki x1), some (ki x2), some (ki x3), some (ki x4), some (ki x5), some (ki x6'), some (ki x7'), none, none] []) (hX198 : ∀ (x6' : Int), out = Sum.inr x6' → KW x 0 0 Q σ 198 [some (kr 0), some (ki x1), some (ki x2), some (ki x3), some (ki x4), some (ki x5), some (ki x6'), none, none, none] []) : KW x 0 0 Q σ 111 [some (kr 0), some (ki x1), some (ki x2), some (ki x3), some (ki x4), some (ki x5), some (ki x6), some (ki x7), none, none] [] := by
  unfold mm_listen_l111 at h
  refine kw_iload C (kdec dc_M_listen 62 rfl) 113 rfl rfl ?_
  refine kw_iload_n C (kdec dc_M_listen 63 rfl) rfl 114 rfl rfl ?_
  refine kw_icmp_ge C (kdec dc_M_listen 64 rfl) 198 117 (by decide) rfl (fun hc114 => ?_) (fun hc114 => ?_)
  · rw [if_pos hc114] at h
    obtain rfl := Option.some.inj h
    exact kw_sub (L' := [some (kr 0), some (ki x1), some (ki x2), some (ki x3), some (ki x4), some (ki x5), some (ki x6), none, none, none]) ⟨rfl, rfl, rfl, rfl, rfl, rfl, rfl, trivial⟩ (hX198 _ rfl)
  · rw [if_neg hc114] at h
    refine kw_iconst C (kdec dc_M_listen 65 rfl) 118 rfl rfl ⟨by decide, by decide⟩ ?_
    refine kw_istore (L' := [some (kr 0), some (ki x1), some (ki x2), some (ki x3), some (ki x4), some (ki x5), some (ki x6), some (ki x7), some (ki 1), none]) C (kdec dc_M_listen 66 rfl) 120 rfl (by decide) rfl rfl ?_
    refine kw_iconst C (kdec dc_M_listen 67 rfl) 121 rfl rfl ⟨by decide, by decide⟩ ?_
    refine kw_istore (L' := [some (kr 0), some (ki x1), some (ki x2), some (ki x3), some (ki x4), some (ki x5), some (ki x6), some (ki x7), some (ki 1), some (ki 0)]) C (kdec dc_M_listen 68 rfl) 123 rfl (by decide) rfl rfl ?_
    obtain ⟨ex_24, hl_25, h⟩ := kbind_h h
    refine lp_mm_listen_l123 C σ x1 x2 x3 x4 x5 x6 x7 ?_ kFuel 1 0 hl_25
    · intro x8_26 e
      subst ex_24
      try dsimp only at h
      refine kw_iload C (kdec dc_M_listen 97 rfl) 179 rfl rfl ?_
      refine kw_iload C (kdec dc_M_listen 98 rfl) 181 rfl rfl ?_
      refine kw_if_eq C (kdec dc_M_listen 99 rfl) 188 184 (by decide) rfl (fun hc181 => ?_) (fun hc181 => ?_)
      · rw [if_pos hc181] at h
        refine kw_iconst C (kdec dc_M_listen 102 rfl) 189 rfl rfl ⟨by decide, by decide⟩ ?_
        exact kw_sub (L' := [some (kr 0), some (ki x1), some (ki x2), some (ki x3), some (ki x4), some (ki x5), none, some (ki x7), none, none]) ⟨rfl, rfl, rfl, rfl, rfl, rfl, rfl, trivial⟩ (bd_mm_listen_l111_j189 C σ x1 x2 x3 x4 x5 x7 0 x6 h hC hX198)
      · rw [if_neg hc181] at h
        refine kw_iconst C (kdec dc_M_listen 100 rfl) 185 rfl rfl ⟨by decide, by decide⟩ ?_
        refine kw_goto C (kdec dc_M_listen 101 rfl) 189 (by decide) ?_
        exact kw_sub (L' := [some (kr 0), some (ki x1), some (ki x2), some (ki x3), some (ki x4), some (ki x5), none, some (ki x7), none, none]) ⟨rfl, rfl, rfl, rfl, rfl, rfl, rfl, trivial⟩ (bd_mm_listen_l111_j189 C σ x1 x2 x3 x4 x5 x7 1 x6 h hC hX198)
theorem lp_mm_listen_l111 {x : kX} {l0 : Launch} {Q : State → Prop} (C : kCx x prog_14_method_107_code "PoetFinesModel" (some .int) kcl yM 10 l0 R0_mm_listen) (σ : kM) (x1 : Int) (x2 : Int) (x3 : Int) (x4 : Int) (x5 : Int) {ex : (Int)} (hX198 : ∀ (x6' : Int), ex = x6' → KW x 0 0 Q σ 198 [some (kr 0), some (ki x1), some (ki x2), some (ki x3), some (ki x4), some (ki x5), some (ki x6'), none, none, none] []) (n : Nat) (x6 : Int) (x7 : Int) (h : kloop (fun st => mm_listen_l111 σ x1 x2 x3 x4 x5 st.1 st.2) n (x6, x7) = some ex) : KW x 0 0 Q σ 111 [some (kr 0), some (ki x1), some (ki x2), some (ki x3), some (ki x4), some (ki x5), some (ki x6), some (ki x7), none, none] [] :=
  kloop_ind (P := (fun st : Int × Int => KW x 0 0 Q σ 111 [some (kr 0), some (ki x1), some (ki x2), some (ki x3), some (ki x4), some (ki x5), some (ki (st.1)), some (ki (st.2)), none, none] [])) (fun st out hb hc hx => bd_mm_listen_l111 C σ x1 x2 x3 x4 x5 st.1 st.2 hb (fun a0 a1 e => hc _ e) (fun a0 e => hX198 _ ((hx _ e).symm))) n (x6, x7) h
def mm_listen_l96_j215 (σ : kM) (x1 : Int) (x2 : Int) (x3 : Int) (x4 : Int) (x5 : Int) : Option ((Int × Int × Int) ⊕ ((Int × Int))) :=
  klet (w32 (x5 + 1)) fun x5_32 =>
  some (Sum.inl (x3, x4, x5_32))
set_option maxHeartbeats 4000000 in
theorem bd_mm_listen_l96_j215 {x : kX} {l0 : Launch} {Q : State → Prop} (C : kCx x prog_14_method_107_code "PoetFinesModel" (some .int) kcl yM 10 l0 R0_mm_listen) (σ : kM) (x1 : Int) (x2 : Int) (x3 : Int) (x4 : Int) (x5 : Int) {out : (Int × Int × Int) ⊕ ((Int × Int))} (h : mm_listen_l96_j215 σ x1 x2 x3 x4 x5 = some out) (hC : ∀ (x3' : Int) (x4' : Int) (x5' : Int), out = Sum.inl (x3', x4', x5') → KW x 0 0 Q σ 96 [some (kr 0), some (ki x1), some (ki x2), some (ki x3'), some (ki x4'), some (ki x5'), none, none, none, none] []) (hX221 : ∀ (x3' : Int) (x4' : Int), out = Sum.inr (x3', x4') → KW x 0 0 Q σ 221 [none, some (ki x1), none, some (ki x3'), some (ki x4'), none, none, none, none, none] []) : KW x 0 0 Q σ 215 [some (kr 0), some (ki x1), some (ki x2), some (ki x3), some (ki x4), some (ki x5), none, none, none, none] [] := by
  unfold mm_listen_l96_j215 at h
  obtain ⟨x5_32, ex5_32, h⟩ := klet_h h
  refine kw_iinc (L' := [some (kr 0), some (ki x1), some (ki x2), some (ki x3), some (ki x4), some (ki x5_32), none, none, none, none]) C (kdec dc_M_listen 115 rfl) 218 rfl rfl (by decide) rfl (by rw [ex5_32]; rfl) ?_
  refine kw_goto C (kdec dc_M_listen 116 rfl) 96 (by decide) ?_
  obtain rfl := Option.some.inj h
  exact (hC _ _ _ rfl)
def mm_listen_l96 (σ : kM) (x1 : Int) (x2 : Int) (x3 : Int) (x4 : Int) (x5 : Int) : Option ((Int × Int × Int) ⊕ ((Int × Int))) :=
  if (σ 0 2) ≤ x5 then
    some (Sum.inr (x3, x4))
  else
    (kloop (fun st => mm_listen_l111 σ x1 x2 x3 x4 x5 st.1 st.2) kFuel (0, 0)).bind fun x6_31 =>
    if x4 < x6_31 then
      mm_listen_l96_j215 σ x1 x2 x5 x6_31 x5
    else
      mm_listen_l96_j215 σ x1 x2 x3 x4 x5
set_option maxHeartbeats 4000000 in
theorem bd_mm_listen_l96 {x : kX} {l0 : Launch} {Q : State → Prop} (C : kCx x prog_14_method_107_code "PoetFinesModel" (some .int) kcl yM 10 l0 R0_mm_listen) (σ : kM) (x1 : Int) (x2 : Int) (x3 : Int) (x4 : Int) (x5 : Int) {out : (Int × Int × Int) ⊕ ((Int × Int))} (h : mm_listen_l96 σ x1 x2 x3 x4 x5 = some out) (hC : ∀ (x3' : Int) (x4' : Int) (x5' : Int), out = Sum.inl (x3', x4', x5') → KW x 0 0 Q σ 96 [some (kr 0), some (ki x1), some (ki x2), some (ki x3'), some (ki x4'), some (ki x5'), none, none, none, none] []) (hX221 : ∀ (x3' : Int) (x4' : Int), out = Sum.inr (x3', x4') → KW x 0 0 Q σ 221 [none, some (ki x1), none, some (ki x3'), some (ki x4'), none, none, none, none, none] []) : KW x 0 0 Q σ 96 [some (kr 0), some (ki x1), some (ki x2), some (ki x3), some (ki x4), some (ki x5), none, none, none, none] [] := by
  unfold mm_listen_l96 at h
  refine kw_iload C (kdec dc_M_listen 54 rfl) 98 rfl rfl ?_
  refine kw_aload_n C (kdec dc_M_listen 55 rfl) rfl 99 rfl rfl ?_
  refine kw_getI C (kdec dc_M_listen 56 rfl) 102 rfl fd_M_M_270_0 ?_
  refine kw_icmp_ge C (kdec dc_M_listen 57 rfl) 221 105 (by decide) rfl (fun hc102 => ?_) (fun hc102 => ?_)
  · rw [if_pos hc102] at h
    obtain rfl := Option.some.inj h
    exact kw_sub (L' := [none, some (ki x1), none, some (ki x3), some (ki x4), none, none, none, none, none]) ⟨rfl, rfl, rfl, trivial⟩ (hX221 _ _ rfl)
  · rw [if_neg hc102] at h
    refine kw_iconst C (kdec dc_M_listen 58 rfl) 106 rfl rfl ⟨by decide, by decide⟩ ?_
    refine kw_istore (L' := [some (kr 0), some (ki x1), some (ki x2), some (ki x3), some (ki x4), some (ki x5), some (ki 0), none, none, none]) C (kdec dc_M_listen 59 rfl) 108 rfl (by decide) rfl rfl ?_
    refine kw_iconst C (kdec dc_M_listen 60 rfl) 109 rfl rfl ⟨by decide, by decide⟩ ?_
    refine kw_istore (L' := [some (kr 0), some (ki x1), some (ki x2), some (ki x3), some (ki x4), some (ki x5), some (ki 0), some (ki 0), none, none]) C (kdec dc_M_listen 61 rfl) 111 rfl (by decide) rfl rfl ?_
    obtain ⟨ex_29, hl_30, h⟩ := kbind_h h
    refine lp_mm_listen_l111 C σ x1 x2 x3 x4 x5 ?_ kFuel 0 0 hl_30
    · intro x6_31 e
      subst ex_29
      try dsimp only at h
      refine kw_iload C (kdec dc_M_listen 107 rfl) 200 rfl rfl ?_
      refine kw_iload C (kdec dc_M_listen 108 rfl) 202 rfl rfl ?_
      refine kw_icmp_gt C (kdec dc_M_listen 109 rfl) 208 205 (by decide) rfl (fun hc202 => ?_) (fun hc202 => ?_)
      · rw [if_pos hc202] at h
        refine kw_iload C (kdec dc_M_listen 111 rfl) 210 rfl rfl ?_
        refine kw_istore_n (L' := [some (kr 0), some (ki x1), some (ki x2), some (ki x5), some (ki x4), some (ki x5), some (ki x6_31), none, none, none]) C (kdec dc_M_listen 112 rfl) rfl 211 rfl (by decide) rfl rfl ?_
        refine kw_iload C (kdec dc_M_listen 113 rfl) 213 rfl rfl ?_
        refine kw_istore (L' := [some (kr 0), some (ki x1), some (ki x2), some (ki x5), some (ki x6_31), some (ki x5), some (ki x6_31), none, none, none]) C (kdec dc_M_listen 114 rfl) 215 rfl (by decide) rfl rfl ?_
        exact kw_sub (L' := [some (kr 0), some (ki x1), some (ki x2), some (ki x5), some (ki x6_31), some (ki x5), none, none, none, none]) ⟨rfl, rfl, rfl, rfl, rfl, rfl, trivial⟩ (bd_mm_listen_l96_j215 C σ x1 x2 x5 x6_31 x5 h hC hX221)
      · rw [if_neg hc202] at h
        refine kw_goto C (kdec dc_M_listen 110 rfl) 215 (by decide) ?_
        exact kw_sub (L' := [some (kr 0), some (ki x1), some (ki x2), some (ki x3), some (ki x4), some (ki x5), none, none, none, none]) ⟨rfl, rfl, rfl, rfl, rfl, rfl, trivial⟩ (bd_mm_listen_l96_j215 C σ x1 x2 x3 x4 x5 h hC hX221)
theorem lp_mm_listen_l96 {x : kX} {l0 : Launch} {Q : State → Prop} (C : kCx x prog_14_method_107_code "PoetFinesModel" (some .int) kcl yM 10 l0 R0_mm_listen) (σ : kM) (x1 : Int) (x2 : Int) {ex : (Int × Int)} (hX221 : ∀ (x3' : Int) (x4' : Int), ex = (x3', x4') → KW x 0 0 Q σ 221 [none, some (ki x1), none, some (ki x3'), some (ki x4'), none, none, none, none, none] []) (n : Nat) (x3 : Int) (x4 : Int) (x5 : Int) (h : kloop (fun st => mm_listen_l96 σ x1 x2 st.1 st.2.1 st.2.2) n (x3, x4, x5) = some ex) : KW x 0 0 Q σ 96 [some (kr 0), some (ki x1), some (ki x2), some (ki x3), some (ki x4), some (ki x5), none, none, none, none] [] :=
  kloop_ind (P := (fun st : Int × Int × Int => KW x 0 0 Q σ 96 [some (kr 0), some (ki x1), some (ki x2), some (ki (st.1)), some (ki (st.2.1)), some (ki (st.2.2)), none, none, none, none] [])) (fun st out hb hc hx => bd_mm_listen_l96 C σ x1 x2 st.1 st.2.1 st.2.2 hb (fun a0 a1 a2 e => hc _ e) (fun a0 a1 e => hX221 _ _ ((hx _ e).symm))) n (x3, x4, x5) h
def mm_listen (σ : kM) (x1 : Int) : Option (Int × kM) :=
  klet (kst σ 0 (kup (σ 0) 0 0)) fun σ_1 =>
  (mm_isWhat σ_1 x1 1).bind fun (r_2, σ_3) =>
  if r_2 = 0 then
    some ((0, σ_3))
  else
    (kloop (fun st => mm_listen_l20 st.1 x1 st.2.1 st.2.2) kFuel (σ_3, 0, 0)).bind fun (σ_18, x2_19) =>
    klet ((-1)) fun x3_20 =>
    (kloop (fun st => mm_listen_l96 σ_18 x1 x2_19 st.1 st.2.1 st.2.2) kFuel (x3_20, 0, 0)).bind fun (x3_35, x4_36) =>
    if x1 = 0 then
      some ((x3_35, σ_18))
    else
      some ((x4_36, σ_18))
set_option maxHeartbeats 4000000 in
theorem bd_mm_listen {x : kX} {l0 : Launch} {Q : State → Prop} (C : kCx x prog_14_method_107_code "PoetFinesModel" (some .int) kcl yM 10 l0 R0_mm_listen) (σ : kM) (x1 : Int) {out : Int × kM} (h : mm_listen σ x1 = some out) (hR : ∀ (r : Int) (τ : kM), out = (r, τ) → Q = kQ x (some (ki r)) τ 0 0) : KW x 0 0 Q σ 0 [some (kr 0), some (ki x1), none, none, none, none, none, none, none, none] [] := by
  unfold mm_listen at h
  refine kw_aload_n C (kdec dc_M_listen 0 rfl) rfl 1 rfl rfl ?_
  refine kw_iconst C (kdec dc_M_listen 1 rfl) 2 rfl rfl ⟨by decide, by decide⟩ ?_
  obtain ⟨σ_1, eσ_1, h⟩ := klet_h h
  refine kw_putI C (kdec dc_M_listen 2 rfl) 5 rfl fp_M_M_99_0 ?_
  refine kw_sig eσ_1 ?_
  refine kw_aload_n C (kdec dc_M_listen 3 rfl) rfl 6 rfl rfl ?_
  refine kw_iload_n C (kdec dc_M_listen 4 rfl) rfl 7 rfl rfl ?_
  refine kw_iconst C (kdec dc_M_listen 5 rfl) 8 rfl rfl ⟨by decide, by decide⟩ ?_
  obtain ⟨⟨r_2, σ_3⟩, hg_37, h⟩ := kbind_h h
  dsimp only at h
  refine kw_callV (As := [ki x1, ki 1]) C (kdec dc_M_listen 6 rfl) 11 rfl cv_M_376 rfl rfl (mt_mm_isWhat l0 hg_37) ⟨rfl, rfl⟩ ⟨Nat.le_of_ble_eq_true rfl, Nat.le_of_ble_eq_true rfl⟩ ⟨Nat.zero_le _, Nat.zero_le _⟩ rfl (Nat.le_of_ble_eq_true rfl) ?_
  change KW x 0 0 Q σ_3 11 [some (kr 0), some (ki x1), none, none, none, none, none, none, none, none] [ki r_2]
  refine kw_if_ne C (kdec dc_M_listen 7 rfl) 16 14 (by decide) rfl (fun hc11 => ?_) (fun hc11 => ?_)
  · rw [if_neg hc11] at h
    refine kw_iconst C (kdec dc_M_listen 10 rfl) 17 rfl rfl ⟨by decide, by decide⟩ ?_
    refine kw_istore_n (L' := [some (kr 0), some (ki x1), some (ki 0), none, none, none, none, none, none, none]) C (kdec dc_M_listen 11 rfl) rfl 18 rfl (by decide) rfl rfl ?_
    refine kw_iconst C (kdec dc_M_listen 12 rfl) 19 rfl rfl ⟨by decide, by decide⟩ ?_
    refine kw_istore_n (L' := [some (kr 0), some (ki x1), some (ki 0), some (ki 0), none, none, none, none, none, none]) C (kdec dc_M_listen 13 rfl) rfl 20 rfl (by decide) rfl rfl ?_
    obtain ⟨ex_16, hl_17, h⟩ := kbind_h h
    refine lp_mm_listen_l20 C x1 ?_ kFuel σ_3 0 0 hl_17
    · intro σ_18 x2_19 e
      subst ex_16
      try dsimp only at h
      refine kw_iconst C (kdec dc_M_listen 48 rfl) 89 rfl rfl ⟨by decide, by decide⟩ ?_
      obtain ⟨x3_20, ex3_20, h⟩ := klet_h h
      refine kw_top ex3_20 ?_
      refine kw_istore_n (L' := [some (kr 0), some (ki x1), some (ki x2_19), some (ki x3_20), none, none, none, none, none, none]) C (kdec dc_M_listen 49 rfl) rfl 90 rfl (by decide) rfl rfl ?_
      refine kw_iconst C (kdec dc_M_listen 50 rfl) 91 rfl rfl ⟨by decide, by decide⟩ ?_
      refine kw_istore (L' := [some (kr 0), some (ki x1), some (ki x2_19), some (ki x3_20), some (ki 0), none, none, none, none, none]) C (kdec dc_M_listen 51 rfl) 93 rfl (by decide) rfl rfl ?_
      refine kw_iconst C (kdec dc_M_listen 52 rfl) 94 rfl rfl ⟨by decide, by decide⟩ ?_
      refine kw_istore (L' := [some (kr 0), some (ki x1), some (ki x2_19), some (ki x3_20), some (ki 0), some (ki 0), none, none, none, none]) C (kdec dc_M_listen 53 rfl) 96 rfl (by decide) rfl rfl ?_
      obtain ⟨ex_33, hl_34, h⟩ := kbind_h h
      refine lp_mm_listen_l96 C σ_18 x1 x2_19 ?_ kFuel x3_20 0 0 hl_34
      · intro x3_35 x4_36 e
        subst ex_33
        try dsimp only at h
        refine kw_iload_n C (kdec dc_M_listen 117 rfl) rfl 222 rfl rfl ?_
        refine kw_if_ne C (kdec dc_M_listen 118 rfl) 229 225 (by decide) rfl (fun hc222 => ?_) (fun hc222 => ?_)
        · rw [if_neg hc222] at h
          refine kw_iload C (kdec dc_M_listen 121 rfl) 231 rfl rfl ?_
          obtain rfl := Option.some.inj h
          exact kw_Q (hR _ _ rfl) (kw_ireturn C (kdec dc_M_listen 122 rfl))
        · rw [if_pos hc222] at h
          refine kw_iload_n C (kdec dc_M_listen 119 rfl) rfl 226 rfl rfl ?_
          refine kw_goto C (kdec dc_M_listen 120 rfl) 231 (by decide) ?_
          obtain rfl := Option.some.inj h
          exact kw_Q (hR _ _ rfl) (kw_ireturn C (kdec dc_M_listen 122 rfl))
  · rw [if_pos hc11] at h
    refine kw_iconst C (kdec dc_M_listen 8 rfl) 15 rfl rfl ⟨by decide, by decide⟩ ?_
    obtain rfl := Option.some.inj h
    exact kw_Q (hR _ _ rfl) (kw_ireturn C (kdec dc_M_listen 9 rfl))
theorem mt_mm_listen (l0 : Launch) {σ : kM} {x1 : Int} {r : Int} {τ : kM} (h : mm_listen σ x1 = some (r, τ)) : kMet l0 ky_M_listen prog_14_method_107_code 10 (some .int) R0_mm_listen kcl yM σ [kr 0, ki x1] (some (ki r)) τ := kMet.of' [some (kr 0), some (ki x1), none, none, none, none, none, none, none, none] (by decide) (Nat.le_of_ble_eq_true rfl) ⟨rfl, rfl, trivial⟩ (fun x C => bd_mm_listen C σ x1 h (fun r τ e => by cases e; rfl))
def R0_mm_accidents : Room := ({ frames := 6, cells := 0, slots := 0, locals := 146 } : Room)
def mm_accidents_l71_j114 (σ : kM) (x1 : Int) (x2 : Int) (x3 : Int) (x4 : Int) (x5 : Int) (x7 : Int) (s0 : Int) (s1 : Int) : Option ((kM × Int × Int) ⊕ ((kM × Int))) :=
  klet (w32 (s1 * s0)) fun x6_10 =>
  (mm_yearGoes σ 145).bind fun σ_11 =>
  klet (w32 (x7 + 1)) fun x7_12 =>
  some (Sum.inl (σ_11, x6_10, x7_12))
set_option maxHeartbeats 4000000 in
theorem bd_mm_accidents_l71_j114 {x : kX} {l0 : Launch} {Q : State → Prop} (C : kCx x prog_14_method_108_code "PoetFinesModel" (some .int) kcl yM 8 l0 R0_mm_accidents) (σ : kM) (x1 : Int) (x2 : Int) (x3 : Int) (x4 : Int) (x5 : Int) (x7 : Int) (s0 : Int) (s1 : Int) {out : (kM × Int × Int) ⊕ ((kM × Int))} (h : mm_accidents_l71_j114 σ x1 x2 x3 x4 x5 x7 s0 s1 = some out) (hC : ∀ (σ' : kM) (x6' : Int) (x7' : Int), out = Sum.inl (σ', x6', x7') → KW x 0 0 Q σ' 71 [some (kr 0), some (ki x1), some (ki x2), some (ki x3), some (ki x4), some (ki x5), some (ki x6'), some (ki x7')] []) (hX130 : ∀ (σ' : kM) (x6' : Int), out = Sum.inr (σ', x6') → KW x 0 0 Q σ' 130 [some (kr 0), some (ki x1), some (ki x2), some (ki x3), some (ki x4), some (ki x5), some (ki x6'), none] []) : KW x 0 0 Q σ 114 [some (kr 0), some (ki x1), some (ki x2), some (ki x3), some (ki x4), some (ki x5), none, some (ki x7)] [ki s0, ki s1] := by
  unfold mm_accidents_l71_j114 at h
  refine kw_imul C (kdec dc_M_accidents 65 rfl) 115 rfl ?_
  obtain ⟨x6_10, ex6_10, h⟩ := klet_h h
  refine kw_top ex6_10 ?_
  refine kw_istore (L' := [some (kr 0), some (ki x1), some (ki x2), some (ki x3), some (ki x4), some (ki x5), some (ki x6_10), some (ki x7)]) C (kdec dc_M_accidents 66 rfl) 117 rfl (by decide) rfl rfl ?_
  refine kw_aload_n C (kdec dc_M_accidents 67 rfl) rfl 118 rfl rfl ?_
  refine kw_sipush (v := 145) C (kdec dc_M_accidents 68 rfl) 121 rfl (by decide) ⟨by decide, by decide⟩ ?_
  obtain ⟨σ_11, hg_13, h⟩ := kbind_h h
  refine kw_callV (As := [ki 145]) C (kdec dc_M_accidents 69 rfl) 124 rfl cv_M_352 rfl rfl (mt_mm_yearGoes l0 hg_13) ⟨rfl, rfl⟩ ⟨Nat.le_of_ble_eq_true rfl, Nat.le_of_ble_eq_true rfl⟩ ⟨Nat.zero_le _, Nat.zero_le _⟩ rfl (Nat.le_of_ble_eq_true rfl) ?_
  change KW x 0 0 Q σ_11 124 [some (kr 0), some (ki x1), some (ki x2), some (ki x3), some (ki x4), some (ki x5), some (ki x6_10), some (ki x7)] []
  obtain ⟨x7_12, ex7_12, h⟩ := klet_h h
  refine kw_iinc (L' := [some (kr 0), some (ki x1), some (ki x2), some (ki x3), some (ki x4), some (ki x5), some (ki x6_10), some (ki x7_12)]) C (kdec dc_M_accidents 70 rfl) 127 rfl rfl (by decide) rfl (by rw [ex7_12]; rfl) ?_
  refine kw_goto C (kdec dc_M_accidents 71 rfl) 71 (by decide) ?_
  obtain rfl := Option.some.inj h
  exact (hC _ _ _ rfl)
def mm_accidents_l71_j94 (σ : kM) (x1 : Int) (x2 : Int) (x3 : Int) (x4 : Int) (x5 : Int) (x6 : Int) (x7 : Int) (s0 : Int) : Option ((kM × Int × Int) ⊕ ((kM × Int))) :=
  kchk (s0 = 0 ∨ s0 = 1) <|
  klet (kst σ 0 (kup (σ 0) 48 s0)) fun σ_9 =>
  if (σ_9 0 48) = 0 then
    mm_accidents_l71_j114 σ_9 x1 x2 x3 x4 x5 x7 (w32 (10 - x3)) x6
  else
    mm_accidents_l71_j114 σ_9 x1 x2 x3 x4 x5 x7 x3 x6
set_option maxHeartbeats 4000000 in
theorem bd_mm_accidents_l71_j94 {x : kX} {l0 : Launch} {Q : State → Prop} (C : kCx x prog_14_method_108_code "PoetFinesModel" (some .int) kcl yM 8 l0 R0_mm_accidents) (σ : kM) (x1 : Int) (x2 : Int) (x3 : Int) (x4 : Int) (x5 : Int) (x6 : Int) (x7 : Int) (s0 : Int) {out : (kM × Int × Int) ⊕ ((kM × Int))} (h : mm_accidents_l71_j94 σ x1 x2 x3 x4 x5 x6 x7 s0 = some out) (hC : ∀ (σ' : kM) (x6' : Int) (x7' : Int), out = Sum.inl (σ', x6', x7') → KW x 0 0 Q σ' 71 [some (kr 0), some (ki x1), some (ki x2), some (ki x3), some (ki x4), some (ki x5), some (ki x6'), some (ki x7')] []) (hX130 : ∀ (σ' : kM) (x6' : Int), out = Sum.inr (σ', x6') → KW x 0 0 Q σ' 130 [some (kr 0), some (ki x1), some (ki x2), some (ki x3), some (ki x4), some (ki x5), some (ki x6'), none] []) : KW x 0 0 Q σ 94 [some (kr 0), some (ki x1), some (ki x2), some (ki x3), some (ki x4), some (ki x5), some (ki x6), some (ki x7)] [ki s0, kr 0] := by
  unfold mm_accidents_l71_j94 at h
  obtain ⟨hc_8, h⟩ := kchk_h h
  obtain ⟨σ_9, eσ_9, h⟩ := klet_h h
  refine kw_putZ C (kdec dc_M_accidents 55 rfl) 97 rfl fp_M_M_320_0 hc_8 ?_
  refine kw_sig eσ_9 ?_
  refine kw_iload C (kdec dc_M_accidents 56 rfl) 99 rfl rfl ?_
  refine kw_aload_n C (kdec dc_M_accidents 57 rfl) rfl 100 rfl rfl ?_
  refine kw_getI C (kdec dc_M_accidents 58 rfl) 103 rfl fd_M_M_320_0 ?_
  refine kw_if_eq C (kdec dc_M_accidents 59 rfl) 110 106 (by decide) rfl (fun hc103 => ?_) (fun hc103 => ?_)
  · rw [if_pos hc103] at h
    refine kw_bipush (v := 10) C (kdec dc_M_accidents 62 rfl) 112 rfl (by decide) ⟨by decide, by decide⟩ ?_
    refine kw_iload_n C (kdec dc_M_accidents 63 rfl) rfl 113 rfl rfl ?_
    refine kw_isub C (kdec dc_M_accidents 64 rfl) 114 rfl ?_
    exact kw_sub (L' := [some (kr 0), some (ki x1), some (ki x2), some (ki x3), some (ki x4), some (ki x5), none, some (ki x7)]) ⟨rfl, rfl, rfl, rfl, rfl, rfl, rfl, trivial⟩ (bd_mm_accidents_l71_j114 C σ_9 x1 x2 x3 x4 x5 x7 (w32 (10 - x3)) x6 h hC hX130)
  · rw [if_neg hc103] at h
    refine kw_iload_n C (kdec dc_M_accidents 60 rfl) rfl 107 rfl rfl ?_
    refine kw_goto C (kdec dc_M_accidents 61 rfl) 114 (by decide) ?_
    exact kw_sub (L' := [some (kr 0), some (ki x1), some (ki x2), some (ki x3), some (ki x4), some (ki x5), none, some (ki x7)]) ⟨rfl, rfl, rfl, rfl, rfl, rfl, rfl, trivial⟩ (bd_mm_accidents_l71_j114 C σ_9 x1 x2 x3 x4 x5 x7 x3 x6 h hC hX130)
def mm_accidents_l71 (σ : kM) (x1 : Int) (x2 : Int) (x3 : Int) (x4 : Int) (x5 : Int) (x6 : Int) (x7 : Int) : Option ((kM × Int × Int) ⊕ ((kM × Int))) :=
  if x2 ≤ x7 then
    some (Sum.inr (σ, x6))
  else
    if (kand (kshr x5 x7) 1) = 1 then
      mm_accidents_l71_j94 σ x1 x2 x3 x4 x5 x6 x7 1
    else
      mm_accidents_l71_j94 σ x1 x2 x3 x4 x5 x6 x7 0
set_option maxHeartbeats 4000000 in
theorem bd_mm_accidents_l71 {x : kX} {l0 : Launch} {Q : State → Prop} (C : kCx x prog_14_method_108_code "PoetFinesModel" (some .int) kcl yM 8 l0 R0_mm_accidents) (σ : kM) (x1 : Int) (x2 : Int) (x3 : Int) (x4 : Int) (x5 : Int) (x6 : Int) (x7 : Int) {out : (kM × Int × Int) ⊕ ((kM × Int))} (h : mm_accidents_l71 σ x1 x2 x3 x4 x5 x6 x7 = some out) (hC : ∀ (σ' : kM) (x6' : Int) (x7' : Int), out = Sum.inl (σ', x6', x7') → KW x 0 0 Q σ' 71 [some (kr 0), some (ki x1), some (ki x2), some (ki x3), some (ki x4), some (ki x5), some (ki x6'), some (ki x7')] []) (hX130 : ∀ (σ' : kM) (x6' : Int), out = Sum.inr (σ', x6') → KW x 0 0 Q σ' 130 [some (kr 0), some (ki x1), some (ki x2), some (ki x3), some (ki x4), some (ki x5), some (ki x6'), none] []) : KW x 0 0 Q σ 71 [some (kr 0), some (ki x1), some (ki x2), some (ki x3), some (ki x4), some (ki x5), some (ki x6), some (ki x7)] [] := by
  unfold mm_accidents_l71 at h
  refine kw_iload C (kdec dc_M_accidents 41 rfl) 73 rfl rfl ?_
  refine kw_iload_n C (kdec dc_M_accidents 42 rfl) rfl 74 rfl rfl ?_
  refine kw_icmp_ge C (kdec dc_M_accidents 43 rfl) 130 77 (by decide) rfl (fun hc74 => ?_) (fun hc74 => ?_)
  · rw [if_pos hc74] at h
    obtain rfl := Option.some.inj h
    exact kw_sub (L' := [some (kr 0), some (ki x1), some (ki x2), some (ki x3), some (ki x4), some (ki x5), some (ki x6), none]) ⟨rfl, rfl, rfl, rfl, rfl, rfl, rfl, trivial⟩ (hX130 _ _ rfl)
  · rw [if_neg hc74] at h
    refine kw_aload_n C (kdec dc_M_accidents 44 rfl) rfl 78 rfl rfl ?_
    refine kw_iload C (kdec dc_M_accidents 45 rfl) 80 rfl rfl ?_
    refine kw_iload C (kdec dc_M_accidents 46 rfl) 82 rfl rfl ?_
    refine kw_ishr C (kdec dc_M_accidents 47 rfl) 83 rfl ?_
    refine kw_iconst C (kdec dc_M_accidents 48 rfl) 84 rfl rfl ⟨by decide, by decide⟩ ?_
    refine kw_iand C (kdec dc_M_accidents 49 rfl) 85 rfl ?_
    refine kw_iconst C (kdec dc_M_accidents 50 rfl) 86 rfl rfl ⟨by decide, by decide⟩ ?_
    refine kw_icmp_ne C (kdec dc_M_accidents 51 rfl) 93 89 (by decide) rfl (fun hc86 => ?_) (fun hc86 => ?_)
    · rw [if_neg hc86] at h
      refine kw_iconst C (kdec dc_M_accidents 54 rfl) 94 rfl rfl ⟨by decide, by decide⟩ ?_
      exact bd_mm_accidents_l71_j94 C σ x1 x2 x3 x4 x5 x6 x7 0 h hC hX130
    · rw [if_pos hc86] at h
      refine kw_iconst C (kdec dc_M_accidents 52 rfl) 90 rfl rfl ⟨by decide, by decide⟩ ?_
      refine kw_goto C (kdec dc_M_accidents 53 rfl) 94 (by decide) ?_
      exact bd_mm_accidents_l71_j94 C σ x1 x2 x3 x4 x5 x6 x7 1 h hC hX130
theorem lp_mm_accidents_l71 {x : kX} {l0 : Launch} {Q : State → Prop} (C : kCx x prog_14_method_108_code "PoetFinesModel" (some .int) kcl yM 8 l0 R0_mm_accidents) (x1 : Int) (x2 : Int) (x3 : Int) (x4 : Int) (x5 : Int) {ex : (kM × Int)} (hX130 : ∀ (σ' : kM) (x6' : Int), ex = (σ', x6') → KW x 0 0 Q σ' 130 [some (kr 0), some (ki x1), some (ki x2), some (ki x3), some (ki x4), some (ki x5), some (ki x6'), none] []) (n : Nat) (σ : kM) (x6 : Int) (x7 : Int) (h : kloop (fun st => mm_accidents_l71 st.1 x1 x2 x3 x4 x5 st.2.1 st.2.2) n (σ, x6, x7) = some ex) : KW x 0 0 Q σ 71 [some (kr 0), some (ki x1), some (ki x2), some (ki x3), some (ki x4), some (ki x5), some (ki x6), some (ki x7)] [] :=
  kloop_ind (P := (fun st : kM × Int × Int => KW x 0 0 Q st.1 71 [some (kr 0), some (ki x1), some (ki x2), some (ki x3), some (ki x4), some (ki x5), some (ki (st.2.1)), some (ki (st.2.2))] [])) (fun st out hb hc hx => bd_mm_accidents_l71 C st.1 x1 x2 x3 x4 x5 st.2.1 st.2.2 hb (fun a0 a1 a2 e => hc _ e) (fun a0 a1 e => hX130 _ _ ((hx _ e).symm))) n (σ, x6, x7) h
def mm_accidents_l53_j151 (σ : kM) (x1 : Int) (x2 : Int) (x3 : Int) (x5 : Int) (s0 : Int) (s1 : Int) : Option ((kM × Int × Int) ⊕ ((kM × Int))) :=
  klet (w32 (s1 + s0)) fun x4_19 =>
  klet (w32 (x5 + 1)) fun x5_20 =>
  some (Sum.inl (σ, x4_19, x5_20))
set_option maxHeartbeats 4000000 in
theorem bd_mm_accidents_l53_j151 {x : kX} {l0 : Launch} {Q : State → Prop} (C : kCx x prog_14_method_108_code "PoetFinesModel" (some .int) kcl yM 8 l0 R0_mm_accidents) (σ : kM) (x1 : Int) (x2 : Int) (x3 : Int) (x5 : Int) (s0 : Int) (s1 : Int) {out : (kM × Int × Int) ⊕ ((kM × Int))} (h : mm_accidents_l53_j151 σ x1 x2 x3 x5 s0 s1 = some out) (hC : ∀ (σ' : kM) (x4' : Int) (x5' : Int), out = Sum.inl (σ', x4', x5') → KW x 0 0 Q σ' 53 [some (kr 0), some (ki x1), some (ki x2), some (ki x3), some (ki x4'), some (ki x5'), none, none] []) (hX160 : ∀ (σ' : kM) (x4' : Int), out = Sum.inr (σ', x4') → KW x 0 0 Q σ' 160 [some (kr 0), none, none, none, some (ki x4'), none, none, none] []) : KW x 0 0 Q σ 151 [some (kr 0), some (ki x1), some (ki x2), some (ki x3), none, some (ki x5), none, none] [ki s0, ki s1] := by
  unfold mm_accidents_l53_j151 at h
  refine kw_iadd C (kdec dc_M_accidents 83 rfl) 152 rfl ?_
  obtain ⟨x4_19, ex4_19, h⟩ := klet_h h
  refine kw_top ex4_19 ?_
  refine kw_istore (L' := [some (kr 0), some (ki x1), some (ki x2), some (ki x3), some (ki x4_19), some (ki x5), none, none]) C (kdec dc_M_accidents 84 rfl) 154 rfl (by decide) rfl rfl ?_
  obtain ⟨x5_20, ex5_20, h⟩ := klet_h h
  refine kw_iinc (L' := [some (kr 0), some (ki x1), some (ki x2), some (ki x3), some (ki x4_19), some (ki x5_20), none, none]) C (kdec dc_M_accidents 85 rfl) 157 rfl rfl (by decide) rfl (by rw [ex5_20]; rfl) ?_
  refine kw_goto C (kdec dc_M_accidents 86 rfl) 53 (by decide) ?_
  obtain rfl := Option.some.inj h
  exact (hC _ _ _ rfl)
def mm_accidents_l53 (σ : kM) (x1 : Int) (x2 : Int) (x3 : Int) (x4 : Int) (x5 : Int) : Option ((kM × Int × Int) ⊕ ((kM × Int))) :=
  if (kshl 1 x2) ≤ x5 then
    some (Sum.inr (σ, x4))
  else
    (mm_tries σ).bind fun σ_7 =>
    (kloop (fun st => mm_accidents_l71 st.1 x1 x2 x3 x4 x5 st.2.1 st.2.2) kFuel (σ_7, 1, 0)).bind fun (σ_16, x6_17) =>
    kchk (0 ≤ (w32 (154 + x1)) ∧ (w32 (154 + x1)) < 290) <|
    if (σ_16 8 (w32 (154 + x1)).toNat) = 0 then
      mm_accidents_l53_j151 σ_16 x1 x2 x3 x5 x6_17 x4
    else
      mm_accidents_l53_j151 σ_16 x1 x2 x3 x5 0 x4
set_option maxHeartbeats 4000000 in
theorem bd_mm_accidents_l53 {x : kX} {l0 : Launch} {Q : State → Prop} (C : kCx x prog_14_method_108_code "PoetFinesModel" (some .int) kcl yM 8 l0 R0_mm_accidents) (σ : kM) (x1 : Int) (x2 : Int) (x3 : Int) (x4 : Int) (x5 : Int) {out : (kM × Int × Int) ⊕ ((kM × Int))} (h : mm_accidents_l53 σ x1 x2 x3 x4 x5 = some out) (hC : ∀ (σ' : kM) (x4' : Int) (x5' : Int), out = Sum.inl (σ', x4', x5') → KW x 0 0 Q σ' 53 [some (kr 0), some (ki x1), some (ki x2), some (ki x3), some (ki x4'), some (ki x5'), none, none] []) (hX160 : ∀ (σ' : kM) (x4' : Int), out = Sum.inr (σ', x4') → KW x 0 0 Q σ' 160 [some (kr 0), none, none, none, some (ki x4'), none, none, none] []) : KW x 0 0 Q σ 53 [some (kr 0), some (ki x1), some (ki x2), some (ki x3), some (ki x4), some (ki x5), none, none] [] := by
  unfold mm_accidents_l53 at h
  refine kw_iload C (kdec dc_M_accidents 30 rfl) 55 rfl rfl ?_
  refine kw_iconst C (kdec dc_M_accidents 31 rfl) 56 rfl rfl ⟨by decide, by decide⟩ ?_
  refine kw_iload_n C (kdec dc_M_accidents 32 rfl) rfl 57 rfl rfl ?_
  refine kw_ishl C (kdec dc_M_accidents 33 rfl) 58 rfl ?_
  refine kw_icmp_ge C (kdec dc_M_accidents 34 rfl) 160 61 (by decide) rfl (fun hc58 => ?_) (fun hc58 => ?_)
  · rw [if_pos hc58] at h
    obtain rfl := Option.some.inj h
    exact kw_sub (L' := [some (kr 0), none, none, none, some (ki x4), none, none, none]) ⟨rfl, rfl, trivial⟩ (hX160 _ _ rfl)
  · rw [if_neg hc58] at h
    refine kw_iconst C (kdec dc_M_accidents 35 rfl) 62 rfl rfl ⟨by decide, by decide⟩ ?_
    refine kw_istore (L' := [some (kr 0), some (ki x1), some (ki x2), some (ki x3), some (ki x4), some (ki x5), some (ki 1), none]) C (kdec dc_M_accidents 36 rfl) 64 rfl (by decide) rfl rfl ?_
    refine kw_aload_n C (kdec dc_M_accidents 37 rfl) rfl 65 rfl rfl ?_
    obtain ⟨σ_7, hg_21, h⟩ := kbind_h h
    refine kw_callV (As := []) C (kdec dc_M_accidents 38 rfl) 68 rfl cv_M_349 rfl rfl (mt_mm_tries l0 hg_21) ⟨rfl, rfl⟩ ⟨Nat.le_of_ble_eq_true rfl, Nat.le_of_ble_eq_true rfl⟩ ⟨Nat.zero_le _, Nat.zero_le _⟩ rfl (Nat.le_of_ble_eq_true rfl) ?_
    change KW x 0 0 Q σ_7 68 [some (kr 0), some (ki x1), some (ki x2), some (ki x3), some (ki x4), some (ki x5), some (ki 1), none] []
    refine kw_iconst C (kdec dc_M_accidents 39 rfl) 69 rfl rfl ⟨by decide, by decide⟩ ?_
    refine kw_istore (L' := [some (kr 0), some (ki x1), some (ki x2), some (ki x3), some (ki x4), some (ki x5), some (ki 1), some (ki 0)]) C (kdec dc_M_accidents 40 rfl) 71 rfl (by decide) rfl rfl ?_
    obtain ⟨ex_14, hl_15, h⟩ := kbind_h h
    refine lp_mm_accidents_l71 C x1 x2 x3 x4 x5 ?_ kFuel σ_7 1 0 hl_15
    · intro σ_16 x6_17 e
      subst ex_14
      try dsimp only at h
      refine kw_iload C (kdec dc_M_accidents 72 rfl) 132 rfl rfl ?_
      refine kw_aload_n C (kdec dc_M_accidents 73 rfl) rfl 133 rfl rfl ?_
      refine kw_getR C (kdec dc_M_accidents 74 rfl) 136 rfl fd_M_M_48_0 ?_
      refine kw_sipush (v := 154) C (kdec dc_M_accidents 75 rfl) 139 rfl (by decide) ⟨by decide, by decide⟩ ?_
      refine kw_iload_n C (kdec dc_M_accidents 76 rfl) rfl 140 rfl rfl ?_
      refine kw_iadd C (kdec dc_M_accidents 77 rfl) 141 rfl ?_
      obtain ⟨hc_18, h⟩ := kchk_h h
      refine kw_iald C (kdec dc_M_accidents 78 rfl) 142 rfl rfl hc_18.1 hc_18.2 ?_
      refine kw_if_ne C (kdec dc_M_accidents 79 rfl) 150 145 (by decide) rfl (fun hc142 => ?_) (fun hc142 => ?_)
      · rw [if_neg hc142] at h
        refine kw_iconst C (kdec dc_M_accidents 82 rfl) 151 rfl rfl ⟨by decide, by decide⟩ ?_
        exact kw_sub (L' := [some (kr 0), some (ki x1), some (ki x2), some (ki x3), none, some (ki x5), none, none]) ⟨rfl, rfl, rfl, rfl, rfl, trivial⟩ (bd_mm_accidents_l53_j151 C σ_16 x1 x2 x3 x5 0 x4 h hC hX160)
      · rw [if_pos hc142] at h
        refine kw_iload C (kdec dc_M_accidents 80 rfl) 147 rfl rfl ?_
        refine kw_goto C (kdec dc_M_accidents 81 rfl) 151 (by decide) ?_
        exact kw_sub (L' := [some (kr 0), some (ki x1), some (ki x2), some (ki x3), none, some (ki x5), none, none]) ⟨rfl, rfl, rfl, rfl, rfl, trivial⟩ (bd_mm_accidents_l53_j151 C σ_16 x1 x2 x3 x5 x6_17 x4 h hC hX160)
theorem lp_mm_accidents_l53 {x : kX} {l0 : Launch} {Q : State → Prop} (C : kCx x prog_14_method_108_code "PoetFinesModel" (some .int) kcl yM 8 l0 R0_mm_accidents) (x1 : Int) (x2 : Int) (x3 : Int) {ex : (kM × Int)} (hX160 : ∀ (σ' : kM) (x4' : Int), ex = (σ', x4') → KW x 0 0 Q σ' 160 [some (kr 0), none, none, none, some (ki x4'), none, none, none] []) (n : Nat) (σ : kM) (x4 : Int) (x5 : Int) (h : kloop (fun st => mm_accidents_l53 st.1 x1 x2 x3 st.2.1 st.2.2) n (σ, x4, x5) = some ex) : KW x 0 0 Q σ 53 [some (kr 0), some (ki x1), some (ki x2), some (ki x3), some (ki x4), some (ki x5), none, none] [] :=
  kloop_ind (P := (fun st : kM × Int × Int => KW x 0 0 Q st.1 53 [some (kr 0), some (ki x1), some (ki x2), some (ki x3), some (ki (st.2.1)), some (ki (st.2.2)), none, none] [])) (fun st out hb hc hx => bd_mm_accidents_l53 C st.1 x1 x2 x3 st.2.1 st.2.2 hb (fun a0 a1 a2 e => hc _ e) (fun a0 a1 e => hX160 _ _ ((hx _ e).symm))) n (σ, x4, x5) h
def mm_accidents_j38 (σ : kM) (x1 : Int) (x2 : Int) (x3 : Int) (s0 : Int) : Option (Int × kM) :=
  (mm_right σ s0 2).bind fun (r_5, σ_6) =>
  if r_5 = 0 then
    some ((0, σ_6))
  else
    (kloop (fun st => mm_accidents_l53 st.1 x1 x2 x3 st.2.1 st.2.2) kFuel (σ_6, 0, 0)).bind fun (σ_24, x4_25) =>
    klet (kst σ_24 0 (kup (σ_24 0) 48 0)) fun σ_26 =>
    some ((x4_25, σ_26))
set_option maxHeartbeats 4000000 in
theorem bd_mm_accidents_j38 {x : kX} {l0 : Launch} {Q : State → Prop} (C : kCx x prog_14_method_108_code "PoetFinesModel" (some .int) kcl yM 8 l0 R0_mm_accidents) (σ : kM) (x1 : Int) (x2 : Int) (x3 : Int) (s0 : Int) {out : Int × kM} (h : mm_accidents_j38 σ x1 x2 x3 s0 = some out) (hR : ∀ (r : Int) (τ : kM), out = (r, τ) → Q = kQ x (some (ki r)) τ 0 0) : KW x 0 0 Q σ 38 [some (kr 0), some (ki x1), some (ki x2), some (ki x3), none, none, none, none] [ki s0, kr 0] := by
  unfold mm_accidents_j38 at h
  refine kw_iconst C (kdec dc_M_accidents 21 rfl) 39 rfl rfl ⟨by decide, by decide⟩ ?_
  obtain ⟨⟨r_5, σ_6⟩, hg_27, h⟩ := kbind_h h
  dsimp only at h
  refine kw_callV (As := [ki s0, ki 2]) C (kdec dc_M_accidents 22 rfl) 42 rfl cv_M_263 rfl rfl (mt_mm_right l0 hg_27) ⟨rfl, rfl⟩ ⟨Nat.le_of_ble_eq_true rfl, Nat.le_of_ble_eq_true rfl⟩ ⟨Nat.zero_le _, Nat.zero_le _⟩ rfl (Nat.le_of_ble_eq_true rfl) ?_
  change KW x 0 0 Q σ_6 42 [some (kr 0), some (ki x1), some (ki x2), some (ki x3), none, none, none, none] [ki r_5]
  refine kw_if_ne C (kdec dc_M_accidents 23 rfl) 47 45 (by decide) rfl (fun hc42 => ?_) (fun hc42 => ?_)
  · rw [if_neg hc42] at h
    refine kw_iconst C (kdec dc_M_accidents 26 rfl) 48 rfl rfl ⟨by decide, by decide⟩ ?_
    refine kw_istore (L' := [some (kr 0), some (ki x1), some (ki x2), some (ki x3), some (ki 0), none, none, none]) C (kdec dc_M_accidents 27 rfl) 50 rfl (by decide) rfl rfl ?_
    refine kw_iconst C (kdec dc_M_accidents 28 rfl) 51 rfl rfl ⟨by decide, by decide⟩ ?_
    refine kw_istore (L' := [some (kr 0), some (ki x1), some (ki x2), some (ki x3), some (ki 0), some (ki 0), none, none]) C (kdec dc_M_accidents 29 rfl) 53 rfl (by decide) rfl rfl ?_
    obtain ⟨ex_22, hl_23, h⟩ := kbind_h h
    refine lp_mm_accidents_l53 C x1 x2 x3 ?_ kFuel σ_6 0 0 hl_23
    · intro σ_24 x4_25 e
      subst ex_22
      try dsimp only at h
      refine kw_aload_n C (kdec dc_M_accidents 87 rfl) rfl 161 rfl rfl ?_
      refine kw_iconst C (kdec dc_M_accidents 88 rfl) 162 rfl rfl ⟨by decide, by decide⟩ ?_
      obtain ⟨σ_26, eσ_26, h⟩ := klet_h h
      refine kw_putZ C (kdec dc_M_accidents 89 rfl) 165 rfl fp_M_M_320_0 (by decide) ?_
      refine kw_sig eσ_26 ?_
      refine kw_iload C (kdec dc_M_accidents 90 rfl) 167 rfl rfl ?_
      obtain rfl := Option.some.inj h
      exact kw_Q (hR _ _ rfl) (kw_ireturn C (kdec dc_M_accidents 91 rfl))
  · rw [if_pos hc42] at h
    refine kw_iconst C (kdec dc_M_accidents 24 rfl) 46 rfl rfl ⟨by decide, by decide⟩ ?_
    obtain rfl := Option.some.inj h
    exact kw_Q (hR _ _ rfl) (kw_ireturn C (kdec dc_M_accidents 25 rfl))
def mm_accidents_j37 (σ : kM) (x1 : Int) (x2 : Int) (x3 : Int) : Option (Int × kM) :=
  mm_accidents_j38 σ x1 x2 x3 0
set_option maxHeartbeats 4000000 in
theorem bd_mm_accidents_j37 {x : kX} {l0 : Launch} {Q : State → Prop} (C : kCx x prog_14_method_108_code "PoetFinesModel" (some .int) kcl yM 8 l0 R0_mm_accidents) (σ : kM) (x1 : Int) (x2 : Int) (x3 : Int) {out : Int × kM} (h : mm_accidents_j37 σ x1 x2 x3 = some out) (hR : ∀ (r : Int) (τ : kM), out = (r, τ) → Q = kQ x (some (ki r)) τ 0 0) : KW x 0 0 Q σ 37 [some (kr 0), some (ki x1), some (ki x2), some (ki x3), none, none, none, none] [kr 0] := by
  unfold mm_accidents_j37 at h
  refine kw_iconst C (kdec dc_M_accidents 20 rfl) 38 rfl rfl ⟨by decide, by decide⟩ ?_
  exact bd_mm_accidents_j38 C σ x1 x2 x3 0 h hR
def mm_accidents (σ : kM) (x1 : Int) (x2 : Int) (x3 : Int) : Option (Int × kM) :=
  klet (kst σ 0 (kup (σ 0) 0 0)) fun σ_1 =>
  (mm_isPerson σ_1 x1).bind fun (r_2, σ_3) =>
  if r_2 = 0 then
    some ((0, σ_3))
  else
    (mm_within σ_3 x2 1 5).bind fun r_4 =>
    if r_4 = 0 then
      mm_accidents_j37 σ_3 x1 x2 x3
    else
      (mm_within σ_3 x3 0 10).bind fun r_28 =>
      if r_28 = 0 then
        mm_accidents_j37 σ_3 x1 x2 x3
      else
        mm_accidents_j38 σ_3 x1 x2 x3 1
set_option maxHeartbeats 4000000 in
theorem bd_mm_accidents {x : kX} {l0 : Launch} {Q : State → Prop} (C : kCx x prog_14_method_108_code "PoetFinesModel" (some .int) kcl yM 8 l0 R0_mm_accidents) (σ : kM) (x1 : Int) (x2 : Int) (x3 : Int) {out : Int × kM} (h : mm_accidents σ x1 x2 x3 = some out) (hR : ∀ (r : Int) (τ : kM), out = (r, τ) → Q = kQ x (some (ki r)) τ 0 0) : KW x 0 0 Q σ 0 [some (kr 0), some (ki x1), some (ki x2), some (ki x3), none, none, none, none] [] := by
  unfold mm_accidents at h
  refine kw_aload_n C (kdec dc_M_accidents 0 rfl) rfl 1 rfl rfl ?_
  refine kw_iconst C (kdec dc_M_accidents 1 rfl) 2 rfl rfl ⟨by decide, by decide⟩ ?_
  obtain ⟨σ_1, eσ_1, h⟩ := klet_h h
  refine kw_putI C (kdec dc_M_accidents 2 rfl) 5 rfl fp_M_M_99_0 ?_
  refine kw_sig eσ_1 ?_
  refine kw_aload_n C (kdec dc_M_accidents 3 rfl) rfl 6 rfl rfl ?_
  refine kw_iload_n C (kdec dc_M_accidents 4 rfl) rfl 7 rfl rfl ?_
  obtain ⟨⟨r_2, σ_3⟩, hg_31, h⟩ := kbind_h h
  dsimp only at h
  refine kw_callV (As := [ki x1]) C (kdec dc_M_accidents 5 rfl) 10 rfl cv_M_370 rfl rfl (mt_mm_isPerson l0 hg_31) ⟨rfl, rfl⟩ ⟨Nat.le_of_ble_eq_true rfl, Nat.le_of_ble_eq_true rfl⟩ ⟨Nat.zero_le _, Nat.zero_le _⟩ rfl (Nat.le_of_ble_eq_true rfl) ?_
  change KW x 0 0 Q σ_3 10 [some (kr 0), some (ki x1), some (ki x2), some (ki x3), none, none, none, none] [ki r_2]
  refine kw_if_eq C (kdec dc_M_accidents 6 rfl) 45 13 (by decide) rfl (fun hc10 => ?_) (fun hc10 => ?_)
  · rw [if_pos hc10] at h
    refine kw_iconst C (kdec dc_M_accidents 24 rfl) 46 rfl rfl ⟨by decide, by decide⟩ ?_
    obtain rfl := Option.some.inj h
    exact kw_Q (hR _ _ rfl) (kw_ireturn C (kdec dc_M_accidents 25 rfl))
  · rw [if_neg hc10] at h
    refine kw_aload_n C (kdec dc_M_accidents 7 rfl) rfl 14 rfl rfl ?_
    refine kw_iload_n C (kdec dc_M_accidents 8 rfl) rfl 15 rfl rfl ?_
    refine kw_iconst C (kdec dc_M_accidents 9 rfl) 16 rfl rfl ⟨by decide, by decide⟩ ?_
    refine kw_iconst C (kdec dc_M_accidents 10 rfl) 17 rfl rfl ⟨by decide, by decide⟩ ?_
    obtain ⟨r_4, hg_30, h⟩ := kbind_h h
    refine kw_callS (As := [ki x2, ki 1, ki 5]) C (kdec dc_M_accidents 11 rfl) 20 rfl cs_M_355 (mt_mm_within l0 hg_30) ⟨rfl, rfl⟩ ⟨Nat.le_of_ble_eq_true rfl, Nat.le_of_ble_eq_true rfl⟩ ⟨Nat.zero_le _, Nat.zero_le _⟩ rfl (Nat.le_of_ble_eq_true rfl) ?_
    change KW x 0 0 Q σ_3 20 [some (kr 0), some (ki x1), some (ki x2), some (ki x3), none, none, none, none] [ki r_4, kr 0]
    refine kw_if_eq C (kdec dc_M_accidents 12 rfl) 37 23 (by decide) rfl (fun hc20 => ?_) (fun hc20 => ?_)
    · rw [if_pos hc20] at h
      exact bd_mm_accidents_j37 C σ_3 x1 x2 x3 h hR
    · rw [if_neg hc20] at h
      refine kw_iload_n C (kdec dc_M_accidents 13 rfl) rfl 24 rfl rfl ?_
      refine kw_iconst C (kdec dc_M_accidents 14 rfl) 25 rfl rfl ⟨by decide, by decide⟩ ?_
      refine kw_bipush (v := 10) C (kdec dc_M_accidents 15 rfl) 27 rfl (by decide) ⟨by decide, by decide⟩ ?_
      obtain ⟨r_28, hg_29, h⟩ := kbind_h h
      refine kw_callS (As := [ki x3, ki 0, ki 10]) C (kdec dc_M_accidents 16 rfl) 30 rfl cs_M_355 (mt_mm_within l0 hg_29) ⟨rfl, rfl⟩ ⟨Nat.le_of_ble_eq_true rfl, Nat.le_of_ble_eq_true rfl⟩ ⟨Nat.zero_le _, Nat.zero_le _⟩ rfl (Nat.le_of_ble_eq_true rfl) ?_
      change KW x 0 0 Q σ_3 30 [some (kr 0), some (ki x1), some (ki x2), some (ki x3), none, none, none, none] [ki r_28, kr 0]
      refine kw_if_eq C (kdec dc_M_accidents 17 rfl) 37 33 (by decide) rfl (fun hc30 => ?_) (fun hc30 => ?_)
      · rw [if_pos hc30] at h
        exact bd_mm_accidents_j37 C σ_3 x1 x2 x3 h hR
      · rw [if_neg hc30] at h
        refine kw_iconst C (kdec dc_M_accidents 18 rfl) 34 rfl rfl ⟨by decide, by decide⟩ ?_
        refine kw_goto C (kdec dc_M_accidents 19 rfl) 38 (by decide) ?_
        exact bd_mm_accidents_j38 C σ_3 x1 x2 x3 1 h hR
theorem mt_mm_accidents (l0 : Launch) {σ : kM} {x1 : Int} {x2 : Int} {x3 : Int} {r : Int} {τ : kM} (h : mm_accidents σ x1 x2 x3 = some (r, τ)) : kMet l0 ky_M_accidents prog_14_method_108_code 8 (some .int) R0_mm_accidents kcl yM σ [kr 0, ki x1, ki x2, ki x3] (some (ki r)) τ := kMet.of' [some (kr 0), some (ki x1), some (ki x2), some (ki x3), none, none, none, none] (by decide) (Nat.le_of_ble_eq_true rfl) ⟨rfl, rfl, rfl, rfl, trivial⟩ (fun x C => bd_mm_accidents C σ x1 x2 x3 h (fun r τ e => by cases e; rfl))

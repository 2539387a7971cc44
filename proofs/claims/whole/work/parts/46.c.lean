def R0_pf_P_poet_0 : Room := ({ frames := 7, cells := 2, slots := 12, locals := 122 } : Room)
def pf_P_poet_0 (σ : kM) (x1 : Int) (x2 : Int) : Option ((String ⊕ Int) × kM) :=
  (pf_P_needPoet_0 σ x1).bind fun q_15 => match q_15 with
  | (.inl E_3, σ_1) => some (.inl E_3, σ_1)
  | (.inr _, σ_1) =>
    (pf_P_needWhat_0 σ_1 x2 4).bind fun q_14 => match q_14 with
    | (.inl E_6, σ_4) => some (.inl E_6, σ_4)
    | (.inr _, σ_4) =>
      if x2 = 0 then
        kchk (0 ≤ (w32 (49 + x1)) ∧ (w32 (49 + x1)) < 85) <|
        some ((.inr (σ_4 31 (w32 (49 + x1)).toNat), σ_4))
      else
        if x2 = 1 then
          kchk (0 ≤ x1 ∧ x1 < 4) <|
          some ((.inr (σ_4 4 x1.toNat), σ_4))
        else
          if x2 = 2 then
            kchk (0 ≤ (w32 (53 + x1)) ∧ (w32 (53 + x1)) < 85) <|
            some ((.inr (σ_4 31 (w32 (53 + x1)).toNat), σ_4))
          else
            if x2 = 3 then
              kchk (0 ≤ (w32 (57 + x1)) ∧ (w32 (57 + x1)) < 85) <|
              some ((.inr (σ_4 31 (w32 (57 + x1)).toNat), σ_4))
            else
              (pf_Court_nextHits_50 σ_4 x1).bind fun (r_11, σ_12) =>
              some ((.inr r_11, σ_12))
set_option maxHeartbeats 4000000 in
theorem bd_pf_P_poet_0 {x : kX} {l0 : Launch} {Q : State → Prop} (C : kCx x prog_1_method_7_code "PoetFines" (some .int) kcl yC 3 l0 R0_pf_P_poet_0) (hT : kTb x) (hfl : l0.stackTraces = false) (σ : kM) (x1 : Int) (x2 : Int) {out : (String ⊕ Int) × kM} (h : pf_P_poet_0 σ x1 x2 = some out) (hR : ∀ (r : Int) (τ : kM), out = (.inr r, τ) → Q = kQX x (.inr (some (ki r))) τ 2 12) (hE : ∀ (E : String) (τ : kM), out = (.inl E, τ) → Q = kQX x (.inl E) τ 2 12) : KW x 0 0 Q σ 0 [some (kr 0), some (ki x1), some (ki x2)] [] := by
  unfold pf_P_poet_0 at h
  refine kw_aload_n C (kdec dc_P_poet 0 rfl) rfl 1 rfl rfl ?_
  refine kw_iload_n C (kdec dc_P_poet 1 rfl) rfl 2 rfl rfl ?_
  obtain ⟨⟨q_15, σ_1⟩, hg_2, h⟩ := kbind_h h
  rcases q_15 with E_3 | _
  · dsimp only at h
    obtain rfl := Option.some.inj h
    exact kw_Q (hE _ _ rfl) (kw_callVX_t (As := [ki x1]) C hT (kdec dc_P_poet 2 rfl) cv_P_162 rfl rfl (me_pf_P_needPoet_0 l0 hfl hg_2) ⟨rfl, rfl⟩ ⟨Nat.le_of_ble_eq_true rfl, Nat.le_of_ble_eq_true rfl⟩ ⟨Nat.le_of_ble_eq_true rfl, Nat.le_of_ble_eq_true rfl⟩ rfl (Nat.le_of_ble_eq_true rfl) (Nat.le_of_ble_eq_true rfl) (Nat.le_of_ble_eq_true rfl))
  · dsimp only at h
    refine kw_callVX (As := [ki x1]) C (kdec dc_P_poet 2 rfl) 5 rfl cv_P_162 rfl rfl (mx_pf_P_needPoet_0 l0 hfl hg_2) ⟨rfl, rfl⟩ ⟨Nat.le_of_ble_eq_true rfl, Nat.le_of_ble_eq_true rfl⟩ ⟨Nat.le_of_ble_eq_true rfl, Nat.le_of_ble_eq_true rfl⟩ rfl (Nat.le_of_ble_eq_true rfl) ?_
    change KW x 1 6 Q σ_1 5 [some (kr 0), some (ki x1), some (ki x2)] []
    refine kw_aload_n C (kdec dc_P_poet 3 rfl) rfl 6 rfl rfl ?_
    refine kw_iload_n C (kdec dc_P_poet 4 rfl) rfl 7 rfl rfl ?_
    refine kw_iconst C (kdec dc_P_poet 5 rfl) 8 rfl rfl ⟨by decide, by decide⟩ ?_
    obtain ⟨⟨q_14, σ_4⟩, hg_5, h⟩ := kbind_h h
    rcases q_14 with E_6 | _
    · dsimp only at h
      obtain rfl := Option.some.inj h
      exact kw_Q (hE _ _ rfl) (kw_callVX_t (As := [ki x2, ki 4]) C hT (kdec dc_P_poet 6 rfl) cv_P_154 rfl rfl (me_pf_P_needWhat_0 l0 hfl hg_5) ⟨rfl, rfl⟩ ⟨Nat.le_of_ble_eq_true rfl, Nat.le_of_ble_eq_true rfl⟩ ⟨Nat.le_of_ble_eq_true rfl, Nat.le_of_ble_eq_true rfl⟩ rfl (Nat.le_of_ble_eq_true rfl) (Nat.le_of_ble_eq_true rfl) (Nat.le_of_ble_eq_true rfl))
    · dsimp only at h
      refine kw_callVX (As := [ki x2, ki 4]) C (kdec dc_P_poet 6 rfl) 11 rfl cv_P_154 rfl rfl (mx_pf_P_needWhat_0 l0 hfl hg_5) ⟨rfl, rfl⟩ ⟨Nat.le_of_ble_eq_true rfl, Nat.le_of_ble_eq_true rfl⟩ ⟨Nat.le_of_ble_eq_true rfl, Nat.le_of_ble_eq_true rfl⟩ rfl (Nat.le_of_ble_eq_true rfl) ?_
      change KW x 2 12 Q σ_4 11 [some (kr 0), some (ki x1), some (ki x2)] []
      refine kw_iload_n C (kdec dc_P_poet 7 rfl) rfl 12 rfl rfl ?_
      by_cases hc12_0 : x2 = 0
      · rw [if_pos hc12_0] at h
        refine kw_table C (kdec dc_P_poet 8 rfl) 44 (Or.inr ⟨by omega, by omega, _, by rw [hc12_0]; rfl, by decide⟩) ?_
        refine kw_aload_n C (kdec dc_P_poet 9 rfl) rfl 45 rfl rfl ?_
        refine kw_getR C (kdec dc_P_poet 10 rfl) 48 rfl fd_C_P_43_0 ?_
        refine kw_getR C (kdec dc_P_poet 11 rfl) 51 rfl fd_C_P_56_29 ?_
        refine kw_getR C (kdec dc_P_poet 12 rfl) 54 rfl fd_C_P_122_30 ?_
        refine kw_bipush (v := 49) C (kdec dc_P_poet 13 rfl) 56 rfl (by decide) ⟨by decide, by decide⟩ ?_
        refine kw_iload_n C (kdec dc_P_poet 14 rfl) rfl 57 rfl rfl ?_
        refine kw_iadd C (kdec dc_P_poet 15 rfl) 58 rfl ?_
        obtain ⟨hc_7, h⟩ := kchk_h h
        refine kw_iald C (kdec dc_P_poet 16 rfl) 59 rfl rfl hc_7.1 hc_7.2 ?_
        obtain rfl := Option.some.inj h
        exact kw_Q (hR _ _ rfl) (kw_xret (by decide) (by decide) (kw_ireturn C (kdec dc_P_poet 17 rfl)))
      · rw [if_neg hc12_0] at h
        by_cases hc12_1 : x2 = 1
        · rw [if_pos hc12_1] at h
          refine kw_table C (kdec dc_P_poet 8 rfl) 60 (Or.inr ⟨by omega, by omega, _, by rw [hc12_1]; rfl, by decide⟩) ?_
          refine kw_aload_n C (kdec dc_P_poet 18 rfl) rfl 61 rfl rfl ?_
          refine kw_getR C (kdec dc_P_poet 19 rfl) 64 rfl fd_C_P_27_0 ?_
          refine kw_getR C (kdec dc_P_poet 20 rfl) 67 rfl fd_C_P_165_3 ?_
          refine kw_iload_n C (kdec dc_P_poet 21 rfl) rfl 68 rfl rfl ?_
          obtain ⟨hc_8, h⟩ := kchk_h h
          refine kw_iald C (kdec dc_P_poet 22 rfl) 69 rfl rfl hc_8.1 hc_8.2 ?_
          obtain rfl := Option.some.inj h
          exact kw_Q (hR _ _ rfl) (kw_xret (by decide) (by decide) (kw_ireturn C (kdec dc_P_poet 23 rfl)))
        · rw [if_neg hc12_1] at h
          by_cases hc12_2 : x2 = 2
          · rw [if_pos hc12_2] at h
            refine kw_table C (kdec dc_P_poet 8 rfl) 70 (Or.inr ⟨by omega, by omega, _, by rw [hc12_2]; rfl, by decide⟩) ?_
            refine kw_aload_n C (kdec dc_P_poet 24 rfl) rfl 71 rfl rfl ?_
            refine kw_getR C (kdec dc_P_poet 25 rfl) 74 rfl fd_C_P_43_0 ?_
            refine kw_getR C (kdec dc_P_poet 26 rfl) 77 rfl fd_C_P_56_29 ?_
            refine kw_getR C (kdec dc_P_poet 27 rfl) 80 rfl fd_C_P_122_30 ?_
            refine kw_bipush (v := 53) C (kdec dc_P_poet 28 rfl) 82 rfl (by decide) ⟨by decide, by decide⟩ ?_
            refine kw_iload_n C (kdec dc_P_poet 29 rfl) rfl 83 rfl rfl ?_
            refine kw_iadd C (kdec dc_P_poet 30 rfl) 84 rfl ?_
            obtain ⟨hc_9, h⟩ := kchk_h h
            refine kw_iald C (kdec dc_P_poet 31 rfl) 85 rfl rfl hc_9.1 hc_9.2 ?_
            obtain rfl := Option.some.inj h
            exact kw_Q (hR _ _ rfl) (kw_xret (by decide) (by decide) (kw_ireturn C (kdec dc_P_poet 32 rfl)))
          · rw [if_neg hc12_2] at h
            by_cases hc12_3 : x2 = 3
            · rw [if_pos hc12_3] at h
              refine kw_table C (kdec dc_P_poet 8 rfl) 86 (Or.inr ⟨by omega, by omega, _, by rw [hc12_3]; rfl, by decide⟩) ?_
              refine kw_aload_n C (kdec dc_P_poet 33 rfl) rfl 87 rfl rfl ?_
              refine kw_getR C (kdec dc_P_poet 34 rfl) 90 rfl fd_C_P_43_0 ?_
              refine kw_getR C (kdec dc_P_poet 35 rfl) 93 rfl fd_C_P_56_29 ?_
              refine kw_getR C (kdec dc_P_poet 36 rfl) 96 rfl fd_C_P_122_30 ?_
              refine kw_bipush (v := 57) C (kdec dc_P_poet 37 rfl) 98 rfl (by decide) ⟨by decide, by decide⟩ ?_
              refine kw_iload_n C (kdec dc_P_poet 38 rfl) rfl 99 rfl rfl ?_
              refine kw_iadd C (kdec dc_P_poet 39 rfl) 100 rfl ?_
              obtain ⟨hc_10, h⟩ := kchk_h h
              refine kw_iald C (kdec dc_P_poet 40 rfl) 101 rfl rfl hc_10.1 hc_10.2 ?_
              obtain rfl := Option.some.inj h
              exact kw_Q (hR _ _ rfl) (kw_xret (by decide) (by decide) (kw_ireturn C (kdec dc_P_poet 41 rfl)))
            · rw [if_neg hc12_3] at h
              refine kw_table C (kdec dc_P_poet 8 rfl) 102 (Or.inl ⟨by omega, by decide⟩) ?_
              refine kw_aload_n C (kdec dc_P_poet 42 rfl) rfl 103 rfl rfl ?_
              refine kw_getR C (kdec dc_P_poet 43 rfl) 106 rfl fd_C_P_72_0 ?_
              refine kw_iload_n C (kdec dc_P_poet 44 rfl) rfl 107 rfl rfl ?_
              obtain ⟨⟨r_11, σ_12⟩, hg_13, h⟩ := kbind_h h
              dsimp only at h
              refine kw_callV (As := [ki x1]) C (kdec dc_P_poet 45 rfl) 110 rfl cv_P_168 rfl rfl (mt_pf_Court_nextHits_50 l0 hg_13) ⟨rfl, rfl⟩ ⟨Nat.le_of_ble_eq_true rfl, Nat.le_of_ble_eq_true rfl⟩ ⟨Nat.le_of_ble_eq_true rfl, Nat.le_of_ble_eq_true rfl⟩ rfl (Nat.le_of_ble_eq_true rfl) ?_
              change KW x 2 12 Q σ_12 110 [some (kr 0), some (ki x1), some (ki x2)] [ki r_11]
              obtain rfl := Option.some.inj h
              exact kw_Q (hR _ _ rfl) (kw_xret (by decide) (by decide) (kw_ireturn C (kdec dc_P_poet 46 rfl)))
theorem mx_pf_P_poet_0 (l0 : Launch) (hfl : l0.stackTraces = false) {σ : kM} {x1 : Int} {x2 : Int} {r : Int} {τ : kM} (h : pf_P_poet_0 σ x1 x2 = some (.inr r, τ)) : kXet l0 ky_P_poet prog_1_method_7_code 3 (some .int) R0_pf_P_poet_0 kcl yC σ [kr 0, ki x1, ki x2] (.inr (some (ki r))) τ 2 12 := kXet.of [some (kr 0), some (ki x1), some (ki x2)] (by decide) (Nat.le_of_ble_eq_true rfl) ⟨rfl, rfl, rfl, trivial⟩ (fun x C hT => bd_pf_P_poet_0 C hT hfl σ x1 x2 h (fun r τ e => by cases e; rfl) (fun E τ e => by cases e))
theorem me_pf_P_poet_0 (l0 : Launch) (hfl : l0.stackTraces = false) {σ : kM} {x1 : Int} {x2 : Int} {E : String} {τ : kM} (h : pf_P_poet_0 σ x1 x2 = some (.inl E, τ)) : kXet l0 ky_P_poet prog_1_method_7_code 3 (some .int) R0_pf_P_poet_0 kcl yC σ [kr 0, ki x1, ki x2] (.inl E) τ 2 12 := kXet.of [some (kr 0), some (ki x1), some (ki x2)] (by decide) (Nat.le_of_ble_eq_true rfl) ⟨rfl, rfl, rfl, trivial⟩ (fun x C hT => bd_pf_P_poet_0 C hT hfl σ x1 x2 h (fun r τ e => by cases e) (fun E τ e => by cases e; rfl))
def R0_pf_P_needLine_0 : Room := ({ frames := 7, cells := 2, slots := 12, locals := 121 } : Room)
def pf_P_needLine_0 (σ : kM) (x1 : Int) (x2 : Int) : Option ((String ⊕ Unit) × kM) :=
  (pf_P_needPoet_0 σ x1).bind fun q_5 => match q_5 with
  | (.inl E_3, σ_1) => some (.inl E_3, σ_1)
  | (.inr _, σ_1) =>
    if x2 < 0 then
      some (.inl "java/util/NoSuchElementException", σ_1)
    else
      kchk (0 ≤ x1 ∧ x1 < 4) <|
      if x2 < (σ_1 4 x1.toNat) then
        some ((.inr (), σ_1))
      else
        some (.inl "java/util/NoSuchElementException", σ_1)
set_option maxHeartbeats 4000000 in
theorem bd_pf_P_needLine_0 {x : kX} {l0 : Launch} {Q : State → Prop} (C : kCx x prog_1_method_44_code "PoetFines" none kcl yC 3 l0 R0_pf_P_needLine_0) (hT : kTb x) (hfl : l0.stackTraces = false) (σ : kM) (x1 : Int) (x2 : Int) {out : (String ⊕ Unit) × kM} (h : pf_P_needLine_0 σ x1 x2 = some out) (hR : ∀ (τ : kM), out = (.inr (), τ) → Q = kQX x (.inr none) τ 2 12) (hE : ∀ (E : String) (τ : kM), out = (.inl E, τ) → Q = kQX x (.inl E) τ 2 12) : KW x 0 0 Q σ 0 [some (kr 0), some (ki x1), some (ki x2)] [] := by
  unfold pf_P_needLine_0 at h
  refine kw_aload_n C (kdec dc_P_needLine 0 rfl) rfl 1 rfl rfl ?_
  refine kw_iload_n C (kdec dc_P_needLine 1 rfl) rfl 2 rfl rfl ?_
  obtain ⟨⟨q_5, σ_1⟩, hg_2, h⟩ := kbind_h h
  rcases q_5 with E_3 | _
  · dsimp only at h
    obtain rfl := Option.some.inj h
    exact kw_Q (hE _ _ rfl) (kw_callVX_t (As := [ki x1]) C hT (kdec dc_P_needLine 2 rfl) cv_P_162 rfl rfl (me_pf_P_needPoet_0 l0 hfl hg_2) ⟨rfl, rfl⟩ ⟨Nat.le_of_ble_eq_true rfl, Nat.le_of_ble_eq_true rfl⟩ ⟨Nat.le_of_ble_eq_true rfl, Nat.le_of_ble_eq_true rfl⟩ rfl (Nat.le_of_ble_eq_true rfl) (Nat.le_of_ble_eq_true rfl) (Nat.le_of_ble_eq_true rfl))
  · dsimp only at h
    refine kw_callVX (As := [ki x1]) C (kdec dc_P_needLine 2 rfl) 5 rfl cv_P_162 rfl rfl (mx_pf_P_needPoet_0 l0 hfl hg_2) ⟨rfl, rfl⟩ ⟨Nat.le_of_ble_eq_true rfl, Nat.le_of_ble_eq_true rfl⟩ ⟨Nat.le_of_ble_eq_true rfl, Nat.le_of_ble_eq_true rfl⟩ rfl (Nat.le_of_ble_eq_true rfl) ?_
    change KW x 1 6 Q σ_1 5 [some (kr 0), some (ki x1), some (ki x2)] []
    refine kw_iload_n C (kdec dc_P_needLine 3 rfl) rfl 6 rfl rfl ?_
    refine kw_if_lt C (kdec dc_P_needLine 4 rfl) 22 9 (by decide) rfl (fun hc6 => ?_) (fun hc6 => ?_)
    · rw [if_pos hc6] at h
      obtain rfl := Option.some.inj h
      exact kw_Q (hE _ _ rfl) (kw_throwW C hT hfl th_P_344_147 (kdec dc_P_needLine 12 rfl) (kdec dc_P_needLine 13 rfl) (kdec dc_P_needLine 14 rfl) (kdec dc_P_needLine 15 rfl) (kdec dc_P_needLine 16 rfl) (Nat.le_of_ble_eq_true rfl) ⟨Nat.le_of_ble_eq_true rfl, Nat.le_of_ble_eq_true rfl, Nat.le_of_ble_eq_true rfl, Nat.le_of_ble_eq_true rfl⟩ (Nat.le_of_ble_eq_true rfl) (Nat.le_of_ble_eq_true rfl))
    · rw [if_neg hc6] at h
      refine kw_iload_n C (kdec dc_P_needLine 5 rfl) rfl 10 rfl rfl ?_
      refine kw_aload_n C (kdec dc_P_needLine 6 rfl) rfl 11 rfl rfl ?_
      refine kw_getR C (kdec dc_P_needLine 7 rfl) 14 rfl fd_C_P_27_0 ?_
      refine kw_getR C (kdec dc_P_needLine 8 rfl) 17 rfl fd_C_P_165_3 ?_
      refine kw_iload_n C (kdec dc_P_needLine 9 rfl) rfl 18 rfl rfl ?_
      obtain ⟨hc_4, h⟩ := kchk_h h
      refine kw_iald C (kdec dc_P_needLine 10 rfl) 19 rfl rfl hc_4.1 hc_4.2 ?_
      refine kw_icmp_lt C (kdec dc_P_needLine 11 rfl) 33 22 (by decide) rfl (fun hc19 => ?_) (fun hc19 => ?_)
      · rw [if_pos hc19] at h
        obtain rfl := Option.some.inj h
        exact kw_Q (hR _ rfl) (kw_xret (by decide) (by decide) (kw_return C (kdec dc_P_needLine 17 rfl)))
      · rw [if_neg hc19] at h
        obtain rfl := Option.some.inj h
        exact kw_Q (hE _ _ rfl) (kw_throwW C hT hfl th_P_344_147 (kdec dc_P_needLine 12 rfl) (kdec dc_P_needLine 13 rfl) (kdec dc_P_needLine 14 rfl) (kdec dc_P_needLine 15 rfl) (kdec dc_P_needLine 16 rfl) (Nat.le_of_ble_eq_true rfl) ⟨Nat.le_of_ble_eq_true rfl, Nat.le_of_ble_eq_true rfl, Nat.le_of_ble_eq_true rfl, Nat.le_of_ble_eq_true rfl⟩ (Nat.le_of_ble_eq_true rfl) (Nat.le_of_ble_eq_true rfl))
theorem mx_pf_P_needLine_0 (l0 : Launch) (hfl : l0.stackTraces = false) {σ : kM} {x1 : Int} {x2 : Int} {τ : kM} (h : pf_P_needLine_0 σ x1 x2 = some (.inr (), τ)) : kXet l0 ky_P_needLine prog_1_method_44_code 3 none R0_pf_P_needLine_0 kcl yC σ [kr 0, ki x1, ki x2] (.inr none) τ 2 12 := kXet.of [some (kr 0), some (ki x1), some (ki x2)] (by decide) (Nat.le_of_ble_eq_true rfl) ⟨rfl, rfl, rfl, trivial⟩ (fun x C hT => bd_pf_P_needLine_0 C hT hfl σ x1 x2 h (fun τ e => by cases e; rfl) (fun E τ e => by cases e))
theorem me_pf_P_needLine_0 (l0 : Launch) (hfl : l0.stackTraces = false) {σ : kM} {x1 : Int} {x2 : Int} {E : String} {τ : kM} (h : pf_P_needLine_0 σ x1 x2 = some (.inl E, τ)) : kXet l0 ky_P_needLine prog_1_method_44_code 3 none R0_pf_P_needLine_0 kcl yC σ [kr 0, ki x1, ki x2] (.inl E) τ 2 12 := kXet.of [some (kr 0), some (ki x1), some (ki x2)] (by decide) (Nat.le_of_ble_eq_true rfl) ⟨rfl, rfl, rfl, trivial⟩ (fun x C hT => bd_pf_P_needLine_0 C hT hfl σ x1 x2 h (fun τ e => by cases e) (fun E τ e => by cases e; rfl))
def R0_pf_Law_rhymes_3 : Room := ({ frames := 1, cells := 0, slots := 0, locals := 22 } : Room)
def pf_Law_rhymes_3_j22 (σ : kM) (x1 : Int) (x2 : Int) (s0 : Int) : Option (Int) :=
  (pf_Law_topicOf_3 σ x1 x2).bind fun r_2 =>
  (pf_Law_topicOf_3 σ x1 s0).bind fun r_3 =>
  if r_2 = r_3 then
    some 1
  else
    some 0
set_option maxHeartbeats 4000000 in
theorem bd_pf_Law_rhymes_3_j22 {x : kX} {l0 : Launch} {Q : State → Prop} (C : kCx x prog_4_method_9_code "PoetFines$Law" (some .int) kcl yC 4 l0 R0_pf_Law_rhymes_3) (σ : kM) (x1 : Int) (x2 : Int) (s0 : Int) {out : Int} (h : pf_Law_rhymes_3_j22 σ x1 x2 s0 = some out) (hR : ∀ (r : Int), out = r → Q = kQ x (some (ki r)) σ 0 0) : KW x 0 0 Q σ 22 [some (kr 3), some (ki x1), some (ki x2), none] [ki s0] := by
  unfold pf_Law_rhymes_3_j22 at h
  refine kw_istore_n (L' := [some (kr 3), some (ki x1), some (ki x2), some (ki s0)]) C (kdec dc_Law_rhymes 14 rfl) rfl 23 rfl (by decide) rfl rfl ?_
  refine kw_aload_n C (kdec dc_Law_rhymes 15 rfl) rfl 24 rfl rfl ?_
  refine kw_iload_n C (kdec dc_Law_rhymes 16 rfl) rfl 25 rfl rfl ?_
  refine kw_iload_n C (kdec dc_Law_rhymes 17 rfl) rfl 26 rfl rfl ?_
  obtain ⟨r_2, hg_5, h⟩ := kbind_h h
  refine kw_callV (As := [ki x1, ki x2]) C (kdec dc_Law_rhymes 18 rfl) 29 rfl cv_Law_57 rfl rfl (mt_pf_Law_topicOf_3 l0 hg_5) ⟨rfl, rfl⟩ ⟨Nat.le_of_ble_eq_true rfl, Nat.le_of_ble_eq_true rfl⟩ ⟨Nat.zero_le _, Nat.zero_le _⟩ rfl (Nat.le_of_ble_eq_true rfl) ?_
  change KW x 0 0 Q σ 29 [some (kr 3), some (ki x1), some (ki x2), some (ki s0)] [ki r_2]
  refine kw_aload_n C (kdec dc_Law_rhymes 19 rfl) rfl 30 rfl rfl ?_
  refine kw_iload_n C (kdec dc_Law_rhymes 20 rfl) rfl 31 rfl rfl ?_
  refine kw_iload_n C (kdec dc_Law_rhymes 21 rfl) rfl 32 rfl rfl ?_
  obtain ⟨r_3, hg_4, h⟩ := kbind_h h
  refine kw_callV (As := [ki x1, ki s0]) C (kdec dc_Law_rhymes 22 rfl) 35 rfl cv_Law_57 rfl rfl (mt_pf_Law_topicOf_3 l0 hg_4) ⟨rfl, rfl⟩ ⟨Nat.le_of_ble_eq_true rfl, Nat.le_of_ble_eq_true rfl⟩ ⟨Nat.zero_le _, Nat.zero_le _⟩ rfl (Nat.le_of_ble_eq_true rfl) ?_
  change KW x 0 0 Q σ 35 [some (kr 3), some (ki x1), some (ki x2), some (ki s0)] [ki r_3, ki r_2]
  refine kw_icmp_ne C (kdec dc_Law_rhymes 23 rfl) 42 38 (by decide) rfl (fun hc35 => ?_) (fun hc35 => ?_)
  · rw [if_neg hc35] at h
    refine kw_iconst C (kdec dc_Law_rhymes 26 rfl) 43 rfl rfl ⟨by decide, by decide⟩ ?_
    obtain rfl := Option.some.inj h
    exact kw_Q (hR _ rfl) (kw_ireturn C (kdec dc_Law_rhymes 27 rfl))
  · rw [if_pos hc35] at h
    refine kw_iconst C (kdec dc_Law_rhymes 24 rfl) 39 rfl rfl ⟨by decide, by decide⟩ ?_
    refine kw_goto C (kdec dc_Law_rhymes 25 rfl) 43 (by decide) ?_
    obtain rfl := Option.some.inj h
    exact kw_Q (hR _ rfl) (kw_ireturn C (kdec dc_Law_rhymes 27 rfl))
def pf_Law_rhymes_3 (σ : kM) (x1 : Int) (x2 : Int) : Option (Int) :=
  if x2 ≤ 0 then
    kchk (0 ≤ x1 ∧ x1 < 4) <|
    pf_Law_rhymes_3_j22 σ x1 x2 (max (w32 ((σ 4 x1.toNat) - 1)) 0)
  else
    pf_Law_rhymes_3_j22 σ x1 x2 (w32 (x2 - 1))
set_option maxHeartbeats 4000000 in
theorem bd_pf_Law_rhymes_3 {x : kX} {l0 : Launch} {Q : State → Prop} (C : kCx x prog_4_method_9_code "PoetFines$Law" (some .int) kcl yC 4 l0 R0_pf_Law_rhymes_3) (σ : kM) (x1 : Int) (x2 : Int) {out : Int} (h : pf_Law_rhymes_3 σ x1 x2 = some out) (hR : ∀ (r : Int), out = r → Q = kQ x (some (ki r)) σ 0 0) : KW x 0 0 Q σ 0 [some (kr 3), some (ki x1), some (ki x2), none] [] := by
  unfold pf_Law_rhymes_3 at h
  refine kw_iload_n C (kdec dc_Law_rhymes 0 rfl) rfl 1 rfl rfl ?_
  refine kw_if_le C (kdec dc_Law_rhymes 1 rfl) 10 4 (by decide) rfl (fun hc1 => ?_) (fun hc1 => ?_)
  · rw [if_pos hc1] at h
    refine kw_aload_n C (kdec dc_Law_rhymes 6 rfl) rfl 11 rfl rfl ?_
    refine kw_getR C (kdec dc_Law_rhymes 7 rfl) 14 rfl fd_C_Law_21_3 ?_
    refine kw_iload_n C (kdec dc_Law_rhymes 8 rfl) rfl 15 rfl rfl ?_
    obtain ⟨hc_1, h⟩ := kchk_h h
    refine kw_iald C (kdec dc_Law_rhymes 9 rfl) 16 rfl rfl hc_1.1 hc_1.2 ?_
    refine kw_iconst C (kdec dc_Law_rhymes 10 rfl) 17 rfl rfl ⟨by decide, by decide⟩ ?_
    refine kw_isub C (kdec dc_Law_rhymes 11 rfl) 18 rfl ?_
    refine kw_iconst C (kdec dc_Law_rhymes 12 rfl) 19 rfl rfl ⟨by decide, by decide⟩ ?_
    refine kw_max C (kdec dc_Law_rhymes 13 rfl) 22 rfl cm_Law_51 ⟨Nat.le_of_ble_eq_true rfl, Nat.le_of_ble_eq_true rfl⟩ ⟨Nat.zero_le _, Nat.zero_le _⟩ (Nat.le_of_ble_eq_true rfl) ?_
    exact bd_pf_Law_rhymes_3_j22 C σ x1 x2 (max (w32 ((σ 4 x1.toNat) - 1)) 0) h hR
  · rw [if_neg hc1] at h
    refine kw_iload_n C (kdec dc_Law_rhymes 2 rfl) rfl 5 rfl rfl ?_
    refine kw_iconst C (kdec dc_Law_rhymes 3 rfl) 6 rfl rfl ⟨by decide, by decide⟩ ?_
    refine kw_isub C (kdec dc_Law_rhymes 4 rfl) 7 rfl ?_
    refine kw_goto C (kdec dc_Law_rhymes 5 rfl) 22 (by decide) ?_
    exact bd_pf_Law_rhymes_3_j22 C σ x1 x2 (w32 (x2 - 1)) h hR
theorem mt_pf_Law_rhymes_3 (l0 : Launch) {σ : kM} {x1 : Int} {x2 : Int} {r : Int} (h : pf_Law_rhymes_3 σ x1 x2 = some r) : kMet l0 ky_Law_rhymes prog_4_method_9_code 4 (some .int) R0_pf_Law_rhymes_3 kcl yC σ [kr 3, ki x1, ki x2] (some (ki r)) σ := kMet.of' [some (kr 3), some (ki x1), some (ki x2), none] (by decide) (Nat.le_of_ble_eq_true rfl) ⟨rfl, rfl, rfl, trivial⟩ (fun x C => bd_pf_Law_rhymes_3 C σ x1 x2 h (fun r e => by subst e; rfl))
def R0_pf_Stage_fineFor_43 : Room := ({ frames := 2, cells := 0, slots := 0, locals := 47 } : Room)
def pf_Stage_fineFor_43 (σ : kM) (x1 : Int) (x2 : Int) (x3 : Int) (x4 : Int) : Option (Int × kM) :=
  (pf_Rules_has_7 σ 1).bind fun r_1 =>
  if r_1 = 0 then
    some ((x4, σ))
  else
    kchk (0 ≤ (w32 (49 + x1)) ∧ (w32 (49 + x1)) < 85) <|
    (pf_Stage_setValues_43 σ x1 x2 (σ 31 (w32 (49 + x1)).toNat)).bind fun σ_3 =>
    klet (kst σ_3 49 (kup (σ_3 49) ((6 : Int).toNat) x4)) fun σ_4 =>
    (pf_Law_rhymes_3 σ_4 x1 x3).bind fun r_5 =>
    klet (kst σ_4 49 (kup (σ_4 49) ((7 : Int).toNat) r_5)) fun σ_6 =>
    (pf_Rules_worth_7_49 σ_6 1).bind fun (r_7, σ_8) =>
    (pf_Stage_within σ_8 r_7 20).bind fun r_9 =>
    some ((r_9, σ_8))
set_option maxHeartbeats 4000000 in
theorem bd_pf_Stage_fineFor_43 {x : kX} {l0 : Launch} {Q : State → Prop} (C : kCx x prog_8_method_3_code "PoetFines$Stage" (some .int) kcl yC 5 l0 R0_pf_Stage_fineFor_43) (σ : kM) (x1 : Int) (x2 : Int) (x3 : Int) (x4 : Int) {out : Int × kM} (h : pf_Stage_fineFor_43 σ x1 x2 x3 x4 = some out) (hR : ∀ (r : Int) (τ : kM), out = (r, τ) → Q = kQ x (some (ki r)) τ 0 0) : KW x 0 0 Q σ 0 [some (kr 43), some (ki x1), some (ki x2), some (ki x3), some (ki x4)] [] := by
  unfold pf_Stage_fineFor_43 at h
  refine kw_aload_n C (kdec dc_Stage_fineFor 0 rfl) rfl 1 rfl rfl ?_
  refine kw_getR C (kdec dc_Stage_fineFor 1 rfl) 4 rfl fd_C_Stage_24_43 ?_
  refine kw_getR C (kdec dc_Stage_fineFor 2 rfl) 7 rfl fd_C_Stage_38_3 ?_
  refine kw_iconst C (kdec dc_Stage_fineFor 3 rfl) 8 rfl rfl ⟨by decide, by decide⟩ ?_
  obtain ⟨r_1, hg_14, h⟩ := kbind_h h
  refine kw_callV (As := [ki 1]) C (kdec dc_Stage_fineFor 4 rfl) 11 rfl cv_Stage_42 rfl rfl (mt_pf_Rules_has_7 l0 hg_14) ⟨rfl, rfl⟩ ⟨Nat.le_of_ble_eq_true rfl, Nat.le_of_ble_eq_true rfl⟩ ⟨Nat.zero_le _, Nat.zero_le _⟩ rfl (Nat.le_of_ble_eq_true rfl) ?_
  change KW x 0 0 Q σ 11 [some (kr 43), some (ki x1), some (ki x2), some (ki x3), some (ki x4)] [ki r_1]
  refine kw_if_ne C (kdec dc_Stage_fineFor 5 rfl) 17 14 (by decide) rfl (fun hc11 => ?_) (fun hc11 => ?_)
  · rw [if_neg hc11] at h
    refine kw_aload_n C (kdec dc_Stage_fineFor 8 rfl) rfl 18 rfl rfl ?_
    refine kw_iload_n C (kdec dc_Stage_fineFor 9 rfl) rfl 19 rfl rfl ?_
    refine kw_iload_n C (kdec dc_Stage_fineFor 10 rfl) rfl 20 rfl rfl ?_
    refine kw_aload_n C (kdec dc_Stage_fineFor 11 rfl) rfl 21 rfl rfl ?_
    refine kw_getR C (kdec dc_Stage_fineFor 12 rfl) 24 rfl fd_C_Stage_28_43 ?_
    refine kw_getR C (kdec dc_Stage_fineFor 13 rfl) 27 rfl fd_C_Stage_51_30 ?_
    refine kw_bipush (v := 49) C (kdec dc_Stage_fineFor 14 rfl) 29 rfl (by decide) ⟨by decide, by decide⟩ ?_
    refine kw_iload_n C (kdec dc_Stage_fineFor 15 rfl) rfl 30 rfl rfl ?_
    refine kw_iadd C (kdec dc_Stage_fineFor 16 rfl) 31 rfl ?_
    obtain ⟨hc_2, h⟩ := kchk_h h
    refine kw_iald C (kdec dc_Stage_fineFor 17 rfl) 32 rfl rfl hc_2.1 hc_2.2 ?_
    obtain ⟨σ_3, hg_13, h⟩ := kbind_h h
    refine kw_callV (As := [ki x1, ki x2, ki (σ 31 (w32 (49 + x1)).toNat)]) C (kdec dc_Stage_fineFor 18 rfl) 35 rfl cv_Stage_56 rfl rfl (mt_pf_Stage_setValues_43 l0 hg_13) ⟨rfl, rfl⟩ ⟨Nat.le_of_ble_eq_true rfl, Nat.le_of_ble_eq_true rfl⟩ ⟨Nat.zero_le _, Nat.zero_le _⟩ rfl (Nat.le_of_ble_eq_true rfl) ?_
    change KW x 0 0 Q σ_3 35 [some (kr 43), some (ki x1), some (ki x2), some (ki x3), some (ki x4)] []
    refine kw_aload_n C (kdec dc_Stage_fineFor 19 rfl) rfl 36 rfl rfl ?_
    refine kw_getR C (kdec dc_Stage_fineFor 20 rfl) 39 rfl fd_C_Stage_20_43 ?_
    refine kw_bipush (v := 6) C (kdec dc_Stage_fineFor 21 rfl) 41 rfl (by decide) ⟨by decide, by decide⟩ ?_
    refine kw_iload C (kdec dc_Stage_fineFor 22 rfl) 43 rfl rfl ?_
    obtain ⟨σ_4, eσ_4, h⟩ := klet_h h
    refine kw_iast C (kdec dc_Stage_fineFor 23 rfl) 44 rfl rfl (by decide) (by decide) ?_
    refine kw_sig eσ_4 ?_
    refine kw_aload_n C (kdec dc_Stage_fineFor 24 rfl) rfl 45 rfl rfl ?_
    refine kw_getR C (kdec dc_Stage_fineFor 25 rfl) 48 rfl fd_C_Stage_20_43 ?_
    refine kw_bipush (v := 7) C (kdec dc_Stage_fineFor 26 rfl) 50 rfl (by decide) ⟨by decide, by decide⟩ ?_
    refine kw_aload_n C (kdec dc_Stage_fineFor 27 rfl) rfl 51 rfl rfl ?_
    refine kw_getR C (kdec dc_Stage_fineFor 28 rfl) 54 rfl fd_C_Stage_24_43 ?_
    refine kw_iload_n C (kdec dc_Stage_fineFor 29 rfl) rfl 55 rfl rfl ?_
    refine kw_iload_n C (kdec dc_Stage_fineFor 30 rfl) rfl 56 rfl rfl ?_
    obtain ⟨r_5, hg_12, h⟩ := kbind_h h
    refine kw_callV (As := [ki x1, ki x3]) C (kdec dc_Stage_fineFor 31 rfl) 59 rfl cv_Stage_67 rfl rfl (mt_pf_Law_rhymes_3 l0 hg_12) ⟨rfl, rfl⟩ ⟨Nat.le_of_ble_eq_true rfl, Nat.le_of_ble_eq_true rfl⟩ ⟨Nat.zero_le _, Nat.zero_le _⟩ rfl (Nat.le_of_ble_eq_true rfl) ?_
    change KW x 0 0 Q σ_4 59 [some (kr 43), some (ki x1), some (ki x2), some (ki x3), some (ki x4)] [ki r_5, ki 7, kr 49]
    obtain ⟨σ_6, eσ_6, h⟩ := klet_h h
    refine kw_iast C (kdec dc_Stage_fineFor 32 rfl) 60 rfl rfl (by decide) (by decide) ?_
    refine kw_sig eσ_6 ?_
    refine kw_aload_n C (kdec dc_Stage_fineFor 33 rfl) rfl 61 rfl rfl ?_
    refine kw_getR C (kdec dc_Stage_fineFor 34 rfl) 64 rfl fd_C_Stage_24_43 ?_
    refine kw_getR C (kdec dc_Stage_fineFor 35 rfl) 67 rfl fd_C_Stage_38_3 ?_
    refine kw_iconst C (kdec dc_Stage_fineFor 36 rfl) 68 rfl rfl ⟨by decide, by decide⟩ ?_
    refine kw_aload_n C (kdec dc_Stage_fineFor 37 rfl) rfl 69 rfl rfl ?_
    refine kw_getR C (kdec dc_Stage_fineFor 38 rfl) 72 rfl fd_C_Stage_20_43 ?_
    obtain ⟨⟨r_7, σ_8⟩, hg_11, h⟩ := kbind_h h
    dsimp only at h
    refine kw_callV (As := [ki 1, kr 49]) C (kdec dc_Stage_fineFor 39 rfl) 75 rfl cv_Stage_60 rfl rfl (mt_pf_Rules_worth_7_49 l0 hg_11) ⟨rfl, rfl⟩ ⟨Nat.le_of_ble_eq_true rfl, Nat.le_of_ble_eq_true rfl⟩ ⟨Nat.zero_le _, Nat.zero_le _⟩ rfl (Nat.le_of_ble_eq_true rfl) ?_
    change KW x 0 0 Q σ_8 75 [some (kr 43), some (ki x1), some (ki x2), some (ki x3), some (ki x4)] [ki r_7]
    refine kw_bipush (v := 20) C (kdec dc_Stage_fineFor 40 rfl) 77 rfl (by decide) ⟨by decide, by decide⟩ ?_
    obtain ⟨r_9, hg_10, h⟩ := kbind_h h
    refine kw_callS (As := [ki r_7, ki 20]) C (kdec dc_Stage_fineFor 41 rfl) 80 rfl cs_Stage_64 (mt_pf_Stage_within l0 hg_10) ⟨rfl, rfl⟩ ⟨Nat.le_of_ble_eq_true rfl, Nat.le_of_ble_eq_true rfl⟩ ⟨Nat.zero_le _, Nat.zero_le _⟩ rfl (Nat.le_of_ble_eq_true rfl) ?_
    change KW x 0 0 Q σ_8 80 [some (kr 43), some (ki x1), some (ki x2), some (ki x3), some (ki x4)] [ki r_9]
    obtain rfl := Option.some.inj h
    exact kw_Q (hR _ _ rfl) (kw_ireturn C (kdec dc_Stage_fineFor 42 rfl))
  · rw [if_pos hc11] at h
    refine kw_iload C (kdec dc_Stage_fineFor 6 rfl) 16 rfl rfl ?_
    obtain rfl := Option.some.inj h
    exact kw_Q (hR _ _ rfl) (kw_ireturn C (kdec dc_Stage_fineFor 7 rfl))
theorem mt_pf_Stage_fineFor_43 (l0 : Launch) {σ : kM} {x1 : Int} {x2 : Int} {x3 : Int} {x4 : Int} {r : Int} {τ : kM} (h : pf_Stage_fineFor_43 σ x1 x2 x3 x4 = some (r, τ)) : kMet l0 ky_Stage_fineFor prog_8_method_3_code 5 (some .int) R0_pf_Stage_fineFor_43 kcl yC σ [kr 43, ki x1, ki x2, ki x3, ki x4] (some (ki r)) τ := kMet.of' [some (kr 43), some (ki x1), some (ki x2), some (ki x3), some (ki x4)] (by decide) (Nat.le_of_ble_eq_true rfl) ⟨rfl, rfl, rfl, rfl, rfl, trivial⟩ (fun x C => bd_pf_Stage_fineFor_43 C σ x1 x2 x3 x4 h (fun r τ e => by cases e; rfl))
def R0_pf_Court_fineNow_50 : Room := ({ frames := 4, cells := 0, slots := 0, locals := 95 } : Room)
def pf_Court_fineNow_50 (σ : kM) (x1 : Int) (x2 : Int) (x3 : Int) : Option (Int × kM) :=
  (pf_Court_inchesNow_50 σ x1 x2 x3).bind fun (r_1, σ_2) =>
  if r_1 ≤ 0 then
    some ((0, σ_2))
  else
    (pf_Stage_fineFor_43 σ_2 x1 x2 x3 r_1).bind fun (r_3, σ_4) =>
    some ((r_3, σ_4))
set_option maxHeartbeats 4000000 in
theorem bd_pf_Court_fineNow_50 {x : kX} {l0 : Launch} {Q : State → Prop} (C : kCx x prog_3_method_15_code "PoetFines$Court" (some .int) kcl yC 5 l0 R0_pf_Court_fineNow_50) (σ : kM) (x1 : Int) (x2 : Int) (x3 : Int) {out : Int × kM} (h : pf_Court_fineNow_50 σ x1 x2 x3 = some out) (hR : ∀ (r : Int) (τ : kM), out = (r, τ) → Q = kQ x (some (ki r)) τ 0 0) : KW x 0 0 Q σ 0 [some (kr 50), some (ki x1), some (ki x2), some (ki x3), none] [] := by
  unfold pf_Court_fineNow_50 at h
  refine kw_aload_n C (kdec dc_Court_fineNow 0 rfl) rfl 1 rfl rfl ?_
  refine kw_iload_n C (kdec dc_Court_fineNow 1 rfl) rfl 2 rfl rfl ?_
  refine kw_iload_n C (kdec dc_Court_fineNow 2 rfl) rfl 3 rfl rfl ?_
  refine kw_iload_n C (kdec dc_Court_fineNow 3 rfl) rfl 4 rfl rfl ?_
  obtain ⟨⟨r_1, σ_2⟩, hg_6, h⟩ := kbind_h h
  dsimp only at h
  refine kw_callV (As := [ki x1, ki x2, ki x3]) C (kdec dc_Court_fineNow 4 rfl) 7 rfl cv_Court_58 rfl rfl (mt_pf_Court_inchesNow_50 l0 hg_6) ⟨rfl, rfl⟩ ⟨Nat.le_of_ble_eq_true rfl, Nat.le_of_ble_eq_true rfl⟩ ⟨Nat.zero_le _, Nat.zero_le _⟩ rfl (Nat.le_of_ble_eq_true rfl) ?_
  change KW x 0 0 Q σ_2 7 [some (kr 50), some (ki x1), some (ki x2), some (ki x3), none] [ki r_1]
  refine kw_istore (L' := [some (kr 50), some (ki x1), some (ki x2), some (ki x3), some (ki r_1)]) C (kdec dc_Court_fineNow 5 rfl) 9 rfl (by decide) rfl rfl ?_
  refine kw_iload C (kdec dc_Court_fineNow 6 rfl) 11 rfl rfl ?_
  refine kw_if_le C (kdec dc_Court_fineNow 7 rfl) 29 14 (by decide) rfl (fun hc11 => ?_) (fun hc11 => ?_)
  · rw [if_pos hc11] at h
    refine kw_iconst C (kdec dc_Court_fineNow 16 rfl) 30 rfl rfl ⟨by decide, by decide⟩ ?_
    obtain rfl := Option.some.inj h
    exact kw_Q (hR _ _ rfl) (kw_ireturn C (kdec dc_Court_fineNow 17 rfl))
  · rw [if_neg hc11] at h
    refine kw_aload_n C (kdec dc_Court_fineNow 8 rfl) rfl 15 rfl rfl ?_
    refine kw_getR C (kdec dc_Court_fineNow 9 rfl) 18 rfl fd_C_Court_38_50 ?_
    refine kw_iload_n C (kdec dc_Court_fineNow 10 rfl) rfl 19 rfl rfl ?_
    refine kw_iload_n C (kdec dc_Court_fineNow 11 rfl) rfl 20 rfl rfl ?_
    refine kw_iload_n C (kdec dc_Court_fineNow 12 rfl) rfl 21 rfl rfl ?_
    refine kw_iload C (kdec dc_Court_fineNow 13 rfl) 23 rfl rfl ?_
    obtain ⟨⟨r_3, σ_4⟩, hg_5, h⟩ := kbind_h h
    dsimp only at h
    refine kw_callV (As := [ki x1, ki x2, ki x3, ki r_1]) C (kdec dc_Court_fineNow 14 rfl) 26 rfl cv_Court_127 rfl rfl (mt_pf_Stage_fineFor_43 l0 hg_5) ⟨rfl, rfl⟩ ⟨Nat.le_of_ble_eq_true rfl, Nat.le_of_ble_eq_true rfl⟩ ⟨Nat.zero_le _, Nat.zero_le _⟩ rfl (Nat.le_of_ble_eq_true rfl) ?_
    change KW x 0 0 Q σ_4 26 [some (kr 50), some (ki x1), some (ki x2), some (ki x3), some (ki r_1)] [ki r_3]
    refine kw_goto C (kdec dc_Court_fineNow 15 rfl) 30 (by decide) ?_
    obtain rfl := Option.some.inj h
    exact kw_Q (hR _ _ rfl) (kw_ireturn C (kdec dc_Court_fineNow 17 rfl))
theorem mt_pf_Court_fineNow_50 (l0 : Launch) {σ : kM} {x1 : Int} {x2 : Int} {x3 : Int} {r : Int} {τ : kM} (h : pf_Court_fineNow_50 σ x1 x2 x3 = some (r, τ)) : kMet l0 ky_Court_fineNow prog_3_method_15_code 5 (some .int) R0_pf_Court_fineNow_50 kcl yC σ [kr 50, ki x1, ki x2, ki x3] (some (ki r)) τ := kMet.of' [some (kr 50), some (ki x1), some (ki x2), some (ki x3), none] (by decide) (Nat.le_of_ble_eq_true rfl) ⟨rfl, rfl, rfl, rfl, trivial⟩ (fun x C => bd_pf_Court_fineNow_50 C σ x1 x2 x3 h (fun r τ e => by cases e; rfl))
def R0_pf_Court_fineOfLine_50 : Room := ({ frames := 5, cells := 0, slots := 0, locals := 119 } : Room)
def pf_Court_fineOfLine_50_l5 (σ : kM) (x1 : Int) (x2 : Int) (x3 : Int) (x4 : Int) : Option ((kM × Int × Int) ⊕ ((kM × Int))) :=
  if (σ 3 1) ≤ x4 then
    some (Sum.inr (σ, x3))
  else
    (pf_Court_fineNow_50 σ x1 x4 x2).bind fun (r_1, σ_2) =>
    klet (w32 (x3 + r_1)) fun x3_3 =>
    klet (w32 (x4 + 1)) fun x4_4 =>
    some (Sum.inl (σ_2, x3_3, x4_4))
set_option maxHeartbeats 4000000 in
theorem bd_pf_Court_fineOfLine_50_l5 {x : kX} {l0 : Launch} {Q : State → Prop} (C : kCx x prog_3_method_4_code "PoetFines$Court" (some .int) kcl yC 5 l0 R0_pf_Court_fineOfLine_50) (σ : kM) (x1 : Int) (x2 : Int) (x3 : Int) (x4 : Int) {out : (kM × Int × Int) ⊕ ((kM × Int))} (h : pf_Court_fineOfLine_50_l5 σ x1 x2 x3 x4 = some out) (hC : ∀ (σ' : kM) (x3' : Int) (x4' : Int), out = Sum.inl (σ', x3', x4') → KW x 0 0 Q σ' 5 [some (kr 50), some (ki x1), some (ki x2), some (ki x3'), some (ki x4')] []) (hX34 : ∀ (σ' : kM) (x3' : Int), out = Sum.inr (σ', x3') → KW x 0 0 Q σ' 34 [none, none, none, some (ki x3'), none] []) : KW x 0 0 Q σ 5 [some (kr 50), some (ki x1), some (ki x2), some (ki x3), some (ki x4)] [] := by
  unfold pf_Court_fineOfLine_50_l5 at h
  refine kw_iload C (kdec dc_Court_fineOfLine 4 rfl) 7 rfl rfl ?_
  refine kw_aload_n C (kdec dc_Court_fineOfLine 5 rfl) rfl 8 rfl rfl ?_
  refine kw_getR C (kdec dc_Court_fineOfLine 6 rfl) 11 rfl fd_C_Court_34_50 ?_
  refine kw_getI C (kdec dc_Court_fineOfLine 7 rfl) 14 rfl fd_C_Court_53_3 ?_
  refine kw_icmp_ge C (kdec dc_Court_fineOfLine 8 rfl) 34 17 (by decide) rfl (fun hc14 => ?_) (fun hc14 => ?_)
  · rw [if_pos hc14] at h
    obtain rfl := Option.some.inj h
    exact kw_sub (L' := [none, none, none, some (ki x3), none]) ⟨rfl, trivial⟩ (hX34 _ _ rfl)
  · rw [if_neg hc14] at h
    refine kw_iload_n C (kdec dc_Court_fineOfLine 9 rfl) rfl 18 rfl rfl ?_
    refine kw_aload_n C (kdec dc_Court_fineOfLine 10 rfl) rfl 19 rfl rfl ?_
    refine kw_iload_n C (kdec dc_Court_fineOfLine 11 rfl) rfl 20 rfl rfl ?_
    refine kw_iload C (kdec dc_Court_fineOfLine 12 rfl) 22 rfl rfl ?_
    refine kw_iload_n C (kdec dc_Court_fineOfLine 13 rfl) rfl 23 rfl rfl ?_
    obtain ⟨⟨r_1, σ_2⟩, hg_5, h⟩ := kbind_h h
    dsimp only at h
    refine kw_callV (As := [ki x1, ki x4, ki x2]) C (kdec dc_Court_fineOfLine 14 rfl) 26 rfl cv_Court_62 rfl rfl (mt_pf_Court_fineNow_50 l0 hg_5) ⟨rfl, rfl⟩ ⟨Nat.le_of_ble_eq_true rfl, Nat.le_of_ble_eq_true rfl⟩ ⟨Nat.zero_le _, Nat.zero_le _⟩ rfl (Nat.le_of_ble_eq_true rfl) ?_
    change KW x 0 0 Q σ_2 26 [some (kr 50), some (ki x1), some (ki x2), some (ki x3), some (ki x4)] [ki r_1, ki x3]
    refine kw_iadd C (kdec dc_Court_fineOfLine 15 rfl) 27 rfl ?_
    obtain ⟨x3_3, ex3_3, h⟩ := klet_h h
    refine kw_top ex3_3 ?_
    refine kw_istore_n (L' := [some (kr 50), some (ki x1), some (ki x2), some (ki x3_3), some (ki x4)]) C (kdec dc_Court_fineOfLine 16 rfl) rfl 28 rfl (by decide) rfl rfl ?_
    obtain ⟨x4_4, ex4_4, h⟩ := klet_h h
    refine kw_iinc (L' := [some (kr 50), some (ki x1), some (ki x2), some (ki x3_3), some (ki x4_4)]) C (kdec dc_Court_fineOfLine 17 rfl) 31 rfl rfl (by decide) rfl (by rw [ex4_4]; rfl) ?_
    refine kw_goto C (kdec dc_Court_fineOfLine 18 rfl) 5 (by decide) ?_
    obtain rfl := Option.some.inj h
    exact (hC _ _ _ rfl)
theorem lp_pf_Court_fineOfLine_50_l5 {x : kX} {l0 : Launch} {Q : State → Prop} (C : kCx x prog_3_method_4_code "PoetFines$Court" (some .int) kcl yC 5 l0 R0_pf_Court_fineOfLine_50) (x1 : Int) (x2 : Int) {ex : (kM × Int)} (hX34 : ∀ (σ' : kM) (x3' : Int), ex = (σ', x3') → KW x 0 0 Q σ' 34 [none, none, none, some (ki x3'), none] []) (n : Nat) (σ : kM) (x3 : Int) (x4 : Int) (h : kloop (fun st => pf_Court_fineOfLine_50_l5 st.1 x1 x2 st.2.1 st.2.2) n (σ, x3, x4) = some ex) : KW x 0 0 Q σ 5 [some (kr 50), some (ki x1), some (ki x2), some (ki x3), some (ki x4)] [] :=
  kloop_ind (P := (fun st : kM × Int × Int => KW x 0 0 Q st.1 5 [some (kr 50), some (ki x1), some (ki x2), some (ki (st.2.1)), some (ki (st.2.2))] [])) (fun st out hb hc hx => bd_pf_Court_fineOfLine_50_l5 C st.1 x1 x2 st.2.1 st.2.2 hb (fun a0 a1 a2 e => hc _ e) (fun a0 a1 e => hX34 _ _ ((hx _ e).symm))) n (σ, x3, x4) h
def pf_Court_fineOfLine_50 (σ : kM) (x1 : Int) (x2 : Int) : Option (Int × kM) :=
  (kloop (fun st => pf_Court_fineOfLine_50_l5 st.1 x1 x2 st.2.1 st.2.2) kFuel (σ, 0, 0)).bind fun (σ_8, x3_9) =>
  some ((x3_9, σ_8))
set_option maxHeartbeats 4000000 in
theorem bd_pf_Court_fineOfLine_50 {x : kX} {l0 : Launch} {Q : State → Prop} (C : kCx x prog_3_method_4_code "PoetFines$Court" (some .int) kcl yC 5 l0 R0_pf_Court_fineOfLine_50) (σ : kM) (x1 : Int) (x2 : Int) {out : Int × kM} (h : pf_Court_fineOfLine_50 σ x1 x2 = some out) (hR : ∀ (r : Int) (τ : kM), out = (r, τ) → Q = kQ x (some (ki r)) τ 0 0) : KW x 0 0 Q σ 0 [some (kr 50), some (ki x1), some (ki x2), none, none] [] := by
  unfold pf_Court_fineOfLine_50 at h
  refine kw_iconst C (kdec dc_Court_fineOfLine 0 rfl) 1 rfl rfl ⟨by decide, by decide⟩ ?_
  refine kw_istore_n (L' := [some (kr 50), some (ki x1), some (ki x2), some (ki 0), none]) C (kdec dc_Court_fineOfLine 1 rfl) rfl 2 rfl (by decide) rfl rfl ?_
  refine kw_iconst C (kdec dc_Court_fineOfLine 2 rfl) 3 rfl rfl ⟨by decide, by decide⟩ ?_
  refine kw_istore (L' := [some (kr 50), some (ki x1), some (ki x2), some (ki 0), some (ki 0)]) C (kdec dc_Court_fineOfLine 3 rfl) 5 rfl (by decide) rfl rfl ?_
  obtain ⟨ex_6, hl_7, h⟩ := kbind_h h
  refine lp_pf_Court_fineOfLine_50_l5 C x1 x2 ?_ kFuel σ 0 0 hl_7
  · intro σ_8 x3_9 e
    subst ex_6
    try dsimp only at h
    refine kw_iload_n C (kdec dc_Court_fineOfLine 19 rfl) rfl 35 rfl rfl ?_
    obtain rfl := Option.some.inj h
    exact kw_Q (hR _ _ rfl) (kw_ireturn C (kdec dc_Court_fineOfLine 20 rfl))
theorem mt_pf_Court_fineOfLine_50 (l0 : Launch) {σ : kM} {x1 : Int} {x2 : Int} {r : Int} {τ : kM} (h : pf_Court_fineOfLine_50 σ x1 x2 = some (r, τ)) : kMet l0 ky_Court_fineOfLine prog_3_method_4_code 5 (some .int) R0_pf_Court_fineOfLine_50 kcl yC σ [kr 50, ki x1, ki x2] (some (ki r)) τ := kMet.of' [some (kr 50), some (ki x1), some (ki x2), none, none] (by decide) (Nat.le_of_ble_eq_true rfl) ⟨rfl, rfl, rfl, trivial⟩ (fun x C => bd_pf_Court_fineOfLine_50 C σ x1 x2 h (fun r τ e => by cases e; rfl))
def R0_pf_Court_inchesOfLine_50 : Room := ({ frames := 4, cells := 0, slots := 0, locals := 95 } : Room)
def pf_Court_inchesOfLine_50_l5 (σ : kM) (x1 : Int) (x2 : Int) (x3 : Int) (x4 : Int) : Option ((kM × Int × Int) ⊕ ((kM × Int))) :=
  if (σ 3 1) ≤ x4 then
    some (Sum.inr (σ, x3))
  else
    (pf_Court_inchesNow_50 σ x1 x4 x2).bind fun (r_1, σ_2) =>
    klet (w32 (x3 + r_1)) fun x3_3 =>
    klet (w32 (x4 + 1)) fun x4_4 =>
    some (Sum.inl (σ_2, x3_3, x4_4))
set_option maxHeartbeats 4000000 in
theorem bd_pf_Court_inchesOfLine_50_l5 {x : kX} {l0 : Launch} {Q : State → Prop} (C : kCx x prog_3_method_3_code "PoetFines$Court" (some .int) kcl yC 5 l0 R0_pf_Court_inchesOfLine_50) (σ : kM) (x1 : Int) (x2 : Int) (x3 : Int) (x4 : Int) {out : (kM × Int × Int) ⊕ ((kM × Int))} (h : pf_Court_inchesOfLine_50_l5 σ x1 x2 x3 x4 = some out) (hC : ∀ (σ' : kM) (x3' : Int) (x4' : Int), out = Sum.inl (σ', x3', x4') → KW x 0 0 Q σ' 5 [some (kr 50), some (ki x1), some (ki x2), some (ki x3'), some (ki x4')] []) (hX34 : ∀ (σ' : kM) (x3' : Int), out = Sum.inr (σ', x3') → KW x 0 0 Q σ' 34 [none, none, none, some (ki x3'), none] []) : KW x 0 0 Q σ 5 [some (kr 50), some (ki x1), some (ki x2), some (ki x3), some (ki x4)] [] := by
  unfold pf_Court_inchesOfLine_50_l5 at h
  refine kw_iload C (kdec dc_Court_inchesOfLine 4 rfl) 7 rfl rfl ?_
  refine kw_aload_n C (kdec dc_Court_inchesOfLine 5 rfl) rfl 8 rfl rfl ?_
  refine kw_getR C (kdec dc_Court_inchesOfLine 6 rfl) 11 rfl fd_C_Court_34_50 ?_
  refine kw_getI C (kdec dc_Court_inchesOfLine 7 rfl) 14 rfl fd_C_Court_53_3 ?_
  refine kw_icmp_ge C (kdec dc_Court_inchesOfLine 8 rfl) 34 17 (by decide) rfl (fun hc14 => ?_) (fun hc14 => ?_)
  · rw [if_pos hc14] at h
    obtain rfl := Option.some.inj h
    exact kw_sub (L' := [none, none, none, some (ki x3), none]) ⟨rfl, trivial⟩ (hX34 _ _ rfl)
  · rw [if_neg hc14] at h
    refine kw_iload_n C (kdec dc_Court_inchesOfLine 9 rfl) rfl 18 rfl rfl ?_
    refine kw_aload_n C (kdec dc_Court_inchesOfLine 10 rfl) rfl 19 rfl rfl ?_
    refine kw_iload_n C (kdec dc_Court_inchesOfLine 11 rfl) rfl 20 rfl rfl ?_
    refine kw_iload C (kdec dc_Court_inchesOfLine 12 rfl) 22 rfl rfl ?_
    refine kw_iload_n C (kdec dc_Court_inchesOfLine 13 rfl) rfl 23 rfl rfl ?_
    obtain ⟨⟨r_1, σ_2⟩, hg_5, h⟩ := kbind_h h
    dsimp only at h
    refine kw_callV (As := [ki x1, ki x4, ki x2]) C (kdec dc_Court_inchesOfLine 14 rfl) 26 rfl cv_Court_58 rfl rfl (mt_pf_Court_inchesNow_50 l0 hg_5) ⟨rfl, rfl⟩ ⟨Nat.le_of_ble_eq_true rfl, Nat.le_of_ble_eq_true rfl⟩ ⟨Nat.zero_le _, Nat.zero_le _⟩ rfl (Nat.le_of_ble_eq_true rfl) ?_
    change KW x 0 0 Q σ_2 26 [some (kr 50), some (ki x1), some (ki x2), some (ki x3), some (ki x4)] [ki r_1, ki x3]
    refine kw_iadd C (kdec dc_Court_inchesOfLine 15 rfl) 27 rfl ?_
    obtain ⟨x3_3, ex3_3, h⟩ := klet_h h
    refine kw_top ex3_3 ?_
    refine kw_istore_n (L' := [some (kr 50), some (ki x1), some (ki x2), some (ki x3_3), some (ki x4)]) C (kdec dc_Court_inchesOfLine 16 rfl) rfl 28 rfl (by decide) rfl rfl ?_
    obtain ⟨x4_4, ex4_4, h⟩ := klet_h h
    refine kw_iinc (L' := [some (kr 50), some (ki x1), some (ki x2), some (ki x3_3), some (ki x4_4)]) C (kdec dc_Court_inchesOfLine 17 rfl) 31 rfl rfl (by decide) rfl (by rw [ex4_4]; rfl) ?_
    refine kw_goto C (kdec dc_Court_inchesOfLine 18 rfl) 5 (by decide) ?_
    obtain rfl := Option.some.inj h
    exact (hC _ _ _ rfl)
theorem lp_pf_Court_inchesOfLine_50_l5 {x : kX} {l0 : Launch} {Q : State → Prop} (C : kCx x prog_3_method_3_code "PoetFines$Court" (some .int) kcl yC 5 l0 R0_pf_Court_inchesOfLine_50) (x1 : Int) (x2 : Int) {ex : (kM × Int)} (hX34 : ∀ (σ' : kM) (x3' : Int), ex = (σ', x3') → KW x 0 0 Q σ' 34 [none, none, none, some (ki x3'), none] []) (n : Nat) (σ : kM) (x3 : Int) (x4 : Int) (h : kloop (fun st => pf_Court_inchesOfLine_50_l5 st.1 x1 x2 st.2.1 st.2.2) n (σ, x3, x4) = some ex) : KW x 0 0 Q σ 5 [some (kr 50), some (ki x1), some (ki x2), some (ki x3), some (ki x4)] [] :=
  kloop_ind (P := (fun st : kM × Int × Int => KW x 0 0 Q st.1 5 [some (kr 50), some (ki x1), some (ki x2), some (ki (st.2.1)), some (ki (st.2.2))] [])) (fun st out hb hc hx => bd_pf_Court_inchesOfLine_50_l5 C st.1 x1 x2 st.2.1 st.2.2 hb (fun a0 a1 a2 e => hc _ e) (fun a0 a1 e => hX34 _ _ ((hx _ e).symm))) n (σ, x3, x4) h
def pf_Court_inchesOfLine_50 (σ : kM) (x1 : Int) (x2 : Int) : Option (Int × kM) :=
  (kloop (fun st => pf_Court_inchesOfLine_50_l5 st.1 x1 x2 st.2.1 st.2.2) kFuel (σ, 0, 0)).bind fun (σ_8, x3_9) =>
  some ((x3_9, σ_8))
set_option maxHeartbeats 4000000 in
theorem bd_pf_Court_inchesOfLine_50 {x : kX} {l0 : Launch} {Q : State → Prop} (C : kCx x prog_3_method_3_code "PoetFines$Court" (some .int) kcl yC 5 l0 R0_pf_Court_inchesOfLine_50) (σ : kM) (x1 : Int) (x2 : Int) {out : Int × kM} (h : pf_Court_inchesOfLine_50 σ x1 x2 = some out) (hR : ∀ (r : Int) (τ : kM), out = (r, τ) → Q = kQ x (some (ki r)) τ 0 0) : KW x 0 0 Q σ 0 [some (kr 50), some (ki x1), some (ki x2), none, none] [] := by
  unfold pf_Court_inchesOfLine_50 at h
  refine kw_iconst C (kdec dc_Court_inchesOfLine 0 rfl) 1 rfl rfl ⟨by decide, by decide⟩ ?_
  refine kw_istore_n (L' := [some (kr 50), some (ki x1), some (ki x2), some (ki 0), none]) C (kdec dc_Court_inchesOfLine 1 rfl) rfl 2 rfl (by decide) rfl rfl ?_
  refine kw_iconst C (kdec dc_Court_inchesOfLine 2 rfl) 3 rfl rfl ⟨by decide, by decide⟩ ?_
  refine kw_istore (L' := [some (kr 50), some (ki x1), some (ki x2), some (ki 0), some (ki 0)]) C (kdec dc_Court_inchesOfLine 3 rfl) 5 rfl (by decide) rfl rfl ?_
  obtain ⟨ex_6, hl_7, h⟩ := kbind_h h
  refine lp_pf_Court_inchesOfLine_50_l5 C x1 x2 ?_ kFuel σ 0 0 hl_7
  · intro σ_8 x3_9 e
    subst ex_6
    try dsimp only at h
    refine kw_iload_n C (kdec dc_Court_inchesOfLine 19 rfl) rfl 35 rfl rfl ?_
    obtain rfl := Option.some.inj h
    exact kw_Q (hR _ _ rfl) (kw_ireturn C (kdec dc_Court_inchesOfLine 20 rfl))
theorem mt_pf_Court_inchesOfLine_50 (l0 : Launch) {σ : kM} {x1 : Int} {x2 : Int} {r : Int} {τ : kM} (h : pf_Court_inchesOfLine_50 σ x1 x2 = some (r, τ)) : kMet l0 ky_Court_inchesOfLine prog_3_method_3_code 5 (some .int) R0_pf_Court_inchesOfLine_50 kcl yC σ [kr 50, ki x1, ki x2] (some (ki r)) τ := kMet.of' [some (kr 50), some (ki x1), some (ki x2), none, none] (by decide) (Nat.le_of_ble_eq_true rfl) ⟨rfl, rfl, rfl, trivial⟩ (fun x C => bd_pf_Court_inchesOfLine_50 C σ x1 x2 h (fun r τ e => by cases e; rfl))
def R0_pf_P_line_0 : Room := ({ frames := 8, cells := 3, slots := 18, locals := 143 } : Room)
def pf_P_line_0 (σ : kM) (x1 : Int) (x2 : Int) (x3 : Int) : Option ((String ⊕ Int) × kM) :=
  (pf_P_needLine_0 σ x1 x2).bind fun q_20 => match q_20 with
  | (.inl E_3, σ_1) => some (.inl E_3, σ_1)
  | (.inr _, σ_1) =>
    (pf_P_needWhat_0 σ_1 x3 4).bind fun q_19 => match q_19 with
    | (.inl E_6, σ_4) => some (.inl E_6, σ_4)
    | (.inr _, σ_4) =>
      if x3 = 0 then
        (pf_Law_topicOf_3 σ_4 x1 x2).bind fun r_7 =>
        some ((.inr r_7, σ_4))
      else
        if x3 = 1 then
          (pf_World_depthOf_30 σ_4 x1 x2).bind fun r_9 =>
          some ((.inr r_9, σ_4))
        else
          if x3 = 2 then
            (pf_Law_rhymes_3 σ_4 x1 x2).bind fun r_11 =>
            some ((.inr r_11, σ_4))
          else
            if x3 = 3 then
              (pf_Court_fineOfLine_50 σ_4 x1 x2).bind fun (r_13, σ_14) =>
              some ((.inr r_13, σ_14))
            else
              (pf_Court_inchesOfLine_50 σ_4 x1 x2).bind fun (r_16, σ_17) =>
              some ((.inr r_16, σ_17))
set_option maxHeartbeats 4000000 in
theorem bd_pf_P_line_0 {x : kX} {l0 : Launch} {Q : State → Prop} (C : kCx x prog_1_method_8_code "PoetFines" (some .int) kcl yC 4 l0 R0_pf_P_line_0) (hT : kTb x) (hfl : l0.stackTraces = false) (σ : kM) (x1 : Int) (x2 : Int) (x3 : Int) {out : (String ⊕ Int) × kM} (h : pf_P_line_0 σ x1 x2 x3 = some out) (hR : ∀ (r : Int) (τ : kM), out = (.inr r, τ) → Q = kQX x (.inr (some (ki r))) τ 3 18) (hE : ∀ (E : String) (τ : kM), out = (.inl E, τ) → Q = kQX x (.inl E) τ 3 18) : KW x 0 0 Q σ 0 [some (kr 0), some (ki x1), some (ki x2), some (ki x3)] [] := by
  unfold pf_P_line_0 at h
  refine kw_aload_n C (kdec dc_P_line 0 rfl) rfl 1 rfl rfl ?_
  refine kw_iload_n C (kdec dc_P_line 1 rfl) rfl 2 rfl rfl ?_
  refine kw_iload_n C (kdec dc_P_line 2 rfl) rfl 3 rfl rfl ?_
  obtain ⟨⟨q_20, σ_1⟩, hg_2, h⟩ := kbind_h h
  rcases q_20 with E_3 | _
  · dsimp only at h
    obtain rfl := Option.some.inj h
    exact kw_Q (hE _ _ rfl) (kw_callVX_t (As := [ki x1, ki x2]) C hT (kdec dc_P_line 3 rfl) cv_P_171 rfl rfl (me_pf_P_needLine_0 l0 hfl hg_2) ⟨rfl, rfl⟩ ⟨Nat.le_of_ble_eq_true rfl, Nat.le_of_ble_eq_true rfl⟩ ⟨Nat.le_of_ble_eq_true rfl, Nat.le_of_ble_eq_true rfl⟩ rfl (Nat.le_of_ble_eq_true rfl) (Nat.le_of_ble_eq_true rfl) (Nat.le_of_ble_eq_true rfl))
  · dsimp only at h
    refine kw_callVX (As := [ki x1, ki x2]) C (kdec dc_P_line 3 rfl) 6 rfl cv_P_171 rfl rfl (mx_pf_P_needLine_0 l0 hfl hg_2) ⟨rfl, rfl⟩ ⟨Nat.le_of_ble_eq_true rfl, Nat.le_of_ble_eq_true rfl⟩ ⟨Nat.le_of_ble_eq_true rfl, Nat.le_of_ble_eq_true rfl⟩ rfl (Nat.le_of_ble_eq_true rfl) ?_
    change KW x 2 12 Q σ_1 6 [some (kr 0), some (ki x1), some (ki x2), some (ki x3)] []
    refine kw_aload_n C (kdec dc_P_line 4 rfl) rfl 7 rfl rfl ?_
    refine kw_iload_n C (kdec dc_P_line 5 rfl) rfl 8 rfl rfl ?_
    refine kw_iconst C (kdec dc_P_line 6 rfl) 9 rfl rfl ⟨by decide, by decide⟩ ?_
    obtain ⟨⟨q_19, σ_4⟩, hg_5, h⟩ := kbind_h h
    rcases q_19 with E_6 | _
    · dsimp only at h
      obtain rfl := Option.some.inj h
      exact kw_Q (hE _ _ rfl) (kw_callVX_t (As := [ki x3, ki 4]) C hT (kdec dc_P_line 7 rfl) cv_P_154 rfl rfl (me_pf_P_needWhat_0 l0 hfl hg_5) ⟨rfl, rfl⟩ ⟨Nat.le_of_ble_eq_true rfl, Nat.le_of_ble_eq_true rfl⟩ ⟨Nat.le_of_ble_eq_true rfl, Nat.le_of_ble_eq_true rfl⟩ rfl (Nat.le_of_ble_eq_true rfl) (Nat.le_of_ble_eq_true rfl) (Nat.le_of_ble_eq_true rfl))
    · dsimp only at h
      refine kw_callVX (As := [ki x3, ki 4]) C (kdec dc_P_line 7 rfl) 12 rfl cv_P_154 rfl rfl (mx_pf_P_needWhat_0 l0 hfl hg_5) ⟨rfl, rfl⟩ ⟨Nat.le_of_ble_eq_true rfl, Nat.le_of_ble_eq_true rfl⟩ ⟨Nat.le_of_ble_eq_true rfl, Nat.le_of_ble_eq_true rfl⟩ rfl (Nat.le_of_ble_eq_true rfl) ?_
      change KW x 3 18 Q σ_4 12 [some (kr 0), some (ki x1), some (ki x2), some (ki x3)] []
      refine kw_iload_n C (kdec dc_P_line 8 rfl) rfl 13 rfl rfl ?_
      by_cases hc13_0 : x3 = 0
      · rw [if_pos hc13_0] at h
        refine kw_table C (kdec dc_P_line 9 rfl) 44 (Or.inr ⟨by omega, by omega, _, by rw [hc13_0]; rfl, by decide⟩) ?_
        refine kw_aload_n C (kdec dc_P_line 10 rfl) rfl 45 rfl rfl ?_
        refine kw_getR C (kdec dc_P_line 11 rfl) 48 rfl fd_C_P_27_0 ?_
        refine kw_iload_n C (kdec dc_P_line 12 rfl) rfl 49 rfl rfl ?_
        refine kw_iload_n C (kdec dc_P_line 13 rfl) rfl 50 rfl rfl ?_
        obtain ⟨r_7, hg_8, h⟩ := kbind_h h
        refine kw_callV (As := [ki x1, ki x2]) C (kdec dc_P_line 14 rfl) 53 rfl cv_P_174 rfl rfl (mt_pf_Law_topicOf_3 l0 hg_8) ⟨rfl, rfl⟩ ⟨Nat.le_of_ble_eq_true rfl, Nat.le_of_ble_eq_true rfl⟩ ⟨Nat.le_of_ble_eq_true rfl, Nat.le_of_ble_eq_true rfl⟩ rfl (Nat.le_of_ble_eq_true rfl) ?_
        change KW x 3 18 Q σ_4 53 [some (kr 0), some (ki x1), some (ki x2), some (ki x3)] [ki r_7]
        obtain rfl := Option.some.inj h
        exact kw_Q (hR _ _ rfl) (kw_xret (by decide) (by decide) (kw_ireturn C (kdec dc_P_line 15 rfl)))
      · rw [if_neg hc13_0] at h
        by_cases hc13_1 : x3 = 1
        · rw [if_pos hc13_1] at h
          refine kw_table C (kdec dc_P_line 9 rfl) 54 (Or.inr ⟨by omega, by omega, _, by rw [hc13_1]; rfl, by decide⟩) ?_
          refine kw_aload_n C (kdec dc_P_line 16 rfl) rfl 55 rfl rfl ?_
          refine kw_getR C (kdec dc_P_line 17 rfl) 58 rfl fd_C_P_43_0 ?_
          refine kw_getR C (kdec dc_P_line 18 rfl) 61 rfl fd_C_P_56_29 ?_
          refine kw_iload_n C (kdec dc_P_line 19 rfl) rfl 62 rfl rfl ?_
          refine kw_iload_n C (kdec dc_P_line 20 rfl) rfl 63 rfl rfl ?_
          obtain ⟨r_9, hg_10, h⟩ := kbind_h h
          refine kw_callV (As := [ki x1, ki x2]) C (kdec dc_P_line 21 rfl) 66 rfl cv_P_177 rfl rfl (mt_pf_World_depthOf_30 l0 hg_10) ⟨rfl, rfl⟩ ⟨Nat.le_of_ble_eq_true rfl, Nat.le_of_ble_eq_true rfl⟩ ⟨Nat.le_of_ble_eq_true rfl, Nat.le_of_ble_eq_true rfl⟩ rfl (Nat.le_of_ble_eq_true rfl) ?_
          change KW x 3 18 Q σ_4 66 [some (kr 0), some (ki x1), some (ki x2), some (ki x3)] [ki r_9]
          obtain rfl := Option.some.inj h
          exact kw_Q (hR _ _ rfl) (kw_xret (by decide) (by decide) (kw_ireturn C (kdec dc_P_line 22 rfl)))
        · rw [if_neg hc13_1] at h
          by_cases hc13_2 : x3 = 2
          · rw [if_pos hc13_2] at h
            refine kw_table C (kdec dc_P_line 9 rfl) 67 (Or.inr ⟨by omega, by omega, _, by rw [hc13_2]; rfl, by decide⟩) ?_
            refine kw_aload_n C (kdec dc_P_line 23 rfl) rfl 68 rfl rfl ?_
            refine kw_getR C (kdec dc_P_line 24 rfl) 71 rfl fd_C_P_27_0 ?_
            refine kw_iload_n C (kdec dc_P_line 25 rfl) rfl 72 rfl rfl ?_
            refine kw_iload_n C (kdec dc_P_line 26 rfl) rfl 73 rfl rfl ?_
            obtain ⟨r_11, hg_12, h⟩ := kbind_h h
            refine kw_callV (As := [ki x1, ki x2]) C (kdec dc_P_line 27 rfl) 76 rfl cv_P_180 rfl rfl (mt_pf_Law_rhymes_3 l0 hg_12) ⟨rfl, rfl⟩ ⟨Nat.le_of_ble_eq_true rfl, Nat.le_of_ble_eq_true rfl⟩ ⟨Nat.le_of_ble_eq_true rfl, Nat.le_of_ble_eq_true rfl⟩ rfl (Nat.le_of_ble_eq_true rfl) ?_
            change KW x 3 18 Q σ_4 76 [some (kr 0), some (ki x1), some (ki x2), some (ki x3)] [ki r_11]
            obtain rfl := Option.some.inj h
            exact kw_Q (hR _ _ rfl) (kw_xret (by decide) (by decide) (kw_ireturn C (kdec dc_P_line 28 rfl)))
          · rw [if_neg hc13_2] at h
            by_cases hc13_3 : x3 = 3
            · rw [if_pos hc13_3] at h
              refine kw_table C (kdec dc_P_line 9 rfl) 77 (Or.inr ⟨by omega, by omega, _, by rw [hc13_3]; rfl, by decide⟩) ?_
              refine kw_aload_n C (kdec dc_P_line 29 rfl) rfl 78 rfl rfl ?_
              refine kw_getR C (kdec dc_P_line 30 rfl) 81 rfl fd_C_P_72_0 ?_
              refine kw_iload_n C (kdec dc_P_line 31 rfl) rfl 82 rfl rfl ?_
              refine kw_iload_n C (kdec dc_P_line 32 rfl) rfl 83 rfl rfl ?_
              obtain ⟨⟨r_13, σ_14⟩, hg_15, h⟩ := kbind_h h
              dsimp only at h
              refine kw_callV (As := [ki x1, ki x2]) C (kdec dc_P_line 33 rfl) 86 rfl cv_P_183 rfl rfl (mt_pf_Court_fineOfLine_50 l0 hg_15) ⟨rfl, rfl⟩ ⟨Nat.le_of_ble_eq_true rfl, Nat.le_of_ble_eq_true rfl⟩ ⟨Nat.le_of_ble_eq_true rfl, Nat.le_of_ble_eq_true rfl⟩ rfl (Nat.le_of_ble_eq_true rfl) ?_
              change KW x 3 18 Q σ_14 86 [some (kr 0), some (ki x1), some (ki x2), some (ki x3)] [ki r_13]
              obtain rfl := Option.some.inj h
              exact kw_Q (hR _ _ rfl) (kw_xret (by decide) (by decide) (kw_ireturn C (kdec dc_P_line 34 rfl)))
            · rw [if_neg hc13_3] at h
              refine kw_table C (kdec dc_P_line 9 rfl) 87 (Or.inl ⟨by omega, by decide⟩) ?_
              refine kw_aload_n C (kdec dc_P_line 35 rfl) rfl 88 rfl rfl ?_
              refine kw_getR C (kdec dc_P_line 36 rfl) 91 rfl fd_C_P_72_0 ?_
              refine kw_iload_n C (kdec dc_P_line 37 rfl) rfl 92 rfl rfl ?_
              refine kw_iload_n C (kdec dc_P_line 38 rfl) rfl 93 rfl rfl ?_
              obtain ⟨⟨r_16, σ_17⟩, hg_18, h⟩ := kbind_h h
              dsimp only at h
              refine kw_callV (As := [ki x1, ki x2]) C (kdec dc_P_line 39 rfl) 96 rfl cv_P_186 rfl rfl (mt_pf_Court_inchesOfLine_50 l0 hg_18) ⟨rfl, rfl⟩ ⟨Nat.le_of_ble_eq_true rfl, Nat.le_of_ble_eq_true rfl⟩ ⟨Nat.le_of_ble_eq_true rfl, Nat.le_of_ble_eq_true rfl⟩ rfl (Nat.le_of_ble_eq_true rfl) ?_
              change KW x 3 18 Q σ_17 96 [some (kr 0), some (ki x1), some (ki x2), some (ki x3)] [ki r_16]
              obtain rfl := Option.some.inj h
              exact kw_Q (hR _ _ rfl) (kw_xret (by decide) (by decide) (kw_ireturn C (kdec dc_P_line 40 rfl)))
theorem mx_pf_P_line_0 (l0 : Launch) (hfl : l0.stackTraces = false) {σ : kM} {x1 : Int} {x2 : Int} {x3 : Int} {r : Int} {τ : kM} (h : pf_P_line_0 σ x1 x2 x3 = some (.inr r, τ)) : kXet l0 ky_P_line prog_1_method_8_code 4 (some .int) R0_pf_P_line_0 kcl yC σ [kr 0, ki x1, ki x2, ki x3] (.inr (some (ki r))) τ 3 18 := kXet.of [some (kr 0), some (ki x1), some (ki x2), some (ki x3)] (by decide) (Nat.le_of_ble_eq_true rfl) ⟨rfl, rfl, rfl, rfl, trivial⟩ (fun x C hT => bd_pf_P_line_0 C hT hfl σ x1 x2 x3 h (fun r τ e => by cases e; rfl) (fun E τ e => by cases e))
theorem me_pf_P_line_0 (l0 : Launch) (hfl : l0.stackTraces = false) {σ : kM} {x1 : Int} {x2 : Int} {x3 : Int} {E : String} {τ : kM} (h : pf_P_line_0 σ x1 x2 x3 = some (.inl E, τ)) : kXet l0 ky_P_line prog_1_method_8_code 4 (some .int) R0_pf_P_line_0 kcl yC σ [kr 0, ki x1, ki x2, ki x3] (.inl E) τ 3 18 := kXet.of [some (kr 0), some (ki x1), some (ki x2), some (ki x3)] (by decide) (Nat.le_of_ble_eq_true rfl) ⟨rfl, rfl, rfl, rfl, trivial⟩ (fun x C hT => bd_pf_P_line_0 C hT hfl σ x1 x2 x3 h (fun r τ e => by cases e) (fun E τ e => by cases e; rfl))
def R0_pf_P_refusedAct_0 : Room := ({ frames := 0, cells := 0, slots := 0, locals := 0 } : Room)
def pf_P_refusedAct_0 (σ : kM) : Option (Int × kM) :=
  klet (kst σ 2 (kup (σ 2) ((1 : Int).toNat) (w32 ((σ 2 (1 : Int).toNat) + 1)))) fun σ_1 =>
  some (((-1), σ_1))
set_option maxHeartbeats 4000000 in
theorem bd_pf_P_refusedAct_0 {x : kX} {l0 : Launch} {Q : State → Prop} (C : kCx x prog_1_method_41_code "PoetFines" (some .int) kcl yC 1 l0 R0_pf_P_refusedAct_0) (σ : kM) {out : Int × kM} (h : pf_P_refusedAct_0 σ = some out) (hR : ∀ (r : Int) (τ : kM), out = (r, τ) → Q = kQ x (some (ki r)) τ 0 0) : KW x 0 0 Q σ 0 [some (kr 0)] [] := by
  unfold pf_P_refusedAct_0 at h
  refine kw_aload_n C (kdec dc_P_refusedAct 0 rfl) rfl 1 rfl rfl ?_
  refine kw_getR C (kdec dc_P_refusedAct 1 rfl) 4 rfl fd_C_P_20_0 ?_
  refine kw_iconst C (kdec dc_P_refusedAct 2 rfl) 5 rfl rfl ⟨by decide, by decide⟩ ?_
  refine kw_dup2 C (kdec dc_P_refusedAct 3 rfl) 6 rfl rfl rfl ?_
  refine kw_iald C (kdec dc_P_refusedAct 4 rfl) 7 rfl rfl (by decide) (by decide) ?_
  refine kw_iconst C (kdec dc_P_refusedAct 5 rfl) 8 rfl rfl ⟨by decide, by decide⟩ ?_
  refine kw_iadd C (kdec dc_P_refusedAct 6 rfl) 9 rfl ?_
  obtain ⟨σ_1, eσ_1, h⟩ := klet_h h
  refine kw_iast C (kdec dc_P_refusedAct 7 rfl) 10 rfl rfl (by decide) (by decide) ?_
  refine kw_sig eσ_1 ?_
  refine kw_iconst C (kdec dc_P_refusedAct 8 rfl) 11 rfl rfl ⟨by decide, by decide⟩ ?_
  obtain rfl := Option.some.inj h
  exact kw_Q (hR _ _ rfl) (kw_ireturn C (kdec dc_P_refusedAct 9 rfl))
theorem mt_pf_P_refusedAct_0 (l0 : Launch) {σ : kM} {r : Int} {τ : kM} (h : pf_P_refusedAct_0 σ = some (r, τ)) : kMet l0 ky_P_refusedAct prog_1_method_41_code 1 (some .int) R0_pf_P_refusedAct_0 kcl yC σ [kr 0] (some (ki r)) τ := kMet.of' [some (kr 0)] (by decide) (Nat.le_of_ble_eq_true rfl) ⟨rfl, trivial⟩ (fun x C => bd_pf_P_refusedAct_0 C σ h (fun r τ e => by cases e; rfl))
def R0_pf_Chronicle_remember_29 : Room := ({ frames := 1, cells := 0, slots := 0, locals := 60 } : Room)
def pf_Chronicle_remember_29 (σ : kM) : Option (kM) :=
  klet (krem (w32 ((σ 29 3) + (σ 29 1))) 40) fun x1_1 =>
  kchk ((0 : Int) ≤ 0 ∧ (0 : Int) ≤ (w32 (x1_1 * 85)) ∧ (0 : Int) ≤ 85 ∧ 0 + 85 ≤ (85 : Int) ∧ (w32 (x1_1 * 85)) + 85 ≤ (3400 : Int)) <|
  klet (kst σ 32 (va_cpy (σ 31) (σ 32) (0 : Int).toNat (w32 (x1_1 * 85)).toNat (85 : Int).toNat)) fun σ_3 =>
  if 40 ≤ (σ_3 29 1) then
    klet (kst σ_3 29 (kup (σ_3 29) 3 (krem (w32 ((σ_3 29 3) + 1)) 40))) fun σ_4 =>
    some σ_4
  else
    klet (kst σ_3 29 (kup (σ_3 29) 1 (w32 ((σ_3 29 1) + 1)))) fun σ_5 =>
    some σ_5
set_option maxHeartbeats 4000000 in
theorem bd_pf_Chronicle_remember_29 {x : kX} {l0 : Launch} {Q : State → Prop} (C : kCx x prog_2_method_4_code "PoetFines$Chronicle" none kcl yC 2 l0 R0_pf_Chronicle_remember_29) (σ : kM) {out : kM} (h : pf_Chronicle_remember_29 σ = some out) (hR : ∀ (τ : kM), out = τ → Q = kQ x none τ 0 0) : KW x 0 0 Q σ 0 [some (kr 29), none] [] := by
  unfold pf_Chronicle_remember_29 at h
  refine kw_aload_n C (kdec dc_Chronicle_remember 0 rfl) rfl 1 rfl rfl ?_
  refine kw_getI C (kdec dc_Chronicle_remember 1 rfl) 4 rfl fd_C_Chronicle_26_29 ?_
  refine kw_aload_n C (kdec dc_Chronicle_remember 2 rfl) rfl 5 rfl rfl ?_
  refine kw_getI C (kdec dc_Chronicle_remember 3 rfl) 8 rfl fd_C_Chronicle_18_29 ?_
  refine kw_iadd C (kdec dc_Chronicle_remember 4 rfl) 9 rfl ?_
  refine kw_bipush (v := 40) C (kdec dc_Chronicle_remember 5 rfl) 11 rfl (by decide) ⟨by decide, by decide⟩ ?_
  refine kw_irem C (kdec dc_Chronicle_remember 6 rfl) 12 rfl (by decide) ?_
  obtain ⟨x1_1, ex1_1, h⟩ := klet_h h
  refine kw_top ex1_1 ?_
  refine kw_istore_n (L' := [some (kr 29), some (ki x1_1)]) C (kdec dc_Chronicle_remember 7 rfl) rfl 13 rfl (by decide) rfl rfl ?_
  refine kw_aload_n C (kdec dc_Chronicle_remember 8 rfl) rfl 14 rfl rfl ?_
  refine kw_getR C (kdec dc_Chronicle_remember 9 rfl) 17 rfl fd_C_Chronicle_12_29 ?_
  refine kw_getR C (kdec dc_Chronicle_remember 10 rfl) 20 rfl fd_C_Chronicle_51_30 ?_
  refine kw_iconst C (kdec dc_Chronicle_remember 11 rfl) 21 rfl rfl ⟨by decide, by decide⟩ ?_
  refine kw_aload_n C (kdec dc_Chronicle_remember 12 rfl) rfl 22 rfl rfl ?_
  refine kw_getR C (kdec dc_Chronicle_remember 13 rfl) 25 rfl fd_C_Chronicle_22_29 ?_
  refine kw_iload_n C (kdec dc_Chronicle_remember 14 rfl) rfl 26 rfl rfl ?_
  refine kw_bipush (v := 85) C (kdec dc_Chronicle_remember 15 rfl) 28 rfl (by decide) ⟨by decide, by decide⟩ ?_
  refine kw_imul C (kdec dc_Chronicle_remember 16 rfl) 29 rfl ?_
  refine kw_bipush (v := 85) C (kdec dc_Chronicle_remember 17 rfl) 31 rfl (by decide) ⟨by decide, by decide⟩ ?_
  obtain ⟨hc_2, h⟩ := kchk_h h
  obtain ⟨σ_3, eσ_3, h⟩ := klet_h h
  refine kw_copy C (kdec dc_Chronicle_remember 18 rfl) 34 rfl ca_Chronicle_45 rfl rfl hc_2.1 hc_2.2.1 hc_2.2.2.1 hc_2.2.2.2.1 hc_2.2.2.2.2 ⟨Nat.le_of_ble_eq_true rfl, by decide⟩ (Nat.le_of_ble_eq_true rfl) ?_
  refine kw_sig eσ_3 ?_
  refine kw_aload_n C (kdec dc_Chronicle_remember 19 rfl) rfl 35 rfl rfl ?_
  refine kw_getI C (kdec dc_Chronicle_remember 20 rfl) 38 rfl fd_C_Chronicle_18_29 ?_
  refine kw_bipush (v := 40) C (kdec dc_Chronicle_remember 21 rfl) 40 rfl (by decide) ⟨by decide, by decide⟩ ?_
  refine kw_icmp_ge C (kdec dc_Chronicle_remember 22 rfl) 56 43 (by decide) rfl (fun hc40 => ?_) (fun hc40 => ?_)
  · rw [if_pos hc40] at h
    refine kw_aload_n C (kdec dc_Chronicle_remember 30 rfl) rfl 57 rfl rfl ?_
    refine kw_aload_n C (kdec dc_Chronicle_remember 31 rfl) rfl 58 rfl rfl ?_
    refine kw_getI C (kdec dc_Chronicle_remember 32 rfl) 61 rfl fd_C_Chronicle_26_29 ?_
    refine kw_iconst C (kdec dc_Chronicle_remember 33 rfl) 62 rfl rfl ⟨by decide, by decide⟩ ?_
    refine kw_iadd C (kdec dc_Chronicle_remember 34 rfl) 63 rfl ?_
    refine kw_bipush (v := 40) C (kdec dc_Chronicle_remember 35 rfl) 65 rfl (by decide) ⟨by decide, by decide⟩ ?_
    refine kw_irem C (kdec dc_Chronicle_remember 36 rfl) 66 rfl (by decide) ?_
    obtain ⟨σ_4, eσ_4, h⟩ := klet_h h
    refine kw_putI C (kdec dc_Chronicle_remember 37 rfl) 69 rfl fp_C_Chronicle_26_29 ?_
    refine kw_sig eσ_4 ?_
    obtain rfl := Option.some.inj h
    exact kw_Q (hR _ rfl) (kw_return C (kdec dc_Chronicle_remember 38 rfl))
  · rw [if_neg hc40] at h
    refine kw_aload_n C (kdec dc_Chronicle_remember 23 rfl) rfl 44 rfl rfl ?_
    refine kw_dup C (kdec dc_Chronicle_remember 24 rfl) 45 rfl rfl ?_
    refine kw_getI C (kdec dc_Chronicle_remember 25 rfl) 48 rfl fd_C_Chronicle_18_29 ?_
    refine kw_iconst C (kdec dc_Chronicle_remember 26 rfl) 49 rfl rfl ⟨by decide, by decide⟩ ?_
    refine kw_iadd C (kdec dc_Chronicle_remember 27 rfl) 50 rfl ?_
    obtain ⟨σ_5, eσ_5, h⟩ := klet_h h
    refine kw_putI C (kdec dc_Chronicle_remember 28 rfl) 53 rfl fp_C_Chronicle_18_29 ?_
    refine kw_sig eσ_5 ?_
    refine kw_goto C (kdec dc_Chronicle_remember 29 rfl) 69 (by decide) ?_
    obtain rfl := Option.some.inj h
    exact kw_Q (hR _ rfl) (kw_return C (kdec dc_Chronicle_remember 38 rfl))
theorem mt_pf_Chronicle_remember_29 (l0 : Launch) {σ : kM} {τ : kM} (h : pf_Chronicle_remember_29 σ = some τ) : kMet l0 ky_Chronicle_remember prog_2_method_4_code 2 none R0_pf_Chronicle_remember_29 kcl yC σ [kr 29] none τ := kMet.of' [some (kr 29), none] (by decide) (Nat.le_of_ble_eq_true rfl) ⟨rfl, trivial⟩ (fun x C => bd_pf_Chronicle_remember_29 C σ h (fun τ e => by subst e; rfl))
def R0_pf_Stage_wouldBuy_43 : Room := ({ frames := 2, cells := 0, slots := 0, locals := 47 } : Room)
def pf_Stage_wouldBuy_43 (σ : kM) (x1 : Int) (x2 : Int) : Option (Int × kM) :=
  (pf_Rules_has_7 σ 2).bind fun r_1 =>
  if r_1 = 0 then
    some ((1, σ))
  else
    kchk (0 ≤ (w32 (1 + x2)) ∧ (w32 (1 + x2)) < 85) <|
    (pf_Stage_setValues_43 σ x1 x2 (σ 31 (w32 (1 + x2)).toNat)).bind fun σ_3 =>
    (pf_Rules_worth_7_49 σ_3 2).bind fun (r_4, σ_5) =>
    if r_4 ≤ 0 then
      some ((0, σ_5))
    else
      some ((1, σ_5))
set_option maxHeartbeats 4000000 in
theorem bd_pf_Stage_wouldBuy_43 {x : kX} {l0 : Launch} {Q : State → Prop} (C : kCx x prog_8_method_7_code "PoetFines$Stage" (some .boolean) kcl yC 3 l0 R0_pf_Stage_wouldBuy_43) (σ : kM) (x1 : Int) (x2 : Int) {out : Int × kM} (h : pf_Stage_wouldBuy_43 σ x1 x2 = some out) (hR : ∀ (r : Int) (τ : kM), out = (r, τ) → Q = kQ x (some (ki r)) τ 0 0) : KW x 0 0 Q σ 0 [some (kr 43), some (ki x1), some (ki x2)] [] := by
  unfold pf_Stage_wouldBuy_43 at h
  refine kw_aload_n C (kdec dc_Stage_wouldBuy 0 rfl) rfl 1 rfl rfl ?_
  refine kw_getR C (kdec dc_Stage_wouldBuy 1 rfl) 4 rfl fd_C_Stage_24_43 ?_
  refine kw_getR C (kdec dc_Stage_wouldBuy 2 rfl) 7 rfl fd_C_Stage_38_3 ?_
  refine kw_iconst C (kdec dc_Stage_wouldBuy 3 rfl) 8 rfl rfl ⟨by decide, by decide⟩ ?_
  obtain ⟨r_1, hg_8, h⟩ := kbind_h h
  refine kw_callV (As := [ki 2]) C (kdec dc_Stage_wouldBuy 4 rfl) 11 rfl cv_Stage_42 rfl rfl (mt_pf_Rules_has_7 l0 hg_8) ⟨rfl, rfl⟩ ⟨Nat.le_of_ble_eq_true rfl, Nat.le_of_ble_eq_true rfl⟩ ⟨Nat.zero_le _, Nat.zero_le _⟩ rfl (Nat.le_of_ble_eq_true rfl) ?_
  change KW x 0 0 Q σ 11 [some (kr 43), some (ki x1), some (ki x2)] [ki r_1]
  refine kw_if_ne C (kdec dc_Stage_wouldBuy 5 rfl) 16 14 (by decide) rfl (fun hc11 => ?_) (fun hc11 => ?_)
  · rw [if_neg hc11] at h
    refine kw_aload_n C (kdec dc_Stage_wouldBuy 8 rfl) rfl 17 rfl rfl ?_
    refine kw_iload_n C (kdec dc_Stage_wouldBuy 9 rfl) rfl 18 rfl rfl ?_
    refine kw_iload_n C (kdec dc_Stage_wouldBuy 10 rfl) rfl 19 rfl rfl ?_
    refine kw_aload_n C (kdec dc_Stage_wouldBuy 11 rfl) rfl 20 rfl rfl ?_
    refine kw_getR C (kdec dc_Stage_wouldBuy 12 rfl) 23 rfl fd_C_Stage_28_43 ?_
    refine kw_getR C (kdec dc_Stage_wouldBuy 13 rfl) 26 rfl fd_C_Stage_51_30 ?_
    refine kw_iconst C (kdec dc_Stage_wouldBuy 14 rfl) 27 rfl rfl ⟨by decide, by decide⟩ ?_
    refine kw_iload_n C (kdec dc_Stage_wouldBuy 15 rfl) rfl 28 rfl rfl ?_
    refine kw_iadd C (kdec dc_Stage_wouldBuy 16 rfl) 29 rfl ?_
    obtain ⟨hc_2, h⟩ := kchk_h h
    refine kw_iald C (kdec dc_Stage_wouldBuy 17 rfl) 30 rfl rfl hc_2.1 hc_2.2 ?_
    obtain ⟨σ_3, hg_7, h⟩ := kbind_h h
    refine kw_callV (As := [ki x1, ki x2, ki (σ 31 (w32 (1 + x2)).toNat)]) C (kdec dc_Stage_wouldBuy 18 rfl) 33 rfl cv_Stage_56 rfl rfl (mt_pf_Stage_setValues_43 l0 hg_7) ⟨rfl, rfl⟩ ⟨Nat.le_of_ble_eq_true rfl, Nat.le_of_ble_eq_true rfl⟩ ⟨Nat.zero_le _, Nat.zero_le _⟩ rfl (Nat.le_of_ble_eq_true rfl) ?_
    change KW x 0 0 Q σ_3 33 [some (kr 43), some (ki x1), some (ki x2)] []
    refine kw_aload_n C (kdec dc_Stage_wouldBuy 19 rfl) rfl 34 rfl rfl ?_
    refine kw_getR C (kdec dc_Stage_wouldBuy 20 rfl) 37 rfl fd_C_Stage_24_43 ?_
    refine kw_getR C (kdec dc_Stage_wouldBuy 21 rfl) 40 rfl fd_C_Stage_38_3 ?_
    refine kw_iconst C (kdec dc_Stage_wouldBuy 22 rfl) 41 rfl rfl ⟨by decide, by decide⟩ ?_
    refine kw_aload_n C (kdec dc_Stage_wouldBuy 23 rfl) rfl 42 rfl rfl ?_
    refine kw_getR C (kdec dc_Stage_wouldBuy 24 rfl) 45 rfl fd_C_Stage_20_43 ?_
    obtain ⟨⟨r_4, σ_5⟩, hg_6, h⟩ := kbind_h h
    dsimp only at h
    refine kw_callV (As := [ki 2, kr 49]) C (kdec dc_Stage_wouldBuy 25 rfl) 48 rfl cv_Stage_60 rfl rfl (mt_pf_Rules_worth_7_49 l0 hg_6) ⟨rfl, rfl⟩ ⟨Nat.le_of_ble_eq_true rfl, Nat.le_of_ble_eq_true rfl⟩ ⟨Nat.zero_le _, Nat.zero_le _⟩ rfl (Nat.le_of_ble_eq_true rfl) ?_
    change KW x 0 0 Q σ_5 48 [some (kr 43), some (ki x1), some (ki x2)] [ki r_4]
    refine kw_if_le C (kdec dc_Stage_wouldBuy 26 rfl) 55 51 (by decide) rfl (fun hc48 => ?_) (fun hc48 => ?_)
    · rw [if_pos hc48] at h
      refine kw_iconst C (kdec dc_Stage_wouldBuy 29 rfl) 56 rfl rfl ⟨by decide, by decide⟩ ?_
      obtain rfl := Option.some.inj h
      exact kw_Q (hR _ _ rfl) (kw_zreturn C (kdec dc_Stage_wouldBuy 30 rfl) (by decide))
    · rw [if_neg hc48] at h
      refine kw_iconst C (kdec dc_Stage_wouldBuy 27 rfl) 52 rfl rfl ⟨by decide, by decide⟩ ?_
      refine kw_goto C (kdec dc_Stage_wouldBuy 28 rfl) 56 (by decide) ?_
      obtain rfl := Option.some.inj h
      exact kw_Q (hR _ _ rfl) (kw_zreturn C (kdec dc_Stage_wouldBuy 30 rfl) (by decide))
  · rw [if_pos hc11] at h
    refine kw_iconst C (kdec dc_Stage_wouldBuy 6 rfl) 15 rfl rfl ⟨by decide, by decide⟩ ?_
    obtain rfl := Option.some.inj h
    exact kw_Q (hR _ _ rfl) (kw_zreturn C (kdec dc_Stage_wouldBuy 7 rfl) (by decide))
theorem mt_pf_Stage_wouldBuy_43 (l0 : Launch) {σ : kM} {x1 : Int} {x2 : Int} {r : Int} {τ : kM} (h : pf_Stage_wouldBuy_43 σ x1 x2 = some (r, τ)) : kMet l0 ky_Stage_wouldBuy prog_8_method_7_code 3 (some .boolean) R0_pf_Stage_wouldBuy_43 kcl yC σ [kr 43, ki x1, ki x2] (some (ki r)) τ := kMet.of' [some (kr 43), some (ki x1), some (ki x2)] (by decide) (Nat.le_of_ble_eq_true rfl) ⟨rfl, rfl, rfl, trivial⟩ (fun x C => bd_pf_Stage_wouldBuy_43 C σ x1 x2 h (fun r τ e => by cases e; rfl))
def R0_pf_Stage_sellVolumes_43 : Room := ({ frames := 3, cells := 0, slots := 0, locals := 69 } : Room)
def pf_Stage_sellVolumes_43_l10_j82 (σ : kM) (x1 : Int) (x3 : Int) : Option ((kM × Int) ⊕ ((kM))) :=
  klet (w32 (x3 + 1)) fun x3_2 =>
  some (Sum.inl (σ, x3_2))
set_option maxHeartbeats 4000000 in
theorem bd_pf_Stage_sellVolumes_43_l10_j82 {x : kX} {l0 : Launch} {Q : State → Prop} (C : kCx x prog_8_method_6_code "PoetFines$Stage" none kcl yC 4 l0 R0_pf_Stage_sellVolumes_43) (σ : kM) (x1 : Int) (x3 : Int) {out : (kM × Int) ⊕ ((kM))} (h : pf_Stage_sellVolumes_43_l10_j82 σ x1 x3 = some out) (hC : ∀ (σ' : kM) (x3' : Int), out = Sum.inl (σ', x3') → KW x 0 0 Q σ' 10 [some (kr 43), some (ki x1), some (kr 31), some (ki x3')] []) (hX88 : ∀ (σ' : kM), out = Sum.inr σ' → KW x 0 0 Q σ' 88 [none, none, none, none] []) : KW x 0 0 Q σ 82 [some (kr 43), some (ki x1), some (kr 31), some (ki x3)] [] := by
  unfold pf_Stage_sellVolumes_43_l10_j82 at h
  obtain ⟨x3_2, ex3_2, h⟩ := klet_h h
  refine kw_iinc (L' := [some (kr 43), some (ki x1), some (kr 31), some (ki x3_2)]) C (kdec dc_Stage_sellVolumes 56 rfl) 85 rfl rfl (by decide) rfl (by rw [ex3_2]; rfl) ?_
  refine kw_goto C (kdec dc_Stage_sellVolumes 57 rfl) 10 (by decide) ?_
  obtain rfl := Option.some.inj h
  exact (hC _ _ rfl)
def pf_Stage_sellVolumes_43_l10 (σ : kM) (x1 : Int) (x3 : Int) : Option ((kM × Int) ⊕ ((kM))) :=
  if (σ 3 1) ≤ x3 then
    some (Sum.inr σ)
  else
    kchk (0 ≤ (w32 (1 + x3)) ∧ (w32 (1 + x3)) < 85) <|
    if (σ 31 (w32 (1 + x3)).toNat) ≤ 0 then
      pf_Stage_sellVolumes_43_l10_j82 σ x1 x3
    else
      (pf_Stage_wouldBuy_43 σ x1 x3).bind fun (r_3, σ_4) =>
      if r_3 = 0 then
        pf_Stage_sellVolumes_43_l10_j82 σ_4 x1 x3
      else
        klet (w32 (1 + x3)) fun y_5 =>
        kchk (0 ≤ y_5 ∧ y_5 < 85) <|
        kchk (0 ≤ y_5 ∧ y_5 < 85) <|
        klet (kst σ_4 31 (kup (σ_4 31) y_5.toNat (w32 ((σ_4 31 y_5.toNat) - 1)))) fun σ_8 =>
        kchk (0 ≤ (w32 (49 + x1)) ∧ (w32 (49 + x1)) < 85) <|
        if 999 ≤ (σ_8 31 (w32 (49 + x1)).toNat) then
          pf_Stage_sellVolumes_43_l10_j82 σ_8 x1 x3
        else
          klet (w32 (49 + x1)) fun y_10 =>
          kchk (0 ≤ y_10 ∧ y_10 < 85) <|
          kchk (0 ≤ y_10 ∧ y_10 < 85) <|
          klet (kst σ_8 31 (kup (σ_8 31) y_10.toNat (w32 ((σ_8 31 y_10.toNat) + 1)))) fun σ_13 =>
          kchk (0 ≤ x1 ∧ x1 < 4) <|
          kchk (0 ≤ x1 ∧ x1 < 4) <|
          klet (kst σ_13 46 (kup (σ_13 46) x1.toNat (w32 ((σ_13 46 x1.toNat) + 1)))) fun σ_16 =>
          pf_Stage_sellVolumes_43_l10_j82 σ_16 x1 x3
set_option maxHeartbeats 4000000 in
theorem bd_pf_Stage_sellVolumes_43_l10 {x : kX} {l0 : Launch} {Q : State → Prop} (C : kCx x prog_8_method_6_code "PoetFines$Stage" none kcl yC 4 l0 R0_pf_Stage_sellVolumes_43) (σ : kM) (x1 : Int) (x3 : Int) {out : (kM × Int) ⊕ ((kM))} (h : pf_Stage_sellVolumes_43_l10 σ x1 x3 = some out) (hC : ∀ (σ' : kM) (x3' : Int), out = Sum.inl (σ', x3') → KW x 0 0 Q σ' 10 [some (kr 43), some (ki x1), some (kr 31), some (ki x3')] []) (hX88 : ∀ (σ' : kM), out = Sum.inr σ' → KW x 0 0 Q σ' 88 [none, none, none, none] []) : KW x 0 0 Q σ 10 [some (kr 43), some (ki x1), some (kr 31), some (ki x3)] [] := by
  unfold pf_Stage_sellVolumes_43_l10 at h
  refine kw_iload_n C (kdec dc_Stage_sellVolumes 6 rfl) rfl 11 rfl rfl ?_
  refine kw_aload_n C (kdec dc_Stage_sellVolumes 7 rfl) rfl 12 rfl rfl ?_
  refine kw_getR C (kdec dc_Stage_sellVolumes 8 rfl) 15 rfl fd_C_Stage_24_43 ?_
  refine kw_getI C (kdec dc_Stage_sellVolumes 9 rfl) 18 rfl fd_C_Stage_91_3 ?_
  refine kw_icmp_ge C (kdec dc_Stage_sellVolumes 10 rfl) 88 21 (by decide) rfl (fun hc18 => ?_) (fun hc18 => ?_)
  · rw [if_pos hc18] at h
    obtain rfl := Option.some.inj h
    exact kw_sub (L' := [none, none, none, none]) trivial (hX88 _ rfl)
  · rw [if_neg hc18] at h
    refine kw_aload_n C (kdec dc_Stage_sellVolumes 11 rfl) rfl 22 rfl rfl ?_
    refine kw_iconst C (kdec dc_Stage_sellVolumes 12 rfl) 23 rfl rfl ⟨by decide, by decide⟩ ?_
    refine kw_iload_n C (kdec dc_Stage_sellVolumes 13 rfl) rfl 24 rfl rfl ?_
    refine kw_iadd C (kdec dc_Stage_sellVolumes 14 rfl) 25 rfl ?_
    obtain ⟨hc_1, h⟩ := kchk_h h
    refine kw_iald C (kdec dc_Stage_sellVolumes 15 rfl) 26 rfl rfl hc_1.1 hc_1.2 ?_
    refine kw_if_le C (kdec dc_Stage_sellVolumes 16 rfl) 82 29 (by decide) rfl (fun hc26 => ?_) (fun hc26 => ?_)
    · rw [if_pos hc26] at h
      exact bd_pf_Stage_sellVolumes_43_l10_j82 C σ x1 x3 h hC hX88
    · rw [if_neg hc26] at h
      refine kw_aload_n C (kdec dc_Stage_sellVolumes 17 rfl) rfl 30 rfl rfl ?_
      refine kw_iload_n C (kdec dc_Stage_sellVolumes 18 rfl) rfl 31 rfl rfl ?_
      refine kw_iload_n C (kdec dc_Stage_sellVolumes 19 rfl) rfl 32 rfl rfl ?_
      obtain ⟨⟨r_3, σ_4⟩, hg_17, h⟩ := kbind_h h
      dsimp only at h
      refine kw_callV (As := [ki x1, ki x3]) C (kdec dc_Stage_sellVolumes 20 rfl) 35 rfl cv_Stage_94 rfl rfl (mt_pf_Stage_wouldBuy_43 l0 hg_17) ⟨rfl, rfl⟩ ⟨Nat.le_of_ble_eq_true rfl, Nat.le_of_ble_eq_true rfl⟩ ⟨Nat.zero_le _, Nat.zero_le _⟩ rfl (Nat.le_of_ble_eq_true rfl) ?_
      change KW x 0 0 Q σ_4 35 [some (kr 43), some (ki x1), some (kr 31), some (ki x3)] [ki r_3]
      refine kw_if_eq C (kdec dc_Stage_sellVolumes 21 rfl) 82 38 (by decide) rfl (fun hc35 => ?_) (fun hc35 => ?_)
      · rw [if_pos hc35] at h
        exact bd_pf_Stage_sellVolumes_43_l10_j82 C σ_4 x1 x3 h hC hX88
      · rw [if_neg hc35] at h
        refine kw_aload_n C (kdec dc_Stage_sellVolumes 22 rfl) rfl 39 rfl rfl ?_
        refine kw_iconst C (kdec dc_Stage_sellVolumes 23 rfl) 40 rfl rfl ⟨by decide, by decide⟩ ?_
        refine kw_iload_n C (kdec dc_Stage_sellVolumes 24 rfl) rfl 41 rfl rfl ?_
        refine kw_iadd C (kdec dc_Stage_sellVolumes 25 rfl) 42 rfl ?_
        obtain ⟨y_5, ey_5, h⟩ := klet_h h
        refine kw_top ey_5 ?_
        refine kw_dup2 C (kdec dc_Stage_sellVolumes 26 rfl) 43 rfl rfl rfl ?_
        obtain ⟨hc_6, h⟩ := kchk_h h
        refine kw_iald C (kdec dc_Stage_sellVolumes 27 rfl) 44 rfl rfl hc_6.1 hc_6.2 ?_
        refine kw_iconst C (kdec dc_Stage_sellVolumes 28 rfl) 45 rfl rfl ⟨by decide, by decide⟩ ?_
        refine kw_isub C (kdec dc_Stage_sellVolumes 29 rfl) 46 rfl ?_
        obtain ⟨hc_7, h⟩ := kchk_h h
        obtain ⟨σ_8, eσ_8, h⟩ := klet_h h
        refine kw_iast C (kdec dc_Stage_sellVolumes 30 rfl) 47 rfl rfl hc_7.1 hc_7.2 ?_
        refine kw_sig eσ_8 ?_
        refine kw_aload_n C (kdec dc_Stage_sellVolumes 31 rfl) rfl 48 rfl rfl ?_
        refine kw_bipush (v := 49) C (kdec dc_Stage_sellVolumes 32 rfl) 50 rfl (by decide) ⟨by decide, by decide⟩ ?_
        refine kw_iload_n C (kdec dc_Stage_sellVolumes 33 rfl) rfl 51 rfl rfl ?_
        refine kw_iadd C (kdec dc_Stage_sellVolumes 34 rfl) 52 rfl ?_
        obtain ⟨hc_9, h⟩ := kchk_h h
        refine kw_iald C (kdec dc_Stage_sellVolumes 35 rfl) 53 rfl rfl hc_9.1 hc_9.2 ?_
        refine kw_sipush (v := 999) C (kdec dc_Stage_sellVolumes 36 rfl) 56 rfl (by decide) ⟨by decide, by decide⟩ ?_
        refine kw_icmp_ge C (kdec dc_Stage_sellVolumes 37 rfl) 82 59 (by decide) rfl (fun hc56 => ?_) (fun hc56 => ?_)
        · rw [if_pos hc56] at h
          exact bd_pf_Stage_sellVolumes_43_l10_j82 C σ_8 x1 x3 h hC hX88
        · rw [if_neg hc56] at h
          refine kw_aload_n C (kdec dc_Stage_sellVolumes 38 rfl) rfl 60 rfl rfl ?_
          refine kw_bipush (v := 49) C (kdec dc_Stage_sellVolumes 39 rfl) 62 rfl (by decide) ⟨by decide, by decide⟩ ?_
          refine kw_iload_n C (kdec dc_Stage_sellVolumes 40 rfl) rfl 63 rfl rfl ?_
          refine kw_iadd C (kdec dc_Stage_sellVolumes 41 rfl) 64 rfl ?_
          obtain ⟨y_10, ey_10, h⟩ := klet_h h
          refine kw_top ey_10 ?_
          refine kw_dup2 C (kdec dc_Stage_sellVolumes 42 rfl) 65 rfl rfl rfl ?_
          obtain ⟨hc_11, h⟩ := kchk_h h
          refine kw_iald C (kdec dc_Stage_sellVolumes 43 rfl) 66 rfl rfl hc_11.1 hc_11.2 ?_
          refine kw_iconst C (kdec dc_Stage_sellVolumes 44 rfl) 67 rfl rfl ⟨by decide, by decide⟩ ?_
          refine kw_iadd C (kdec dc_Stage_sellVolumes 45 rfl) 68 rfl ?_
          obtain ⟨hc_12, h⟩ := kchk_h h
          obtain ⟨σ_13, eσ_13, h⟩ := klet_h h
          refine kw_iast C (kdec dc_Stage_sellVolumes 46 rfl) 69 rfl rfl hc_12.1 hc_12.2 ?_
          refine kw_sig eσ_13 ?_
          refine kw_aload_n C (kdec dc_Stage_sellVolumes 47 rfl) rfl 70 rfl rfl ?_
          refine kw_getR C (kdec dc_Stage_sellVolumes 48 rfl) 73 rfl fd_C_Stage_12_43 ?_
          refine kw_getR C (kdec dc_Stage_sellVolumes 49 rfl) 76 rfl fd_C_Stage_98_44 ?_
          refine kw_iload_n C (kdec dc_Stage_sellVolumes 50 rfl) rfl 77 rfl rfl ?_
          refine kw_dup2 C (kdec dc_Stage_sellVolumes 51 rfl) 78 rfl rfl rfl ?_
          obtain ⟨hc_14, h⟩ := kchk_h h
          refine kw_iald C (kdec dc_Stage_sellVolumes 52 rfl) 79 rfl rfl hc_14.1 hc_14.2 ?_
          refine kw_iconst C (kdec dc_Stage_sellVolumes 53 rfl) 80 rfl rfl ⟨by decide, by decide⟩ ?_
          refine kw_iadd C (kdec dc_Stage_sellVolumes 54 rfl) 81 rfl ?_
          obtain ⟨hc_15, h⟩ := kchk_h h
          obtain ⟨σ_16, eσ_16, h⟩ := klet_h h
          refine kw_iast C (kdec dc_Stage_sellVolumes 55 rfl) 82 rfl rfl hc_15.1 hc_15.2 ?_
          refine kw_sig eσ_16 ?_
          exact bd_pf_Stage_sellVolumes_43_l10_j82 C σ_16 x1 x3 h hC hX88
theorem lp_pf_Stage_sellVolumes_43_l10 {x : kX} {l0 : Launch} {Q : State → Prop} (C : kCx x prog_8_method_6_code "PoetFines$Stage" none kcl yC 4 l0 R0_pf_Stage_sellVolumes_43) (x1 : Int) {ex : (kM)} (hX88 : ∀ (σ' : kM), ex = σ' → KW x 0 0 Q σ' 88 [none, none, none, none] []) (n : Nat) (σ : kM) (x3 : Int) (h : kloop (fun st => pf_Stage_sellVolumes_43_l10 st.1 x1 st.2) n (σ, x3) = some ex) : KW x 0 0 Q σ 10 [some (kr 43), some (ki x1), some (kr 31), some (ki x3)] [] :=
  kloop_ind (P := (fun st : kM × Int => KW x 0 0 Q st.1 10 [some (kr 43), some (ki x1), some (kr 31), some (ki (st.2))] [])) (fun st out hb hc hx => bd_pf_Stage_sellVolumes_43_l10 C st.1 x1 st.2 hb (fun a0 a1 e => hc _ e) (fun a0 e => hX88 _ ((hx _ e).symm))) n (σ, x3) h
def pf_Stage_sellVolumes_43 (σ : kM) (x1 : Int) : Option (kM) :=
  (kloop (fun st => pf_Stage_sellVolumes_43_l10 st.1 x1 st.2) kFuel (σ, 0)).bind fun σ_20 =>
  some σ_20
set_option maxHeartbeats 4000000 in
theorem bd_pf_Stage_sellVolumes_43 {x : kX} {l0 : Launch} {Q : State → Prop} (C : kCx x prog_8_method_6_code "PoetFines$Stage" none kcl yC 4 l0 R0_pf_Stage_sellVolumes_43) (σ : kM) (x1 : Int) {out : kM} (h : pf_Stage_sellVolumes_43 σ x1 = some out) (hR : ∀ (τ : kM), out = τ → Q = kQ x none τ 0 0) : KW x 0 0 Q σ 0 [some (kr 43), some (ki x1), none, none] [] := by
  unfold pf_Stage_sellVolumes_43 at h
  refine kw_aload_n C (kdec dc_Stage_sellVolumes 0 rfl) rfl 1 rfl rfl ?_
  refine kw_getR C (kdec dc_Stage_sellVolumes 1 rfl) 4 rfl fd_C_Stage_28_43 ?_
  refine kw_getR C (kdec dc_Stage_sellVolumes 2 rfl) 7 rfl fd_C_Stage_51_30 ?_
  refine kw_astore_n (L' := [some (kr 43), some (ki x1), some (kr 31), none]) C (kdec dc_Stage_sellVolumes 3 rfl) rfl 8 rfl (by decide) rfl rfl ?_
  refine kw_iconst C (kdec dc_Stage_sellVolumes 4 rfl) 9 rfl rfl ⟨by decide, by decide⟩ ?_
  refine kw_istore_n (L' := [some (kr 43), some (ki x1), some (kr 31), some (ki 0)]) C (kdec dc_Stage_sellVolumes 5 rfl) rfl 10 rfl (by decide) rfl rfl ?_
  obtain ⟨ex_18, hl_19, h⟩ := kbind_h h
  refine lp_pf_Stage_sellVolumes_43_l10 C x1 ?_ kFuel σ 0 hl_19
  · intro σ_20 e
    subst ex_18
    try dsimp only at h
    obtain rfl := Option.some.inj h
    exact kw_Q (hR _ rfl) (kw_return C (kdec dc_Stage_sellVolumes 58 rfl))
theorem mt_pf_Stage_sellVolumes_43 (l0 : Launch) {σ : kM} {x1 : Int} {τ : kM} (h : pf_Stage_sellVolumes_43 σ x1 = some τ) : kMet l0 ky_Stage_sellVolumes prog_8_method_6_code 4 none R0_pf_Stage_sellVolumes_43 kcl yC σ [kr 43, ki x1] none τ := kMet.of' [some (kr 43), some (ki x1), none, none] (by decide) (Nat.le_of_ble_eq_true rfl) ⟨rfl, rfl, trivial⟩ (fun x C => bd_pf_Stage_sellVolumes_43 C σ x1 h (fun τ e => by subst e; rfl))
def R0_pf_Stage_payFine_43 : Room := ({ frames := 1, cells := 0, slots := 0, locals := 21 } : Room)
def pf_Stage_payFine_43 (σ : kM) (x1 : Int) (x2 : Int) (x3 : Int) : Option (Int × kM) :=
  kchk (0 ≤ (w32 (49 + x1)) ∧ (w32 (49 + x1)) < 85) <|
  klet (min x3 (σ 31 (w32 (49 + x1)).toNat)) fun x5_2 =>
  klet (w32 (49 + x1)) fun y_3 =>
  kchk (0 ≤ y_3 ∧ y_3 < 85) <|
  kchk (0 ≤ y_3 ∧ y_3 < 85) <|
  klet (kst σ 31 (kup (σ 31) y_3.toNat (w32 ((σ 31 y_3.toNat) - x5_2)))) fun σ_6 =>
  kchk (0 ≤ (w32 (1 + x2)) ∧ (w32 (1 + x2)) < 85) <|
  kchk (0 ≤ (w32 (1 + x2)) ∧ (w32 (1 + x2)) < 85) <|
  klet (kst σ_6 31 (kup (σ_6 31) ((w32 (1 + x2)).toNat) (min (w32 ((σ_6 31 (w32 (1 + x2)).toNat) + x5_2)) 999))) fun σ_9 =>
  kchk (0 ≤ x1 ∧ x1 < 4) <|
  kchk (0 ≤ x1 ∧ x1 < 4) <|
  klet (kst σ_9 45 (kup (σ_9 45) x1.toNat (w32 ((σ_9 45 x1.toNat) + x5_2)))) fun σ_12 =>
  some ((x5_2, σ_12))
set_option maxHeartbeats 4000000 in
theorem bd_pf_Stage_payFine_43 {x : kX} {l0 : Launch} {Q : State → Prop} (C : kCx x prog_8_method_9_code "PoetFines$Stage" (some .int) kcl yC 6 l0 R0_pf_Stage_payFine_43) (σ : kM) (x1 : Int) (x2 : Int) (x3 : Int) {out : Int × kM} (h : pf_Stage_payFine_43 σ x1 x2 x3 = some out) (hR : ∀ (r : Int) (τ : kM), out = (r, τ) → Q = kQ x (some (ki r)) τ 0 0) : KW x 0 0 Q σ 0 [some (kr 43), some (ki x1), some (ki x2), some (ki x3), none, none] [] := by
  unfold pf_Stage_payFine_43 at h
  refine kw_aload_n C (kdec dc_Stage_payFine 0 rfl) rfl 1 rfl rfl ?_
  refine kw_getR C (kdec dc_Stage_payFine 1 rfl) 4 rfl fd_C_Stage_28_43 ?_
  refine kw_getR C (kdec dc_Stage_payFine 2 rfl) 7 rfl fd_C_Stage_51_30 ?_
  refine kw_astore (L' := [some (kr 43), some (ki x1), some (ki x2), some (ki x3), some (kr 31), none]) C (kdec dc_Stage_payFine 3 rfl) 9 rfl (by decide) rfl rfl ?_
  refine kw_iload_n C (kdec dc_Stage_payFine 4 rfl) rfl 10 rfl rfl ?_
  refine kw_aload C (kdec dc_Stage_payFine 5 rfl) 12 rfl rfl ?_
  refine kw_bipush (v := 49) C (kdec dc_Stage_payFine 6 rfl) 14 rfl (by decide) ⟨by decide, by decide⟩ ?_
  refine kw_iload_n C (kdec dc_Stage_payFine 7 rfl) rfl 15 rfl rfl ?_
  refine kw_iadd C (kdec dc_Stage_payFine 8 rfl) 16 rfl ?_
  obtain ⟨hc_1, h⟩ := kchk_h h
  refine kw_iald C (kdec dc_Stage_payFine 9 rfl) 17 rfl rfl hc_1.1 hc_1.2 ?_
  refine kw_min C (kdec dc_Stage_payFine 10 rfl) 20 rfl cm_Stage_46 ⟨Nat.le_of_ble_eq_true rfl, Nat.le_of_ble_eq_true rfl⟩ ⟨Nat.zero_le _, Nat.zero_le _⟩ (Nat.le_of_ble_eq_true rfl) ?_
  obtain ⟨x5_2, ex5_2, h⟩ := klet_h h
  refine kw_top ex5_2 ?_
  refine kw_istore (L' := [some (kr 43), some (ki x1), some (ki x2), some (ki x3), some (kr 31), some (ki x5_2)]) C (kdec dc_Stage_payFine 11 rfl) 22 rfl (by decide) rfl rfl ?_
  refine kw_aload C (kdec dc_Stage_payFine 12 rfl) 24 rfl rfl ?_
  refine kw_bipush (v := 49) C (kdec dc_Stage_payFine 13 rfl) 26 rfl (by decide) ⟨by decide, by decide⟩ ?_
  refine kw_iload_n C (kdec dc_Stage_payFine 14 rfl) rfl 27 rfl rfl ?_
  refine kw_iadd C (kdec dc_Stage_payFine 15 rfl) 28 rfl ?_
  obtain ⟨y_3, ey_3, h⟩ := klet_h h
  refine kw_top ey_3 ?_
  refine kw_dup2 C (kdec dc_Stage_payFine 16 rfl) 29 rfl rfl rfl ?_
  obtain ⟨hc_4, h⟩ := kchk_h h
  refine kw_iald C (kdec dc_Stage_payFine 17 rfl) 30 rfl rfl hc_4.1 hc_4.2 ?_
  refine kw_iload C (kdec dc_Stage_payFine 18 rfl) 32 rfl rfl ?_
  refine kw_isub C (kdec dc_Stage_payFine 19 rfl) 33 rfl ?_
  obtain ⟨hc_5, h⟩ := kchk_h h
  obtain ⟨σ_6, eσ_6, h⟩ := klet_h h
  refine kw_iast C (kdec dc_Stage_payFine 20 rfl) 34 rfl rfl hc_5.1 hc_5.2 ?_
  refine kw_sig eσ_6 ?_
  refine kw_aload C (kdec dc_Stage_payFine 21 rfl) 36 rfl rfl ?_
  refine kw_iconst C (kdec dc_Stage_payFine 22 rfl) 37 rfl rfl ⟨by decide, by decide⟩ ?_
  refine kw_iload_n C (kdec dc_Stage_payFine 23 rfl) rfl 38 rfl rfl ?_
  refine kw_iadd C (kdec dc_Stage_payFine 24 rfl) 39 rfl ?_
  refine kw_aload C (kdec dc_Stage_payFine 25 rfl) 41 rfl rfl ?_
  refine kw_iconst C (kdec dc_Stage_payFine 26 rfl) 42 rfl rfl ⟨by decide, by decide⟩ ?_
  refine kw_iload_n C (kdec dc_Stage_payFine 27 rfl) rfl 43 rfl rfl ?_
  refine kw_iadd C (kdec dc_Stage_payFine 28 rfl) 44 rfl ?_
  obtain ⟨hc_7, h⟩ := kchk_h h
  refine kw_iald C (kdec dc_Stage_payFine 29 rfl) 45 rfl rfl hc_7.1 hc_7.2 ?_
  refine kw_iload C (kdec dc_Stage_payFine 30 rfl) 47 rfl rfl ?_
  refine kw_iadd C (kdec dc_Stage_payFine 31 rfl) 48 rfl ?_
  refine kw_sipush (v := 999) C (kdec dc_Stage_payFine 32 rfl) 51 rfl (by decide) ⟨by decide, by decide⟩ ?_
  refine kw_min C (kdec dc_Stage_payFine 33 rfl) 54 rfl cm_Stage_46 ⟨Nat.le_of_ble_eq_true rfl, Nat.le_of_ble_eq_true rfl⟩ ⟨Nat.zero_le _, Nat.zero_le _⟩ (Nat.le_of_ble_eq_true rfl) ?_
  obtain ⟨hc_8, h⟩ := kchk_h h
  obtain ⟨σ_9, eσ_9, h⟩ := klet_h h
  refine kw_iast C (kdec dc_Stage_payFine 34 rfl) 55 rfl rfl hc_8.1 hc_8.2 ?_
  refine kw_sig eσ_9 ?_
  refine kw_aload_n C (kdec dc_Stage_payFine 35 rfl) rfl 56 rfl rfl ?_
  refine kw_getR C (kdec dc_Stage_payFine 36 rfl) 59 rfl fd_C_Stage_12_43 ?_
  refine kw_getR C (kdec dc_Stage_payFine 37 rfl) 62 rfl fd_C_Stage_130_44 ?_
  refine kw_iload_n C (kdec dc_Stage_payFine 38 rfl) rfl 63 rfl rfl ?_
  refine kw_dup2 C (kdec dc_Stage_payFine 39 rfl) 64 rfl rfl rfl ?_
  obtain ⟨hc_10, h⟩ := kchk_h h
  refine kw_iald C (kdec dc_Stage_payFine 40 rfl) 65 rfl rfl hc_10.1 hc_10.2 ?_
  refine kw_iload C (kdec dc_Stage_payFine 41 rfl) 67 rfl rfl ?_
  refine kw_iadd C (kdec dc_Stage_payFine 42 rfl) 68 rfl ?_
  obtain ⟨hc_11, h⟩ := kchk_h h
  obtain ⟨σ_12, eσ_12, h⟩ := klet_h h
  refine kw_iast C (kdec dc_Stage_payFine 43 rfl) 69 rfl rfl hc_11.1 hc_11.2 ?_
  refine kw_sig eσ_12 ?_
  refine kw_iload C (kdec dc_Stage_payFine 44 rfl) 71 rfl rfl ?_
  obtain rfl := Option.some.inj h
  exact kw_Q (hR _ _ rfl) (kw_ireturn C (kdec dc_Stage_payFine 45 rfl))
theorem mt_pf_Stage_payFine_43 (l0 : Launch) {σ : kM} {x1 : Int} {x2 : Int} {x3 : Int} {r : Int} {τ : kM} (h : pf_Stage_payFine_43 σ x1 x2 x3 = some (r, τ)) : kMet l0 ky_Stage_payFine prog_8_method_9_code 6 (some .int) R0_pf_Stage_payFine_43 kcl yC σ [kr 43, ki x1, ki x2, ki x3] (some (ki r)) τ := kMet.of' [some (kr 43), some (ki x1), some (ki x2), some (ki x3), none, none] (by decide) (Nat.le_of_ble_eq_true rfl) ⟨rfl, rfl, rfl, rfl, trivial⟩ (fun x C => bd_pf_Stage_payFine_43 C σ x1 x2 x3 h (fun r τ e => by cases e; rfl))
def R0_pf_Tally_addHit_44 : Room := ({ frames := 1, cells := 0, slots := 0, locals := 21 } : Room)
def pf_Tally_addHit_44 (σ : kM) (x1 : Int) (x2 : Int) (x3 : Int) : Option (kM) :=
  klet (w32 ((w32 (x1 * 8)) + x2)) fun y_1 =>
  kchk (0 ≤ y_1 ∧ y_1 < 32) <|
  kchk (0 ≤ y_1 ∧ y_1 < 32) <|
  klet (kst σ 48 (kup (σ 48) y_1.toNat (w32 ((σ 48 y_1.toNat) + x3)))) fun σ_4 =>
  klet (kst σ_4 44 (kup (σ_4 44) 4 (w32 ((σ_4 44 4) + x3)))) fun σ_5 =>
  klet (kst σ_5 44 (kup (σ_5 44) 5 (w32 ((σ_5 44 5) + 1)))) fun σ_6 =>
  klet (kst σ_6 44 (kup (σ_6 44) 6 (kor (σ_6 44 6) (kshl 1 x2)))) fun σ_7 =>
  klet (kst σ_7 44 (kup (σ_7 44) 8 (max (σ_7 44 8) x3))) fun σ_8 =>
  some σ_8
set_option maxHeartbeats 4000000 in
theorem bd_pf_Tally_addHit_44 {x : kX} {l0 : Launch} {Q : State → Prop} (C : kCx x prog_9_method_3_code "PoetFines$Tally" none kcl yC 4 l0 R0_pf_Tally_addHit_44) (σ : kM) (x1 : Int) (x2 : Int) (x3 : Int) {out : kM} (h : pf_Tally_addHit_44 σ x1 x2 x3 = some out) (hR : ∀ (τ : kM), out = τ → Q = kQ x none τ 0 0) : KW x 0 0 Q σ 0 [some (kr 44), some (ki x1), some (ki x2), some (ki x3)] [] := by
  unfold pf_Tally_addHit_44 at h
  refine kw_aload_n C (kdec dc_Tally_addHit 0 rfl) rfl 1 rfl rfl ?_
  refine kw_getR C (kdec dc_Tally_addHit 1 rfl) 4 rfl fd_C_Tally_21_44 ?_
  refine kw_iload_n C (kdec dc_Tally_addHit 2 rfl) rfl 5 rfl rfl ?_
  refine kw_bipush (v := 8) C (kdec dc_Tally_addHit 3 rfl) 7 rfl (by decide) ⟨by decide, by decide⟩ ?_
  refine kw_imul C (kdec dc_Tally_addHit 4 rfl) 8 rfl ?_
  refine kw_iload_n C (kdec dc_Tally_addHit 5 rfl) rfl 9 rfl rfl ?_
  refine kw_iadd C (kdec dc_Tally_addHit 6 rfl) 10 rfl ?_
  obtain ⟨y_1, ey_1, h⟩ := klet_h h
  refine kw_top ey_1 ?_
  refine kw_dup2 C (kdec dc_Tally_addHit 7 rfl) 11 rfl rfl rfl ?_
  obtain ⟨hc_2, h⟩ := kchk_h h
  refine kw_iald C (kdec dc_Tally_addHit 8 rfl) 12 rfl rfl hc_2.1 hc_2.2 ?_
  refine kw_iload_n C (kdec dc_Tally_addHit 9 rfl) rfl 13 rfl rfl ?_
  refine kw_iadd C (kdec dc_Tally_addHit 10 rfl) 14 rfl ?_
  obtain ⟨hc_3, h⟩ := kchk_h h
  obtain ⟨σ_4, eσ_4, h⟩ := klet_h h
  refine kw_iast C (kdec dc_Tally_addHit 11 rfl) 15 rfl rfl hc_3.1 hc_3.2 ?_
  refine kw_sig eσ_4 ?_
  refine kw_aload_n C (kdec dc_Tally_addHit 12 rfl) rfl 16 rfl rfl ?_
  refine kw_dup C (kdec dc_Tally_addHit 13 rfl) 17 rfl rfl ?_
  refine kw_getI C (kdec dc_Tally_addHit 14 rfl) 20 rfl fd_C_Tally_24_44 ?_
  refine kw_iload_n C (kdec dc_Tally_addHit 15 rfl) rfl 21 rfl rfl ?_
  refine kw_iadd C (kdec dc_Tally_addHit 16 rfl) 22 rfl ?_
  obtain ⟨σ_5, eσ_5, h⟩ := klet_h h
  refine kw_putI C (kdec dc_Tally_addHit 17 rfl) 25 rfl fp_C_Tally_24_44 ?_
  refine kw_sig eσ_5 ?_
  refine kw_aload_n C (kdec dc_Tally_addHit 18 rfl) rfl 26 rfl rfl ?_
  refine kw_dup C (kdec dc_Tally_addHit 19 rfl) 27 rfl rfl ?_
  refine kw_getI C (kdec dc_Tally_addHit 20 rfl) 30 rfl fd_C_Tally_28_44 ?_
  refine kw_iconst C (kdec dc_Tally_addHit 21 rfl) 31 rfl rfl ⟨by decide, by decide⟩ ?_
  refine kw_iadd C (kdec dc_Tally_addHit 22 rfl) 32 rfl ?_
  obtain ⟨σ_6, eσ_6, h⟩ := klet_h h
  refine kw_putI C (kdec dc_Tally_addHit 23 rfl) 35 rfl fp_C_Tally_28_44 ?_
  refine kw_sig eσ_6 ?_
  refine kw_aload_n C (kdec dc_Tally_addHit 24 rfl) rfl 36 rfl rfl ?_
  refine kw_dup C (kdec dc_Tally_addHit 25 rfl) 37 rfl rfl ?_
  refine kw_getI C (kdec dc_Tally_addHit 26 rfl) 40 rfl fd_C_Tally_31_44 ?_
  refine kw_iconst C (kdec dc_Tally_addHit 27 rfl) 41 rfl rfl ⟨by decide, by decide⟩ ?_
  refine kw_iload_n C (kdec dc_Tally_addHit 28 rfl) rfl 42 rfl rfl ?_
  refine kw_ishl C (kdec dc_Tally_addHit 29 rfl) 43 rfl ?_
  refine kw_ior C (kdec dc_Tally_addHit 30 rfl) 44 rfl ?_
  obtain ⟨σ_7, eσ_7, h⟩ := klet_h h
  refine kw_putI C (kdec dc_Tally_addHit 31 rfl) 47 rfl fp_C_Tally_31_44 ?_
  refine kw_sig eσ_7 ?_
  refine kw_aload_n C (kdec dc_Tally_addHit 32 rfl) rfl 48 rfl rfl ?_
  refine kw_aload_n C (kdec dc_Tally_addHit 33 rfl) rfl 49 rfl rfl ?_
  refine kw_getI C (kdec dc_Tally_addHit 34 rfl) 52 rfl fd_C_Tally_37_44 ?_
  refine kw_iload_n C (kdec dc_Tally_addHit 35 rfl) rfl 53 rfl rfl ?_
  refine kw_max C (kdec dc_Tally_addHit 36 rfl) 56 rfl cm_Tally_43 ⟨Nat.le_of_ble_eq_true rfl, Nat.le_of_ble_eq_true rfl⟩ ⟨Nat.zero_le _, Nat.zero_le _⟩ (Nat.le_of_ble_eq_true rfl) ?_
  obtain ⟨σ_8, eσ_8, h⟩ := klet_h h
  refine kw_putI C (kdec dc_Tally_addHit 37 rfl) 59 rfl fp_C_Tally_37_44 ?_
  refine kw_sig eσ_8 ?_
  obtain rfl := Option.some.inj h
  exact kw_Q (hR _ rfl) (kw_return C (kdec dc_Tally_addHit 38 rfl))
theorem mt_pf_Tally_addHit_44 (l0 : Launch) {σ : kM} {x1 : Int} {x2 : Int} {x3 : Int} {τ : kM} (h : pf_Tally_addHit_44 σ x1 x2 x3 = some τ) : kMet l0 ky_Tally_addHit prog_9_method_3_code 4 none R0_pf_Tally_addHit_44 kcl yC σ [kr 44, ki x1, ki x2, ki x3] none τ := kMet.of' [some (kr 44), some (ki x1), some (ki x2), some (ki x3)] (by decide) (Nat.le_of_ble_eq_true rfl) ⟨rfl, rfl, rfl, rfl, trivial⟩ (fun x C => bd_pf_Tally_addHit_44 C σ x1 x2 x3 h (fun τ e => by subst e; rfl))

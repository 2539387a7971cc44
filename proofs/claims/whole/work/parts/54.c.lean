def R0_pf_P_accidents_0 : Room := ({ frames := 7, cells := 3, slots := 18, locals := 174 } : Room)
def pf_P_accidents_0 (σ : kM) (x1 : Int) (x2 : Int) (x3 : Int) : Option ((String ⊕ Int) × kM) :=
  (pf_P_needPerson_0 σ x1).bind fun q_15 => match q_15 with
  | (.inl E_3, σ_1) => some (.inl E_3, σ_1)
  | (.inr _, σ_1) =>
    (pf_P_needWithin_0 σ_1 x2 1 5).bind fun q_14 => match q_14 with
    | (.inl E_6, σ_4) => some (.inl E_6, σ_4)
    | (.inr _, σ_4) =>
      (pf_P_needWithin_0 σ_4 x3 0 10).bind fun q_13 => match q_13 with
      | (.inl E_9, σ_7) => some (.inl E_9, σ_7)
      | (.inr _, σ_7) =>
        (pf_Oracle_chanceWhole_57 σ_7 x1 x2 x3).bind fun (r_10, σ_11) =>
        some ((.inr r_10, σ_11))
set_option maxHeartbeats 4000000 in
theorem bd_pf_P_accidents_0 {x : kX} {l0 : Launch} {Q : State → Prop} (C : kCx x prog_1_method_31_code "PoetFines" (some .int) kcl yC 4 l0 R0_pf_P_accidents_0) (hT : kTb x) (hfl : l0.stackTraces = false) (σ : kM) (x1 : Int) (x2 : Int) (x3 : Int) {out : (String ⊕ Int) × kM} (h : pf_P_accidents_0 σ x1 x2 x3 = some out) (hR : ∀ (r : Int) (τ : kM), out = (.inr r, τ) → Q = kQX x (.inr (some (ki r))) τ 3 18) (hE : ∀ (E : String) (τ : kM), out = (.inl E, τ) → Q = kQX x (.inl E) τ 3 18) : KW x 0 0 Q σ 0 [some (kr 0), some (ki x1), some (ki x2), some (ki x3)] [] := by
  unfold pf_P_accidents_0 at h
  refine kw_aload_n C (kdec dc_P_accidents 0 rfl) rfl 1 rfl rfl ?_
  refine kw_iload_n C (kdec dc_P_accidents 1 rfl) rfl 2 rfl rfl ?_
  obtain ⟨⟨q_15, σ_1⟩, hg_2, h⟩ := kbind_h h
  rcases q_15 with E_3 | _
  · dsimp only at h
    obtain rfl := Option.some.inj h
    exact kw_Q (hE _ _ rfl) (kw_callVX_t (As := [ki x1]) C hT (kdec dc_P_accidents 2 rfl) cv_P_148 rfl rfl (me_pf_P_needPerson_0 l0 hfl hg_2) ⟨rfl, rfl⟩ ⟨Nat.le_of_ble_eq_true rfl, Nat.le_of_ble_eq_true rfl⟩ ⟨Nat.le_of_ble_eq_true rfl, Nat.le_of_ble_eq_true rfl⟩ rfl (Nat.le_of_ble_eq_true rfl) (Nat.le_of_ble_eq_true rfl) (Nat.le_of_ble_eq_true rfl))
  · dsimp only at h
    refine kw_callVX (As := [ki x1]) C (kdec dc_P_accidents 2 rfl) 5 rfl cv_P_148 rfl rfl (mx_pf_P_needPerson_0 l0 hfl hg_2) ⟨rfl, rfl⟩ ⟨Nat.le_of_ble_eq_true rfl, Nat.le_of_ble_eq_true rfl⟩ ⟨Nat.le_of_ble_eq_true rfl, Nat.le_of_ble_eq_true rfl⟩ rfl (Nat.le_of_ble_eq_true rfl) ?_
    change KW x 1 6 Q σ_1 5 [some (kr 0), some (ki x1), some (ki x2), some (ki x3)] []
    refine kw_aload_n C (kdec dc_P_accidents 3 rfl) rfl 6 rfl rfl ?_
    refine kw_iload_n C (kdec dc_P_accidents 4 rfl) rfl 7 rfl rfl ?_
    refine kw_iconst C (kdec dc_P_accidents 5 rfl) 8 rfl rfl ⟨by decide, by decide⟩ ?_
    refine kw_iconst C (kdec dc_P_accidents 6 rfl) 9 rfl rfl ⟨by decide, by decide⟩ ?_
    obtain ⟨⟨q_14, σ_4⟩, hg_5, h⟩ := kbind_h h
    rcases q_14 with E_6 | _
    · dsimp only at h
      obtain rfl := Option.some.inj h
      exact kw_Q (hE _ _ rfl) (kw_callVX_t (As := [ki x2, ki 1, ki 5]) C hT (kdec dc_P_accidents 7 rfl) cv_P_210 rfl rfl (me_pf_P_needWithin_0 l0 hfl hg_5) ⟨rfl, rfl⟩ ⟨Nat.le_of_ble_eq_true rfl, Nat.le_of_ble_eq_true rfl⟩ ⟨Nat.le_of_ble_eq_true rfl, Nat.le_of_ble_eq_true rfl⟩ rfl (Nat.le_of_ble_eq_true rfl) (Nat.le_of_ble_eq_true rfl) (Nat.le_of_ble_eq_true rfl))
    · dsimp only at h
      refine kw_callVX (As := [ki x2, ki 1, ki 5]) C (kdec dc_P_accidents 7 rfl) 12 rfl cv_P_210 rfl rfl (mx_pf_P_needWithin_0 l0 hfl hg_5) ⟨rfl, rfl⟩ ⟨Nat.le_of_ble_eq_true rfl, Nat.le_of_ble_eq_true rfl⟩ ⟨Nat.le_of_ble_eq_true rfl, Nat.le_of_ble_eq_true rfl⟩ rfl (Nat.le_of_ble_eq_true rfl) ?_
      change KW x 2 12 Q σ_4 12 [some (kr 0), some (ki x1), some (ki x2), some (ki x3)] []
      refine kw_aload_n C (kdec dc_P_accidents 8 rfl) rfl 13 rfl rfl ?_
      refine kw_iload_n C (kdec dc_P_accidents 9 rfl) rfl 14 rfl rfl ?_
      refine kw_iconst C (kdec dc_P_accidents 10 rfl) 15 rfl rfl ⟨by decide, by decide⟩ ?_
      refine kw_bipush (v := 10) C (kdec dc_P_accidents 11 rfl) 17 rfl (by decide) ⟨by decide, by decide⟩ ?_
      obtain ⟨⟨q_13, σ_7⟩, hg_8, h⟩ := kbind_h h
      rcases q_13 with E_9 | _
      · dsimp only at h
        obtain rfl := Option.some.inj h
        exact kw_Q (hE _ _ rfl) (kw_callVX_t (As := [ki x3, ki 0, ki 10]) C hT (kdec dc_P_accidents 12 rfl) cv_P_210 rfl rfl (me_pf_P_needWithin_0 l0 hfl hg_8) ⟨rfl, rfl⟩ ⟨Nat.le_of_ble_eq_true rfl, Nat.le_of_ble_eq_true rfl⟩ ⟨Nat.le_of_ble_eq_true rfl, Nat.le_of_ble_eq_true rfl⟩ rfl (Nat.le_of_ble_eq_true rfl) (Nat.le_of_ble_eq_true rfl) (Nat.le_of_ble_eq_true rfl))
      · dsimp only at h
        refine kw_callVX (As := [ki x3, ki 0, ki 10]) C (kdec dc_P_accidents 12 rfl) 20 rfl cv_P_210 rfl rfl (mx_pf_P_needWithin_0 l0 hfl hg_8) ⟨rfl, rfl⟩ ⟨Nat.le_of_ble_eq_true rfl, Nat.le_of_ble_eq_true rfl⟩ ⟨Nat.le_of_ble_eq_true rfl, Nat.le_of_ble_eq_true rfl⟩ rfl (Nat.le_of_ble_eq_true rfl) ?_
        change KW x 3 18 Q σ_7 20 [some (kr 0), some (ki x1), some (ki x2), some (ki x3)] []
        refine kw_aload_n C (kdec dc_P_accidents 13 rfl) rfl 21 rfl rfl ?_
        refine kw_getR C (kdec dc_P_accidents 14 rfl) 24 rfl fd_C_P_81_0 ?_
        refine kw_iload_n C (kdec dc_P_accidents 15 rfl) rfl 25 rfl rfl ?_
        refine kw_iload_n C (kdec dc_P_accidents 16 rfl) rfl 26 rfl rfl ?_
        refine kw_iload_n C (kdec dc_P_accidents 17 rfl) rfl 27 rfl rfl ?_
        obtain ⟨⟨r_10, σ_11⟩, hg_12, h⟩ := kbind_h h
        dsimp only at h
        refine kw_callV (As := [ki x1, ki x2, ki x3]) C (kdec dc_P_accidents 18 rfl) 30 rfl cv_P_314 rfl rfl (mt_pf_Oracle_chanceWhole_57 l0 hg_12) ⟨rfl, rfl⟩ ⟨Nat.le_of_ble_eq_true rfl, Nat.le_of_ble_eq_true rfl⟩ ⟨Nat.le_of_ble_eq_true rfl, Nat.le_of_ble_eq_true rfl⟩ rfl (Nat.le_of_ble_eq_true rfl) ?_
        change KW x 3 18 Q σ_11 30 [some (kr 0), some (ki x1), some (ki x2), some (ki x3)] [ki r_10]
        obtain rfl := Option.some.inj h
        exact kw_Q (hR _ _ rfl) (kw_xret (by decide) (by decide) (kw_ireturn C (kdec dc_P_accidents 19 rfl)))
theorem mx_pf_P_accidents_0 (l0 : Launch) (hfl : l0.stackTraces = false) {σ : kM} {x1 : Int} {x2 : Int} {x3 : Int} {r : Int} {τ : kM} (h : pf_P_accidents_0 σ x1 x2 x3 = some (.inr r, τ)) : kXet l0 ky_P_accidents prog_1_method_31_code 4 (some .int) R0_pf_P_accidents_0 kcl yC σ [kr 0, ki x1, ki x2, ki x3] (.inr (some (ki r))) τ 3 18 := kXet.of [some (kr 0), some (ki x1), some (ki x2), some (ki x3)] (by decide) (Nat.le_of_ble_eq_true rfl) ⟨rfl, rfl, rfl, rfl, trivial⟩ (fun x C hT => bd_pf_P_accidents_0 C hT hfl σ x1 x2 x3 h (fun r τ e => by cases e; rfl) (fun E τ e => by cases e))
theorem me_pf_P_accidents_0 (l0 : Launch) (hfl : l0.stackTraces = false) {σ : kM} {x1 : Int} {x2 : Int} {x3 : Int} {E : String} {τ : kM} (h : pf_P_accidents_0 σ x1 x2 x3 = some (.inl E, τ)) : kXet l0 ky_P_accidents prog_1_method_31_code 4 (some .int) R0_pf_P_accidents_0 kcl yC σ [kr 0, ki x1, ki x2, ki x3] (.inl E) τ 3 18 := kXet.of [some (kr 0), some (ki x1), some (ki x2), some (ki x3)] (by decide) (Nat.le_of_ble_eq_true rfl) ⟨rfl, rfl, rfl, rfl, trivial⟩ (fun x C hT => bd_pf_P_accidents_0 C hT hfl σ x1 x2 x3 h (fun r τ e => by cases e) (fun E τ e => by cases e; rfl))
def R0_pf_Oracle_gainOf_57 : Room := ({ frames := 0, cells := 0, slots := 0, locals := 0 } : Room)
def pf_Oracle_gainOf_57 (σ : kM) (x1 : Int) : Option (Int) :=
  kchk (0 ≤ (w32 (49 + x1)) ∧ (w32 (49 + x1)) < 85) <|
  kchk (0 ≤ (w32 (57 + x1)) ∧ (w32 (57 + x1)) < 85) <|
  some (w32 ((σ 59 (w32 (49 + x1)).toNat) - (w32 (3 * (σ 59 (w32 (57 + x1)).toNat)))))
set_option maxHeartbeats 4000000 in
theorem bd_pf_Oracle_gainOf_57 {x : kX} {l0 : Launch} {Q : State → Prop} (C : kCx x prog_5_method_18_code "PoetFines$Oracle" (some .int) kcl yC 2 l0 R0_pf_Oracle_gainOf_57) (σ : kM) (x1 : Int) {out : Int} (h : pf_Oracle_gainOf_57 σ x1 = some out) (hR : ∀ (r : Int), out = r → Q = kQ x (some (ki r)) σ 0 0) : KW x 0 0 Q σ 0 [some (kr 57), some (ki x1)] [] := by
  unfold pf_Oracle_gainOf_57 at h
  refine kw_aload_n C (kdec dc_Oracle_gainOf 0 rfl) rfl 1 rfl rfl ?_
  refine kw_getR C (kdec dc_Oracle_gainOf 1 rfl) 4 rfl fd_C_Oracle_12_57 ?_
  refine kw_getR C (kdec dc_Oracle_gainOf 2 rfl) 7 rfl fd_C_Oracle_84_58 ?_
  refine kw_bipush (v := 49) C (kdec dc_Oracle_gainOf 3 rfl) 9 rfl (by decide) ⟨by decide, by decide⟩ ?_
  refine kw_iload_n C (kdec dc_Oracle_gainOf 4 rfl) rfl 10 rfl rfl ?_
  refine kw_iadd C (kdec dc_Oracle_gainOf 5 rfl) 11 rfl ?_
  obtain ⟨hc_1, h⟩ := kchk_h h
  refine kw_iald C (kdec dc_Oracle_gainOf 6 rfl) 12 rfl rfl hc_1.1 hc_1.2 ?_
  refine kw_iconst C (kdec dc_Oracle_gainOf 7 rfl) 13 rfl rfl ⟨by decide, by decide⟩ ?_
  refine kw_aload_n C (kdec dc_Oracle_gainOf 8 rfl) rfl 14 rfl rfl ?_
  refine kw_getR C (kdec dc_Oracle_gainOf 9 rfl) 17 rfl fd_C_Oracle_12_57 ?_
  refine kw_getR C (kdec dc_Oracle_gainOf 10 rfl) 20 rfl fd_C_Oracle_84_58 ?_
  refine kw_bipush (v := 57) C (kdec dc_Oracle_gainOf 11 rfl) 22 rfl (by decide) ⟨by decide, by decide⟩ ?_
  refine kw_iload_n C (kdec dc_Oracle_gainOf 12 rfl) rfl 23 rfl rfl ?_
  refine kw_iadd C (kdec dc_Oracle_gainOf 13 rfl) 24 rfl ?_
  obtain ⟨hc_2, h⟩ := kchk_h h
  refine kw_iald C (kdec dc_Oracle_gainOf 14 rfl) 25 rfl rfl hc_2.1 hc_2.2 ?_
  refine kw_imul C (kdec dc_Oracle_gainOf 15 rfl) 26 rfl ?_
  refine kw_isub C (kdec dc_Oracle_gainOf 16 rfl) 27 rfl ?_
  obtain rfl := Option.some.inj h
  exact kw_Q (hR _ rfl) (kw_ireturn C (kdec dc_Oracle_gainOf 17 rfl))
theorem mt_pf_Oracle_gainOf_57 (l0 : Launch) {σ : kM} {x1 : Int} {r : Int} (h : pf_Oracle_gainOf_57 σ x1 = some r) : kMet l0 ky_Oracle_gainOf prog_5_method_18_code 2 (some .int) R0_pf_Oracle_gainOf_57 kcl yC σ [kr 57, ki x1] (some (ki r)) σ := kMet.of' [some (kr 57), some (ki x1)] (by decide) (Nat.le_of_ble_eq_true rfl) ⟨rfl, rfl, trivial⟩ (fun x C => bd_pf_Oracle_gainOf_57 C σ x1 h (fun r e => by subst e; rfl))
def R0_pf_Oracle_playGame_57 : Room := ({ frames := 6, cells := 0, slots := 0, locals := 145 } : Room)
def pf_Oracle_playGame_57_l2_j39 (σ : kM) (x1 : Int) (x2 : Int) (x3 : Int) : Option ((kM × Int) ⊕ ((kM))) :=
  (pf_Oracle_letGoBy_57 σ 4).bind fun σ_2 =>
  (pf_Oracle_gainOf_57 σ_2 x1).bind fun r_3 =>
  kchk (0 ≤ x3 ∧ x3 < 4) <|
  klet (kst σ_2 62 (kup (σ_2 62) x3.toNat r_3)) fun σ_5 =>
  (pf_Oracle_gainOf_57 σ_5 x2).bind fun r_6 =>
  kchk (0 ≤ x3 ∧ x3 < 4) <|
  klet (kst σ_5 63 (kup (σ_5 63) x3.toNat r_6)) fun σ_8 =>
  klet (w32 (x3 + 1)) fun x3_9 =>
  some (Sum.inl (σ_8, x3_9))
set_option maxHeartbeats 4000000 in
theorem bd_pf_Oracle_playGame_57_l2_j39 {x : kX} {l0 : Launch} {Q : State → Prop} (C : kCx x prog_5_method_17_code "PoetFines$Oracle" none kcl yC 4 l0 R0_pf_Oracle_playGame_57) (σ : kM) (x1 : Int) (x2 : Int) (x3 : Int) {out : (kM × Int) ⊕ ((kM))} (h : pf_Oracle_playGame_57_l2_j39 σ x1 x2 x3 = some out) (hC : ∀ (σ' : kM) (x3' : Int), out = Sum.inl (σ', x3') → KW x 0 0 Q σ' 2 [some (kr 57), some (ki x1), some (ki x2), some (ki x3')] []) (hX72 : ∀ (σ' : kM), out = Sum.inr σ' → KW x 0 0 Q σ' 72 [some (kr 57), none, none, none] []) : KW x 0 0 Q σ 39 [some (kr 57), some (ki x1), some (ki x2), some (ki x3)] [] := by
  unfold pf_Oracle_playGame_57_l2_j39 at h
  refine kw_aload_n C (kdec dc_Oracle_playGame 23 rfl) rfl 40 rfl rfl ?_
  refine kw_iconst C (kdec dc_Oracle_playGame 24 rfl) 41 rfl rfl ⟨by decide, by decide⟩ ?_
  obtain ⟨σ_2, hg_12, h⟩ := kbind_h h
  refine kw_callV (As := [ki 4]) C (kdec dc_Oracle_playGame 25 rfl) 44 rfl cv_Oracle_67 rfl rfl (mt_pf_Oracle_letGoBy_57 l0 hg_12) ⟨rfl, rfl⟩ ⟨Nat.le_of_ble_eq_true rfl, Nat.le_of_ble_eq_true rfl⟩ ⟨Nat.zero_le _, Nat.zero_le _⟩ rfl (Nat.le_of_ble_eq_true rfl) ?_
  change KW x 0 0 Q σ_2 44 [some (kr 57), some (ki x1), some (ki x2), some (ki x3)] []
  refine kw_aload_n C (kdec dc_Oracle_playGame 26 rfl) rfl 45 rfl rfl ?_
  refine kw_getR C (kdec dc_Oracle_playGame 27 rfl) 48 rfl fd_C_Oracle_33_57 ?_
  refine kw_iload_n C (kdec dc_Oracle_playGame 28 rfl) rfl 49 rfl rfl ?_
  refine kw_aload_n C (kdec dc_Oracle_playGame 29 rfl) rfl 50 rfl rfl ?_
  refine kw_iload_n C (kdec dc_Oracle_playGame 30 rfl) rfl 51 rfl rfl ?_
  obtain ⟨r_3, hg_11, h⟩ := kbind_h h
  refine kw_callV (As := [ki x1]) C (kdec dc_Oracle_playGame 31 rfl) 54 rfl cv_Oracle_162 rfl rfl (mt_pf_Oracle_gainOf_57 l0 hg_11) ⟨rfl, rfl⟩ ⟨Nat.le_of_ble_eq_true rfl, Nat.le_of_ble_eq_true rfl⟩ ⟨Nat.zero_le _, Nat.zero_le _⟩ rfl (Nat.le_of_ble_eq_true rfl) ?_
  change KW x 0 0 Q σ_2 54 [some (kr 57), some (ki x1), some (ki x2), some (ki x3)] [ki r_3, ki x3, kr 62]
  obtain ⟨hc_4, h⟩ := kchk_h h
  obtain ⟨σ_5, eσ_5, h⟩ := klet_h h
  refine kw_iast C (kdec dc_Oracle_playGame 32 rfl) 55 rfl rfl hc_4.1 hc_4.2 ?_
  refine kw_sig eσ_5 ?_
  refine kw_aload_n C (kdec dc_Oracle_playGame 33 rfl) rfl 56 rfl rfl ?_
  refine kw_getR C (kdec dc_Oracle_playGame 34 rfl) 59 rfl fd_C_Oracle_36_57 ?_
  refine kw_iload_n C (kdec dc_Oracle_playGame 35 rfl) rfl 60 rfl rfl ?_
  refine kw_aload_n C (kdec dc_Oracle_playGame 36 rfl) rfl 61 rfl rfl ?_
  refine kw_iload_n C (kdec dc_Oracle_playGame 37 rfl) rfl 62 rfl rfl ?_
  obtain ⟨r_6, hg_10, h⟩ := kbind_h h
  refine kw_callV (As := [ki x2]) C (kdec dc_Oracle_playGame 38 rfl) 65 rfl cv_Oracle_162 rfl rfl (mt_pf_Oracle_gainOf_57 l0 hg_10) ⟨rfl, rfl⟩ ⟨Nat.le_of_ble_eq_true rfl, Nat.le_of_ble_eq_true rfl⟩ ⟨Nat.zero_le _, Nat.zero_le _⟩ rfl (Nat.le_of_ble_eq_true rfl) ?_
  change KW x 0 0 Q σ_5 65 [some (kr 57), some (ki x1), some (ki x2), some (ki x3)] [ki r_6, ki x3, kr 63]
  obtain ⟨hc_7, h⟩ := kchk_h h
  obtain ⟨σ_8, eσ_8, h⟩ := klet_h h
  refine kw_iast C (kdec dc_Oracle_playGame 39 rfl) 66 rfl rfl hc_7.1 hc_7.2 ?_
  refine kw_sig eσ_8 ?_
  obtain ⟨x3_9, ex3_9, h⟩ := klet_h h
  refine kw_iinc (L' := [some (kr 57), some (ki x1), some (ki x2), some (ki x3_9)]) C (kdec dc_Oracle_playGame 40 rfl) 69 rfl rfl (by decide) rfl (by rw [ex3_9]; rfl) ?_
  refine kw_goto C (kdec dc_Oracle_playGame 41 rfl) 2 (by decide) ?_
  obtain rfl := Option.some.inj h
  exact (hC _ _ rfl)
def pf_Oracle_playGame_57_l2_j24 (σ : kM) (x1 : Int) (x2 : Int) (x3 : Int) : Option ((kM × Int) ⊕ ((kM))) :=
  if (krem x3 2) = 1 then
    (pf_Stage_turnPage_64 σ x2).bind fun σ_13 =>
    pf_Oracle_playGame_57_l2_j39 σ_13 x1 x2 x3
  else
    pf_Oracle_playGame_57_l2_j39 σ x1 x2 x3
set_option maxHeartbeats 4000000 in
theorem bd_pf_Oracle_playGame_57_l2_j24 {x : kX} {l0 : Launch} {Q : State → Prop} (C : kCx x prog_5_method_17_code "PoetFines$Oracle" none kcl yC 4 l0 R0_pf_Oracle_playGame_57) (σ : kM) (x1 : Int) (x2 : Int) (x3 : Int) {out : (kM × Int) ⊕ ((kM))} (h : pf_Oracle_playGame_57_l2_j24 σ x1 x2 x3 = some out) (hC : ∀ (σ' : kM) (x3' : Int), out = Sum.inl (σ', x3') → KW x 0 0 Q σ' 2 [some (kr 57), some (ki x1), some (ki x2), some (ki x3')] []) (hX72 : ∀ (σ' : kM), out = Sum.inr σ' → KW x 0 0 Q σ' 72 [some (kr 57), none, none, none] []) : KW x 0 0 Q σ 24 [some (kr 57), some (ki x1), some (ki x2), some (ki x3)] [] := by
  unfold pf_Oracle_playGame_57_l2_j24 at h
  refine kw_iload_n C (kdec dc_Oracle_playGame 14 rfl) rfl 25 rfl rfl ?_
  refine kw_iconst C (kdec dc_Oracle_playGame 15 rfl) 26 rfl rfl ⟨by decide, by decide⟩ ?_
  refine kw_irem C (kdec dc_Oracle_playGame 16 rfl) 27 rfl (by decide) ?_
  refine kw_iconst C (kdec dc_Oracle_playGame 17 rfl) 28 rfl rfl ⟨by decide, by decide⟩ ?_
  refine kw_icmp_ne C (kdec dc_Oracle_playGame 18 rfl) 39 31 (by decide) rfl (fun hc28 => ?_) (fun hc28 => ?_)
  · rw [if_neg hc28] at h
    exact bd_pf_Oracle_playGame_57_l2_j39 C σ x1 x2 x3 h hC hX72
  · rw [if_pos hc28] at h
    refine kw_aload_n C (kdec dc_Oracle_playGame 19 rfl) rfl 32 rfl rfl ?_
    refine kw_getR C (kdec dc_Oracle_playGame 20 rfl) 35 rfl fd_C_Oracle_55_57 ?_
    refine kw_iload_n C (kdec dc_Oracle_playGame 21 rfl) rfl 36 rfl rfl ?_
    obtain ⟨σ_13, hg_14, h⟩ := kbind_h h
    refine kw_callV (As := [ki x2]) C (kdec dc_Oracle_playGame 22 rfl) 39 rfl cv_Oracle_109 rfl rfl (mt_pf_Stage_turnPage_64 l0 hg_14) ⟨rfl, rfl⟩ ⟨Nat.le_of_ble_eq_true rfl, Nat.le_of_ble_eq_true rfl⟩ ⟨Nat.zero_le _, Nat.zero_le _⟩ rfl (Nat.le_of_ble_eq_true rfl) ?_
    change KW x 0 0 Q σ_13 39 [some (kr 57), some (ki x1), some (ki x2), some (ki x3)] []
    exact bd_pf_Oracle_playGame_57_l2_j39 C σ_13 x1 x2 x3 h hC hX72
def pf_Oracle_playGame_57_l2 (σ : kM) (x1 : Int) (x2 : Int) (x3 : Int) : Option ((kM × Int) ⊕ ((kM))) :=
  if 4 ≤ x3 then
    some (Sum.inr σ)
  else
    (pf_Oracle_begin_57 σ).bind fun σ_1 =>
    if x3 < 2 then
      pf_Oracle_playGame_57_l2_j24 σ_1 x1 x2 x3
    else
      (pf_Stage_turnPage_64 σ_1 x1).bind fun σ_15 =>
      pf_Oracle_playGame_57_l2_j24 σ_15 x1 x2 x3
set_option maxHeartbeats 4000000 in
theorem bd_pf_Oracle_playGame_57_l2 {x : kX} {l0 : Launch} {Q : State → Prop} (C : kCx x prog_5_method_17_code "PoetFines$Oracle" none kcl yC 4 l0 R0_pf_Oracle_playGame_57) (σ : kM) (x1 : Int) (x2 : Int) (x3 : Int) {out : (kM × Int) ⊕ ((kM))} (h : pf_Oracle_playGame_57_l2 σ x1 x2 x3 = some out) (hC : ∀ (σ' : kM) (x3' : Int), out = Sum.inl (σ', x3') → KW x 0 0 Q σ' 2 [some (kr 57), some (ki x1), some (ki x2), some (ki x3')] []) (hX72 : ∀ (σ' : kM), out = Sum.inr σ' → KW x 0 0 Q σ' 72 [some (kr 57), none, none, none] []) : KW x 0 0 Q σ 2 [some (kr 57), some (ki x1), some (ki x2), some (ki x3)] [] := by
  unfold pf_Oracle_playGame_57_l2 at h
  refine kw_iload_n C (kdec dc_Oracle_playGame 2 rfl) rfl 3 rfl rfl ?_
  refine kw_iconst C (kdec dc_Oracle_playGame 3 rfl) 4 rfl rfl ⟨by decide, by decide⟩ ?_
  refine kw_icmp_ge C (kdec dc_Oracle_playGame 4 rfl) 72 7 (by decide) rfl (fun hc4 => ?_) (fun hc4 => ?_)
  · rw [if_pos hc4] at h
    obtain rfl := Option.some.inj h
    exact kw_sub (L' := [some (kr 57), none, none, none]) ⟨rfl, trivial⟩ (hX72 _ rfl)
  · rw [if_neg hc4] at h
    refine kw_aload_n C (kdec dc_Oracle_playGame 5 rfl) rfl 8 rfl rfl ?_
    obtain ⟨σ_1, hg_17, h⟩ := kbind_h h
    refine kw_callV (As := []) C (kdec dc_Oracle_playGame 6 rfl) 11 rfl cv_Oracle_64 rfl rfl (mt_pf_Oracle_begin_57 l0 hg_17) ⟨rfl, rfl⟩ ⟨Nat.le_of_ble_eq_true rfl, Nat.le_of_ble_eq_true rfl⟩ ⟨Nat.zero_le _, Nat.zero_le _⟩ rfl (Nat.le_of_ble_eq_true rfl) ?_
    change KW x 0 0 Q σ_1 11 [some (kr 57), some (ki x1), some (ki x2), some (ki x3)] []
    refine kw_iload_n C (kdec dc_Oracle_playGame 7 rfl) rfl 12 rfl rfl ?_
    refine kw_iconst C (kdec dc_Oracle_playGame 8 rfl) 13 rfl rfl ⟨by decide, by decide⟩ ?_
    refine kw_icmp_lt C (kdec dc_Oracle_playGame 9 rfl) 24 16 (by decide) rfl (fun hc13 => ?_) (fun hc13 => ?_)
    · rw [if_pos hc13] at h
      exact bd_pf_Oracle_playGame_57_l2_j24 C σ_1 x1 x2 x3 h hC hX72
    · rw [if_neg hc13] at h
      refine kw_aload_n C (kdec dc_Oracle_playGame 10 rfl) rfl 17 rfl rfl ?_
      refine kw_getR C (kdec dc_Oracle_playGame 11 rfl) 20 rfl fd_C_Oracle_55_57 ?_
      refine kw_iload_n C (kdec dc_Oracle_playGame 12 rfl) rfl 21 rfl rfl ?_
      obtain ⟨σ_15, hg_16, h⟩ := kbind_h h
      refine kw_callV (As := [ki x1]) C (kdec dc_Oracle_playGame 13 rfl) 24 rfl cv_Oracle_109 rfl rfl (mt_pf_Stage_turnPage_64 l0 hg_16) ⟨rfl, rfl⟩ ⟨Nat.le_of_ble_eq_true rfl, Nat.le_of_ble_eq_true rfl⟩ ⟨Nat.zero_le _, Nat.zero_le _⟩ rfl (Nat.le_of_ble_eq_true rfl) ?_
      change KW x 0 0 Q σ_15 24 [some (kr 57), some (ki x1), some (ki x2), some (ki x3)] []
      exact bd_pf_Oracle_playGame_57_l2_j24 C σ_15 x1 x2 x3 h hC hX72
theorem lp_pf_Oracle_playGame_57_l2 {x : kX} {l0 : Launch} {Q : State → Prop} (C : kCx x prog_5_method_17_code "PoetFines$Oracle" none kcl yC 4 l0 R0_pf_Oracle_playGame_57) (x1 : Int) (x2 : Int) {ex : (kM)} (hX72 : ∀ (σ' : kM), ex = σ' → KW x 0 0 Q σ' 72 [some (kr 57), none, none, none] []) (n : Nat) (σ : kM) (x3 : Int) (h : kloop (fun st => pf_Oracle_playGame_57_l2 st.1 x1 x2 st.2) n (σ, x3) = some ex) : KW x 0 0 Q σ 2 [some (kr 57), some (ki x1), some (ki x2), some (ki x3)] [] :=
  kloop_ind (P := (fun st : kM × Int => KW x 0 0 Q st.1 2 [some (kr 57), some (ki x1), some (ki x2), some (ki (st.2))] [])) (fun st out hb hc hx => bd_pf_Oracle_playGame_57_l2 C st.1 x1 x2 st.2 hb (fun a0 a1 e => hc _ e) (fun a0 e => hX72 _ ((hx _ e).symm))) n (σ, x3) h
def pf_Oracle_playGame_57_l84_j137 (σ : kM) (x3 : Int) : Option ((kM × Int) ⊕ ((kM))) :=
  klet (w32 (x3 + 1)) fun x3_25 =>
  some (Sum.inl (σ, x3_25))
set_option maxHeartbeats 4000000 in
theorem bd_pf_Oracle_playGame_57_l84_j137 {x : kX} {l0 : Launch} {Q : State → Prop} (C : kCx x prog_5_method_17_code "PoetFines$Oracle" none kcl yC 4 l0 R0_pf_Oracle_playGame_57) (σ : kM) (x3 : Int) {out : (kM × Int) ⊕ ((kM))} (h : pf_Oracle_playGame_57_l84_j137 σ x3 = some out) (hC : ∀ (σ' : kM) (x3' : Int), out = Sum.inl (σ', x3') → KW x 0 0 Q σ' 84 [some (kr 57), none, none, some (ki x3')] []) (hX143 : ∀ (σ' : kM), out = Sum.inr σ' → KW x 0 0 Q σ' 143 [none, none, none, none] []) : KW x 0 0 Q σ 137 [some (kr 57), none, none, some (ki x3)] [] := by
  unfold pf_Oracle_playGame_57_l84_j137 at h
  obtain ⟨x3_25, ex3_25, h⟩ := klet_h h
  refine kw_iinc (L' := [some (kr 57), none, none, some (ki x3_25)]) C (kdec dc_Oracle_playGame 86 rfl) 140 rfl rfl (by decide) rfl (by rw [ex3_25]; rfl) ?_
  refine kw_goto C (kdec dc_Oracle_playGame 87 rfl) 84 (by decide) ?_
  obtain rfl := Option.some.inj h
  exact (hC _ _ rfl)
def pf_Oracle_playGame_57_l84 (σ : kM) (x3 : Int) : Option ((kM × Int) ⊕ ((kM))) :=
  if 4 ≤ x3 then
    some (Sum.inr σ)
  else
    kchk (0 ≤ x3 ∧ x3 < 4) <|
    kchk (0 ≤ (kxor x3 2) ∧ (kxor x3 2) < 4) <|
    if (σ 62 x3.toNat) < (σ 62 (kxor x3 2).toNat) then
      pf_Oracle_playGame_57_l84_j137 σ x3
    else
      kchk (0 ≤ x3 ∧ x3 < 4) <|
      kchk (0 ≤ (kxor x3 1) ∧ (kxor x3 1) < 4) <|
      if (σ 63 x3.toNat) < (σ 63 (kxor x3 1).toNat) then
        pf_Oracle_playGame_57_l84_j137 σ x3
      else
        (pf_Oracle_addFound_57 σ (w32 ((w32 ((kdiv x3 2) * 10)) + (krem x3 2)))).bind fun σ_28 =>
        pf_Oracle_playGame_57_l84_j137 σ_28 x3
set_option maxHeartbeats 4000000 in
theorem bd_pf_Oracle_playGame_57_l84 {x : kX} {l0 : Launch} {Q : State → Prop} (C : kCx x prog_5_method_17_code "PoetFines$Oracle" none kcl yC 4 l0 R0_pf_Oracle_playGame_57) (σ : kM) (x3 : Int) {out : (kM × Int) ⊕ ((kM))} (h : pf_Oracle_playGame_57_l84 σ x3 = some out) (hC : ∀ (σ' : kM) (x3' : Int), out = Sum.inl (σ', x3') → KW x 0 0 Q σ' 84 [some (kr 57), none, none, some (ki x3')] []) (hX143 : ∀ (σ' : kM), out = Sum.inr σ' → KW x 0 0 Q σ' 143 [none, none, none, none] []) : KW x 0 0 Q σ 84 [some (kr 57), none, none, some (ki x3)] [] := by
  unfold pf_Oracle_playGame_57_l84 at h
  refine kw_iload_n C (kdec dc_Oracle_playGame 50 rfl) rfl 85 rfl rfl ?_
  refine kw_iconst C (kdec dc_Oracle_playGame 51 rfl) 86 rfl rfl ⟨by decide, by decide⟩ ?_
  refine kw_icmp_ge C (kdec dc_Oracle_playGame 52 rfl) 143 89 (by decide) rfl (fun hc86 => ?_) (fun hc86 => ?_)
  · rw [if_pos hc86] at h
    obtain rfl := Option.some.inj h
    exact kw_sub (L' := [none, none, none, none]) trivial (hX143 _ rfl)
  · rw [if_neg hc86] at h
    refine kw_aload_n C (kdec dc_Oracle_playGame 53 rfl) rfl 90 rfl rfl ?_
    refine kw_getR C (kdec dc_Oracle_playGame 54 rfl) 93 rfl fd_C_Oracle_33_57 ?_
    refine kw_iload_n C (kdec dc_Oracle_playGame 55 rfl) rfl 94 rfl rfl ?_
    obtain ⟨hc_23, h⟩ := kchk_h h
    refine kw_iald C (kdec dc_Oracle_playGame 56 rfl) 95 rfl rfl hc_23.1 hc_23.2 ?_
    refine kw_aload_n C (kdec dc_Oracle_playGame 57 rfl) rfl 96 rfl rfl ?_
    refine kw_getR C (kdec dc_Oracle_playGame 58 rfl) 99 rfl fd_C_Oracle_33_57 ?_
    refine kw_iload_n C (kdec dc_Oracle_playGame 59 rfl) rfl 100 rfl rfl ?_
    refine kw_iconst C (kdec dc_Oracle_playGame 60 rfl) 101 rfl rfl ⟨by decide, by decide⟩ ?_
    refine kw_ixor C (kdec dc_Oracle_playGame 61 rfl) 102 rfl ?_
    obtain ⟨hc_24, h⟩ := kchk_h h
    refine kw_iald C (kdec dc_Oracle_playGame 62 rfl) 103 rfl rfl hc_24.1 hc_24.2 ?_
    refine kw_icmp_lt C (kdec dc_Oracle_playGame 63 rfl) 137 106 (by decide) rfl (fun hc103 => ?_) (fun hc103 => ?_)
    · rw [if_pos hc103] at h
      exact bd_pf_Oracle_playGame_57_l84_j137 C σ x3 h hC hX143
    · rw [if_neg hc103] at h
      refine kw_aload_n C (kdec dc_Oracle_playGame 64 rfl) rfl 107 rfl rfl ?_
      refine kw_getR C (kdec dc_Oracle_playGame 65 rfl) 110 rfl fd_C_Oracle_36_57 ?_
      refine kw_iload_n C (kdec dc_Oracle_playGame 66 rfl) rfl 111 rfl rfl ?_
      obtain ⟨hc_26, h⟩ := kchk_h h
      refine kw_iald C (kdec dc_Oracle_playGame 67 rfl) 112 rfl rfl hc_26.1 hc_26.2 ?_
      refine kw_aload_n C (kdec dc_Oracle_playGame 68 rfl) rfl 113 rfl rfl ?_
      refine kw_getR C (kdec dc_Oracle_playGame 69 rfl) 116 rfl fd_C_Oracle_36_57 ?_
      refine kw_iload_n C (kdec dc_Oracle_playGame 70 rfl) rfl 117 rfl rfl ?_
      refine kw_iconst C (kdec dc_Oracle_playGame 71 rfl) 118 rfl rfl ⟨by decide, by decide⟩ ?_
      refine kw_ixor C (kdec dc_Oracle_playGame 72 rfl) 119 rfl ?_
      obtain ⟨hc_27, h⟩ := kchk_h h
      refine kw_iald C (kdec dc_Oracle_playGame 73 rfl) 120 rfl rfl hc_27.1 hc_27.2 ?_
      refine kw_icmp_lt C (kdec dc_Oracle_playGame 74 rfl) 137 123 (by decide) rfl (fun hc120 => ?_) (fun hc120 => ?_)
      · rw [if_pos hc120] at h
        exact bd_pf_Oracle_playGame_57_l84_j137 C σ x3 h hC hX143
      · rw [if_neg hc120] at h
        refine kw_aload_n C (kdec dc_Oracle_playGame 75 rfl) rfl 124 rfl rfl ?_
        refine kw_iload_n C (kdec dc_Oracle_playGame 76 rfl) rfl 125 rfl rfl ?_
        refine kw_iconst C (kdec dc_Oracle_playGame 77 rfl) 126 rfl rfl ⟨by decide, by decide⟩ ?_
        refine kw_idiv C (kdec dc_Oracle_playGame 78 rfl) 127 rfl (by decide) ?_
        refine kw_bipush (v := 10) C (kdec dc_Oracle_playGame 79 rfl) 129 rfl (by decide) ⟨by decide, by decide⟩ ?_
        refine kw_imul C (kdec dc_Oracle_playGame 80 rfl) 130 rfl ?_
        refine kw_iload_n C (kdec dc_Oracle_playGame 81 rfl) rfl 131 rfl rfl ?_
        refine kw_iconst C (kdec dc_Oracle_playGame 82 rfl) 132 rfl rfl ⟨by decide, by decide⟩ ?_
        refine kw_irem C (kdec dc_Oracle_playGame 83 rfl) 133 rfl (by decide) ?_
        refine kw_iadd C (kdec dc_Oracle_playGame 84 rfl) 134 rfl ?_
        obtain ⟨σ_28, hg_29, h⟩ := kbind_h h
        refine kw_callV (As := [ki (w32 ((w32 ((kdiv x3 2) * 10)) + (krem x3 2)))]) C (kdec dc_Oracle_playGame 85 rfl) 137 rfl cv_Oracle_142 rfl rfl (mt_pf_Oracle_addFound_57 l0 hg_29) ⟨rfl, rfl⟩ ⟨Nat.le_of_ble_eq_true rfl, Nat.le_of_ble_eq_true rfl⟩ ⟨Nat.zero_le _, Nat.zero_le _⟩ rfl (Nat.le_of_ble_eq_true rfl) ?_
        change KW x 0 0 Q σ_28 137 [some (kr 57), none, none, some (ki x3)] []
        exact bd_pf_Oracle_playGame_57_l84_j137 C σ_28 x3 h hC hX143
theorem lp_pf_Oracle_playGame_57_l84 {x : kX} {l0 : Launch} {Q : State → Prop} (C : kCx x prog_5_method_17_code "PoetFines$Oracle" none kcl yC 4 l0 R0_pf_Oracle_playGame_57) {ex : (kM)} (hX143 : ∀ (σ' : kM), ex = σ' → KW x 0 0 Q σ' 143 [none, none, none, none] []) (n : Nat) (σ : kM) (x3 : Int) (h : kloop (fun st => pf_Oracle_playGame_57_l84 st.1 st.2) n (σ, x3) = some ex) : KW x 0 0 Q σ 84 [some (kr 57), none, none, some (ki x3)] [] :=
  kloop_ind (P := (fun st : kM × Int => KW x 0 0 Q st.1 84 [some (kr 57), none, none, some (ki (st.2))] [])) (fun st out hb hc hx => bd_pf_Oracle_playGame_57_l84 C st.1 st.2 hb (fun a0 a1 e => hc _ e) (fun a0 e => hX143 _ ((hx _ e).symm))) n (σ, x3) h
def pf_Oracle_playGame_57 (σ : kM) (x1 : Int) (x2 : Int) : Option (kM) :=
  (kloop (fun st => pf_Oracle_playGame_57_l2 st.1 x1 x2 st.2) kFuel (σ, 0)).bind fun σ_20 =>
  klet (kst σ_20 57 (kup (σ_20 57) 2 0)) fun σ_21 =>
  klet (kst σ_21 57 (kup (σ_21 57) 3 ((-1)))) fun σ_22 =>
  (kloop (fun st => pf_Oracle_playGame_57_l84 st.1 st.2) kFuel (σ_22, 0)).bind fun σ_32 =>
  some σ_32
set_option maxHeartbeats 4000000 in
theorem bd_pf_Oracle_playGame_57 {x : kX} {l0 : Launch} {Q : State → Prop} (C : kCx x prog_5_method_17_code "PoetFines$Oracle" none kcl yC 4 l0 R0_pf_Oracle_playGame_57) (σ : kM) (x1 : Int) (x2 : Int) {out : kM} (h : pf_Oracle_playGame_57 σ x1 x2 = some out) (hR : ∀ (τ : kM), out = τ → Q = kQ x none τ 0 0) : KW x 0 0 Q σ 0 [some (kr 57), some (ki x1), some (ki x2), none] [] := by
  unfold pf_Oracle_playGame_57 at h
  refine kw_iconst C (kdec dc_Oracle_playGame 0 rfl) 1 rfl rfl ⟨by decide, by decide⟩ ?_
  refine kw_istore_n (L' := [some (kr 57), some (ki x1), some (ki x2), some (ki 0)]) C (kdec dc_Oracle_playGame 1 rfl) rfl 2 rfl (by decide) rfl rfl ?_
  obtain ⟨ex_18, hl_19, h⟩ := kbind_h h
  refine lp_pf_Oracle_playGame_57_l2 C x1 x2 ?_ kFuel σ 0 hl_19
  · intro σ_20 e
    subst ex_18
    try dsimp only at h
    refine kw_aload_n C (kdec dc_Oracle_playGame 42 rfl) rfl 73 rfl rfl ?_
    refine kw_iconst C (kdec dc_Oracle_playGame 43 rfl) 74 rfl rfl ⟨by decide, by decide⟩ ?_
    obtain ⟨σ_21, eσ_21, h⟩ := klet_h h
    refine kw_putI C (kdec dc_Oracle_playGame 44 rfl) 77 rfl fp_C_Oracle_18_57 ?_
    refine kw_sig eσ_21 ?_
    refine kw_aload_n C (kdec dc_Oracle_playGame 45 rfl) rfl 78 rfl rfl ?_
    refine kw_iconst C (kdec dc_Oracle_playGame 46 rfl) 79 rfl rfl ⟨by decide, by decide⟩ ?_
    obtain ⟨σ_22, eσ_22, h⟩ := klet_h h
    refine kw_putI C (kdec dc_Oracle_playGame 47 rfl) 82 rfl fp_C_Oracle_22_57 ?_
    refine kw_sig eσ_22 ?_
    refine kw_iconst C (kdec dc_Oracle_playGame 48 rfl) 83 rfl rfl ⟨by decide, by decide⟩ ?_
    refine kw_istore_n (L' := [some (kr 57), none, none, some (ki 0)]) C (kdec dc_Oracle_playGame 49 rfl) rfl 84 rfl (by decide) rfl rfl ?_
    obtain ⟨ex_30, hl_31, h⟩ := kbind_h h
    refine lp_pf_Oracle_playGame_57_l84 C ?_ kFuel σ_22 0 hl_31
    · intro σ_32 e
      subst ex_30
      try dsimp only at h
      obtain rfl := Option.some.inj h
      exact kw_Q (hR _ rfl) (kw_return C (kdec dc_Oracle_playGame 88 rfl))
theorem mt_pf_Oracle_playGame_57 (l0 : Launch) {σ : kM} {x1 : Int} {x2 : Int} {τ : kM} (h : pf_Oracle_playGame_57 σ x1 x2 = some τ) : kMet l0 ky_Oracle_playGame prog_5_method_17_code 4 none R0_pf_Oracle_playGame_57 kcl yC σ [kr 57, ki x1, ki x2] none τ := kMet.of' [some (kr 57), some (ki x1), some (ki x2), none] (by decide) (Nat.le_of_ble_eq_true rfl) ⟨rfl, rfl, rfl, trivial⟩ (fun x C => bd_pf_Oracle_playGame_57 C σ x1 x2 h (fun τ e => by subst e; rfl))
def R0_pf_P_game_0 : Room := ({ frames := 7, cells := 4, slots := 24, locals := 168 } : Room)
def pf_P_game_0 (σ : kM) (x1 : Int) (x2 : Int) (x3 : Int) : Option ((String ⊕ Int) × kM) :=
  (pf_P_needPoet_0 σ x1).bind fun q_14 => match q_14 with
  | (.inl E_3, σ_1) => some (.inl E_3, σ_1)
  | (.inr _, σ_1) =>
    (pf_P_needPoet_0 σ_1 x2).bind fun q_13 => match q_13 with
    | (.inl E_6, σ_4) => some (.inl E_6, σ_4)
    | (.inr _, σ_4) =>
      (pf_P_needWhat_0 σ_4 x3 1).bind fun q_12 => match q_12 with
      | (.inl E_9, σ_7) => some (.inl E_9, σ_7)
      | (.inr _, σ_7) =>
        if x1 = x2 then
          some (.inl "java/lang/IllegalArgumentException", σ_7)
        else
          (pf_Oracle_playGame_57 σ_7 x1 x2).bind fun σ_10 =>
          if x3 = 0 then
            some ((.inr (σ_10 57 2), σ_10))
          else
            some ((.inr (σ_10 57 3), σ_10))
set_option maxHeartbeats 4000000 in
theorem bd_pf_P_game_0 {x : kX} {l0 : Launch} {Q : State → Prop} (C : kCx x prog_1_method_32_code "PoetFines" (some .int) kcl yC 4 l0 R0_pf_P_game_0) (hT : kTb x) (hfl : l0.stackTraces = false) (σ : kM) (x1 : Int) (x2 : Int) (x3 : Int) {out : (String ⊕ Int) × kM} (h : pf_P_game_0 σ x1 x2 x3 = some out) (hR : ∀ (r : Int) (τ : kM), out = (.inr r, τ) → Q = kQX x (.inr (some (ki r))) τ 4 24) (hE : ∀ (E : String) (τ : kM), out = (.inl E, τ) → Q = kQX x (.inl E) τ 4 24) : KW x 0 0 Q σ 0 [some (kr 0), some (ki x1), some (ki x2), some (ki x3)] [] := by
  unfold pf_P_game_0 at h
  refine kw_aload_n C (kdec dc_P_game 0 rfl) rfl 1 rfl rfl ?_
  refine kw_iload_n C (kdec dc_P_game 1 rfl) rfl 2 rfl rfl ?_
  obtain ⟨⟨q_14, σ_1⟩, hg_2, h⟩ := kbind_h h
  rcases q_14 with E_3 | _
  · dsimp only at h
    obtain rfl := Option.some.inj h
    exact kw_Q (hE _ _ rfl) (kw_callVX_t (As := [ki x1]) C hT (kdec dc_P_game 2 rfl) cv_P_162 rfl rfl (me_pf_P_needPoet_0 l0 hfl hg_2) ⟨rfl, rfl⟩ ⟨Nat.le_of_ble_eq_true rfl, Nat.le_of_ble_eq_true rfl⟩ ⟨Nat.le_of_ble_eq_true rfl, Nat.le_of_ble_eq_true rfl⟩ rfl (Nat.le_of_ble_eq_true rfl) (Nat.le_of_ble_eq_true rfl) (Nat.le_of_ble_eq_true rfl))
  · dsimp only at h
    refine kw_callVX (As := [ki x1]) C (kdec dc_P_game 2 rfl) 5 rfl cv_P_162 rfl rfl (mx_pf_P_needPoet_0 l0 hfl hg_2) ⟨rfl, rfl⟩ ⟨Nat.le_of_ble_eq_true rfl, Nat.le_of_ble_eq_true rfl⟩ ⟨Nat.le_of_ble_eq_true rfl, Nat.le_of_ble_eq_true rfl⟩ rfl (Nat.le_of_ble_eq_true rfl) ?_
    change KW x 1 6 Q σ_1 5 [some (kr 0), some (ki x1), some (ki x2), some (ki x3)] []
    refine kw_aload_n C (kdec dc_P_game 3 rfl) rfl 6 rfl rfl ?_
    refine kw_iload_n C (kdec dc_P_game 4 rfl) rfl 7 rfl rfl ?_
    obtain ⟨⟨q_13, σ_4⟩, hg_5, h⟩ := kbind_h h
    rcases q_13 with E_6 | _
    · dsimp only at h
      obtain rfl := Option.some.inj h
      exact kw_Q (hE _ _ rfl) (kw_callVX_t (As := [ki x2]) C hT (kdec dc_P_game 5 rfl) cv_P_162 rfl rfl (me_pf_P_needPoet_0 l0 hfl hg_5) ⟨rfl, rfl⟩ ⟨Nat.le_of_ble_eq_true rfl, Nat.le_of_ble_eq_true rfl⟩ ⟨Nat.le_of_ble_eq_true rfl, Nat.le_of_ble_eq_true rfl⟩ rfl (Nat.le_of_ble_eq_true rfl) (Nat.le_of_ble_eq_true rfl) (Nat.le_of_ble_eq_true rfl))
    · dsimp only at h
      refine kw_callVX (As := [ki x2]) C (kdec dc_P_game 5 rfl) 10 rfl cv_P_162 rfl rfl (mx_pf_P_needPoet_0 l0 hfl hg_5) ⟨rfl, rfl⟩ ⟨Nat.le_of_ble_eq_true rfl, Nat.le_of_ble_eq_true rfl⟩ ⟨Nat.le_of_ble_eq_true rfl, Nat.le_of_ble_eq_true rfl⟩ rfl (Nat.le_of_ble_eq_true rfl) ?_
      change KW x 2 12 Q σ_4 10 [some (kr 0), some (ki x1), some (ki x2), some (ki x3)] []
      refine kw_aload_n C (kdec dc_P_game 6 rfl) rfl 11 rfl rfl ?_
      refine kw_iload_n C (kdec dc_P_game 7 rfl) rfl 12 rfl rfl ?_
      refine kw_iconst C (kdec dc_P_game 8 rfl) 13 rfl rfl ⟨by decide, by decide⟩ ?_
      obtain ⟨⟨q_12, σ_7⟩, hg_8, h⟩ := kbind_h h
      rcases q_12 with E_9 | _
      · dsimp only at h
        obtain rfl := Option.some.inj h
        exact kw_Q (hE _ _ rfl) (kw_callVX_t (As := [ki x3, ki 1]) C hT (kdec dc_P_game 9 rfl) cv_P_154 rfl rfl (me_pf_P_needWhat_0 l0 hfl hg_8) ⟨rfl, rfl⟩ ⟨Nat.le_of_ble_eq_true rfl, Nat.le_of_ble_eq_true rfl⟩ ⟨Nat.le_of_ble_eq_true rfl, Nat.le_of_ble_eq_true rfl⟩ rfl (Nat.le_of_ble_eq_true rfl) (Nat.le_of_ble_eq_true rfl) (Nat.le_of_ble_eq_true rfl))
      · dsimp only at h
        refine kw_callVX (As := [ki x3, ki 1]) C (kdec dc_P_game 9 rfl) 16 rfl cv_P_154 rfl rfl (mx_pf_P_needWhat_0 l0 hfl hg_8) ⟨rfl, rfl⟩ ⟨Nat.le_of_ble_eq_true rfl, Nat.le_of_ble_eq_true rfl⟩ ⟨Nat.le_of_ble_eq_true rfl, Nat.le_of_ble_eq_true rfl⟩ rfl (Nat.le_of_ble_eq_true rfl) ?_
        change KW x 3 18 Q σ_7 16 [some (kr 0), some (ki x1), some (ki x2), some (ki x3)] []
        refine kw_iload_n C (kdec dc_P_game 10 rfl) rfl 17 rfl rfl ?_
        refine kw_iload_n C (kdec dc_P_game 11 rfl) rfl 18 rfl rfl ?_
        refine kw_icmp_ne C (kdec dc_P_game 12 rfl) 32 21 (by decide) rfl (fun hc18 => ?_) (fun hc18 => ?_)
        · rw [if_neg hc18] at h
          refine kw_aload_n C (kdec dc_P_game 18 rfl) rfl 33 rfl rfl ?_
          refine kw_getR C (kdec dc_P_game 19 rfl) 36 rfl fd_C_P_81_0 ?_
          refine kw_iload_n C (kdec dc_P_game 20 rfl) rfl 37 rfl rfl ?_
          refine kw_iload_n C (kdec dc_P_game 21 rfl) rfl 38 rfl rfl ?_
          obtain ⟨σ_10, hg_11, h⟩ := kbind_h h
          refine kw_callV (As := [ki x1, ki x2]) C (kdec dc_P_game 22 rfl) 41 rfl cv_P_319 rfl rfl (mt_pf_Oracle_playGame_57 l0 hg_11) ⟨rfl, rfl⟩ ⟨Nat.le_of_ble_eq_true rfl, Nat.le_of_ble_eq_true rfl⟩ ⟨Nat.le_of_ble_eq_true rfl, Nat.le_of_ble_eq_true rfl⟩ rfl (Nat.le_of_ble_eq_true rfl) ?_
          change KW x 3 18 Q σ_10 41 [some (kr 0), some (ki x1), some (ki x2), some (ki x3)] []
          refine kw_iload_n C (kdec dc_P_game 23 rfl) rfl 42 rfl rfl ?_
          refine kw_if_ne C (kdec dc_P_game 24 rfl) 55 45 (by decide) rfl (fun hc42 => ?_) (fun hc42 => ?_)
          · rw [if_neg hc42] at h
            refine kw_aload_n C (kdec dc_P_game 29 rfl) rfl 56 rfl rfl ?_
            refine kw_getR C (kdec dc_P_game 30 rfl) 59 rfl fd_C_P_81_0 ?_
            refine kw_getI C (kdec dc_P_game 31 rfl) 62 rfl fd_C_P_300_57 ?_
            obtain rfl := Option.some.inj h
            exact kw_Q (hR _ _ rfl) (kw_xret (by decide) (by decide) (kw_ireturn C (kdec dc_P_game 32 rfl)))
          · rw [if_pos hc42] at h
            refine kw_aload_n C (kdec dc_P_game 25 rfl) rfl 46 rfl rfl ?_
            refine kw_getR C (kdec dc_P_game 26 rfl) 49 rfl fd_C_P_81_0 ?_
            refine kw_getI C (kdec dc_P_game 27 rfl) 52 rfl fd_C_P_297_57 ?_
            refine kw_goto C (kdec dc_P_game 28 rfl) 62 (by decide) ?_
            obtain rfl := Option.some.inj h
            exact kw_Q (hR _ _ rfl) (kw_xret (by decide) (by decide) (kw_ireturn C (kdec dc_P_game 32 rfl)))
        · rw [if_pos hc18] at h
          obtain rfl := Option.some.inj h
          exact kw_Q (hE _ _ rfl) (kw_throwW C hT hfl th_P_317_93 (kdec dc_P_game 13 rfl) (kdec dc_P_game 14 rfl) (kdec dc_P_game 15 rfl) (kdec dc_P_game 16 rfl) (kdec dc_P_game 17 rfl) (Nat.le_of_ble_eq_true rfl) ⟨Nat.le_of_ble_eq_true rfl, Nat.le_of_ble_eq_true rfl, Nat.le_of_ble_eq_true rfl, Nat.le_of_ble_eq_true rfl⟩ (Nat.le_of_ble_eq_true rfl) (Nat.le_of_ble_eq_true rfl))
theorem mx_pf_P_game_0 (l0 : Launch) (hfl : l0.stackTraces = false) {σ : kM} {x1 : Int} {x2 : Int} {x3 : Int} {r : Int} {τ : kM} (h : pf_P_game_0 σ x1 x2 x3 = some (.inr r, τ)) : kXet l0 ky_P_game prog_1_method_32_code 4 (some .int) R0_pf_P_game_0 kcl yC σ [kr 0, ki x1, ki x2, ki x3] (.inr (some (ki r))) τ 4 24 := kXet.of [some (kr 0), some (ki x1), some (ki x2), some (ki x3)] (by decide) (Nat.le_of_ble_eq_true rfl) ⟨rfl, rfl, rfl, rfl, trivial⟩ (fun x C hT => bd_pf_P_game_0 C hT hfl σ x1 x2 x3 h (fun r τ e => by cases e; rfl) (fun E τ e => by cases e))
theorem me_pf_P_game_0 (l0 : Launch) (hfl : l0.stackTraces = false) {σ : kM} {x1 : Int} {x2 : Int} {x3 : Int} {E : String} {τ : kM} (h : pf_P_game_0 σ x1 x2 x3 = some (.inl E, τ)) : kXet l0 ky_P_game prog_1_method_32_code 4 (some .int) R0_pf_P_game_0 kcl yC σ [kr 0, ki x1, ki x2, ki x3] (.inl E) τ 4 24 := kXet.of [some (kr 0), some (ki x1), some (ki x2), some (ki x3)] (by decide) (Nat.le_of_ble_eq_true rfl) ⟨rfl, rfl, rfl, rfl, trivial⟩ (fun x C hT => bd_pf_P_game_0 C hT hfl σ x1 x2 x3 h (fun r τ e => by cases e) (fun E τ e => by cases e; rfl))
def R0_pf_Oracle_draw_57 : Room := ({ frames := 0, cells := 0, slots := 0, locals := 0 } : Room)
def pf_Oracle_draw_57 (σ : kM) (x1 : Int) : Option (Int × kM) :=
  klet (kst σ 57 (kup (σ 57) 11 (w32 ((w32 ((σ 57 11) * 1103515245)) + 12345)))) fun σ_1 =>
  klet (kand (kushr (σ_1 57 11) 16) 32767) fun x2_2 =>
  if x1 ≤ 0 then
    some ((0, σ_1))
  else
    kchk (¬ x1 = 0) <|
    some ((krem x2_2 x1, σ_1))
set_option maxHeartbeats 4000000 in
theorem bd_pf_Oracle_draw_57 {x : kX} {l0 : Launch} {Q : State → Prop} (C : kCx x prog_5_method_21_code "PoetFines$Oracle" (some .int) kcl yC 3 l0 R0_pf_Oracle_draw_57) (σ : kM) (x1 : Int) {out : Int × kM} (h : pf_Oracle_draw_57 σ x1 = some out) (hR : ∀ (r : Int) (τ : kM), out = (r, τ) → Q = kQ x (some (ki r)) τ 0 0) : KW x 0 0 Q σ 0 [some (kr 57), some (ki x1), none] [] := by
  unfold pf_Oracle_draw_57 at h
  refine kw_aload_n C (kdec dc_Oracle_draw 0 rfl) rfl 1 rfl rfl ?_
  refine kw_aload_n C (kdec dc_Oracle_draw 1 rfl) rfl 2 rfl rfl ?_
  refine kw_getI C (kdec dc_Oracle_draw 2 rfl) 5 rfl fd_C_Oracle_39_57 ?_
  refine kw_ldc (v := 1103515245) C (kdec dc_Oracle_draw 3 rfl) 7 rfl wd_1516 ⟨by decide, by decide⟩ ?_
  refine kw_imul C (kdec dc_Oracle_draw 4 rfl) 8 rfl ?_
  refine kw_sipush (v := 12345) C (kdec dc_Oracle_draw 5 rfl) 11 rfl (by decide) ⟨by decide, by decide⟩ ?_
  refine kw_iadd C (kdec dc_Oracle_draw 6 rfl) 12 rfl ?_
  obtain ⟨σ_1, eσ_1, h⟩ := klet_h h
  refine kw_putI C (kdec dc_Oracle_draw 7 rfl) 15 rfl fp_C_Oracle_39_57 ?_
  refine kw_sig eσ_1 ?_
  refine kw_aload_n C (kdec dc_Oracle_draw 8 rfl) rfl 16 rfl rfl ?_
  refine kw_getI C (kdec dc_Oracle_draw 9 rfl) 19 rfl fd_C_Oracle_39_57 ?_
  refine kw_bipush (v := 16) C (kdec dc_Oracle_draw 10 rfl) 21 rfl (by decide) ⟨by decide, by decide⟩ ?_
  refine kw_iushr C (kdec dc_Oracle_draw 11 rfl) 22 rfl ?_
  refine kw_sipush (v := 32767) C (kdec dc_Oracle_draw 12 rfl) 25 rfl (by decide) ⟨by decide, by decide⟩ ?_
  refine kw_iand C (kdec dc_Oracle_draw 13 rfl) 26 rfl ?_
  obtain ⟨x2_2, ex2_2, h⟩ := klet_h h
  refine kw_top ex2_2 ?_
  refine kw_istore_n (L' := [some (kr 57), some (ki x1), some (ki x2_2)]) C (kdec dc_Oracle_draw 14 rfl) rfl 27 rfl (by decide) rfl rfl ?_
  refine kw_iload_n C (kdec dc_Oracle_draw 15 rfl) rfl 28 rfl rfl ?_
  refine kw_if_le C (kdec dc_Oracle_draw 16 rfl) 37 31 (by decide) rfl (fun hc28 => ?_) (fun hc28 => ?_)
  · rw [if_pos hc28] at h
    refine kw_iconst C (kdec dc_Oracle_draw 21 rfl) 38 rfl rfl ⟨by decide, by decide⟩ ?_
    obtain rfl := Option.some.inj h
    exact kw_Q (hR _ _ rfl) (kw_ireturn C (kdec dc_Oracle_draw 22 rfl))
  · rw [if_neg hc28] at h
    refine kw_iload_n C (kdec dc_Oracle_draw 17 rfl) rfl 32 rfl rfl ?_
    refine kw_iload_n C (kdec dc_Oracle_draw 18 rfl) rfl 33 rfl rfl ?_
    obtain ⟨hc_3, h⟩ := kchk_h h
    refine kw_irem C (kdec dc_Oracle_draw 19 rfl) 34 rfl hc_3 ?_
    refine kw_goto C (kdec dc_Oracle_draw 20 rfl) 38 (by decide) ?_
    obtain rfl := Option.some.inj h
    exact kw_Q (hR _ _ rfl) (kw_ireturn C (kdec dc_Oracle_draw 22 rfl))
theorem mt_pf_Oracle_draw_57 (l0 : Launch) {σ : kM} {x1 : Int} {r : Int} {τ : kM} (h : pf_Oracle_draw_57 σ x1 = some (r, τ)) : kMet l0 ky_Oracle_draw prog_5_method_21_code 3 (some .int) R0_pf_Oracle_draw_57 kcl yC σ [kr 57, ki x1] (some (ki r)) τ := kMet.of' [some (kr 57), some (ki x1), none] (by decide) (Nat.le_of_ble_eq_true rfl) ⟨rfl, rfl, trivial⟩ (fun x C => bd_pf_Oracle_draw_57 C σ x1 h (fun r τ e => by cases e; rfl))
def R0_pf_World_setDepth_58 : Room := ({ frames := 0, cells := 0, slots := 0, locals := 0 } : Room)
def pf_World_setDepth_58 (σ : kM) (x1 : Int) (x2 : Int) (x3 : Int) : Option (kM) :=
  if 6 ≤ x2 then
    some σ
  else
    kchk (0 ≤ (w32 ((w32 (61 + (w32 (x1 * 6)))) + x2)) ∧ (w32 ((w32 (61 + (w32 (x1 * 6)))) + x2)) < 85) <|
    klet (kst σ 59 (kup (σ 59) ((w32 ((w32 (61 + (w32 (x1 * 6)))) + x2)).toNat) x3)) fun σ_2 =>
    some σ_2
set_option maxHeartbeats 4000000 in
theorem bd_pf_World_setDepth_58 {x : kX} {l0 : Launch} {Q : State → Prop} (C : kCx x prog_12_method_5_code "PoetFines$World" none kcl yC 4 l0 R0_pf_World_setDepth_58) (σ : kM) (x1 : Int) (x2 : Int) (x3 : Int) {out : kM} (h : pf_World_setDepth_58 σ x1 x2 x3 = some out) (hR : ∀ (τ : kM), out = τ → Q = kQ x none τ 0 0) : KW x 0 0 Q σ 0 [some (kr 58), some (ki x1), some (ki x2), some (ki x3)] [] := by
  unfold pf_World_setDepth_58 at h
  refine kw_iload_n C (kdec dc_World_setDepth 0 rfl) rfl 1 rfl rfl ?_
  refine kw_bipush (v := 6) C (kdec dc_World_setDepth 1 rfl) 3 rfl (by decide) ⟨by decide, by decide⟩ ?_
  refine kw_icmp_ge C (kdec dc_World_setDepth 2 rfl) 21 6 (by decide) rfl (fun hc3 => ?_) (fun hc3 => ?_)
  · rw [if_pos hc3] at h
    obtain rfl := Option.some.inj h
    exact kw_Q (hR _ rfl) (kw_return C (kdec dc_World_setDepth 14 rfl))
  · rw [if_neg hc3] at h
    refine kw_aload_n C (kdec dc_World_setDepth 3 rfl) rfl 7 rfl rfl ?_
    refine kw_getR C (kdec dc_World_setDepth 4 rfl) 10 rfl fd_C_World_11_58 ?_
    refine kw_bipush (v := 61) C (kdec dc_World_setDepth 5 rfl) 12 rfl (by decide) ⟨by decide, by decide⟩ ?_
    refine kw_iload_n C (kdec dc_World_setDepth 6 rfl) rfl 13 rfl rfl ?_
    refine kw_bipush (v := 6) C (kdec dc_World_setDepth 7 rfl) 15 rfl (by decide) ⟨by decide, by decide⟩ ?_
    refine kw_imul C (kdec dc_World_setDepth 8 rfl) 16 rfl ?_
    refine kw_iadd C (kdec dc_World_setDepth 9 rfl) 17 rfl ?_
    refine kw_iload_n C (kdec dc_World_setDepth 10 rfl) rfl 18 rfl rfl ?_
    refine kw_iadd C (kdec dc_World_setDepth 11 rfl) 19 rfl ?_
    refine kw_iload_n C (kdec dc_World_setDepth 12 rfl) rfl 20 rfl rfl ?_
    obtain ⟨hc_1, h⟩ := kchk_h h
    obtain ⟨σ_2, eσ_2, h⟩ := klet_h h
    refine kw_iast C (kdec dc_World_setDepth 13 rfl) 21 rfl rfl hc_1.1 hc_1.2 ?_
    refine kw_sig eσ_2 ?_
    obtain rfl := Option.some.inj h
    exact kw_Q (hR _ rfl) (kw_return C (kdec dc_World_setDepth 14 rfl))
theorem mt_pf_World_setDepth_58 (l0 : Launch) {σ : kM} {x1 : Int} {x2 : Int} {x3 : Int} {τ : kM} (h : pf_World_setDepth_58 σ x1 x2 x3 = some τ) : kMet l0 ky_World_setDepth prog_12_method_5_code 4 none R0_pf_World_setDepth_58 kcl yC σ [kr 58, ki x1, ki x2, ki x3] none τ := kMet.of' [some (kr 58), some (ki x1), some (ki x2), some (ki x3)] (by decide) (Nat.le_of_ble_eq_true rfl) ⟨rfl, rfl, rfl, rfl, trivial⟩ (fun x C => bd_pf_World_setDepth_58 C σ x1 x2 x3 h (fun τ e => by subst e; rfl))
def R0_pf_Oracle_drawEvent_57 : Room := ({ frames := 1, cells := 0, slots := 0, locals := 23 } : Room)
def pf_Oracle_drawEvent_57_j88 (σ : kM) (x1 : Int) : Option (kM) :=
  if x1 = 2 then
    if (σ 3 2) ≤ 0 then
      some σ
    else
      (pf_Oracle_draw_57 σ (σ 3 2)).bind fun (r_3, σ_4) =>
      kchk (0 ≤ (w32 (53 + r_3)) ∧ (w32 (53 + r_3)) < 85) <|
      (pf_Oracle_draw_57 σ_4 10).bind fun (r_6, σ_7) =>
      (pf_World_setDepth_58 σ_7 r_3 (σ_4 59 (w32 (53 + r_3)).toNat) r_6).bind fun σ_8 =>
      some σ_8
  else
    some σ
set_option maxHeartbeats 4000000 in
theorem bd_pf_Oracle_drawEvent_57_j88 {x : kX} {l0 : Launch} {Q : State → Prop} (C : kCx x prog_5_method_20_code "PoetFines$Oracle" none kcl yC 3 l0 R0_pf_Oracle_drawEvent_57) (σ : kM) (x1 : Int) {out : kM} (h : pf_Oracle_drawEvent_57_j88 σ x1 = some out) (hR : ∀ (τ : kM), out = τ → Q = kQ x none τ 0 0) : KW x 0 0 Q σ 88 [some (kr 57), some (ki x1), none] [] := by
  unfold pf_Oracle_drawEvent_57_j88 at h
  refine kw_iload_n C (kdec dc_Oracle_drawEvent 43 rfl) rfl 89 rfl rfl ?_
  refine kw_iconst C (kdec dc_Oracle_drawEvent 44 rfl) 90 rfl rfl ⟨by decide, by decide⟩ ?_
  refine kw_icmp_ne C (kdec dc_Oracle_drawEvent 45 rfl) 141 93 (by decide) rfl (fun hc90 => ?_) (fun hc90 => ?_)
  · rw [if_neg hc90] at h
    obtain rfl := Option.some.inj h
    exact kw_Q (hR _ rfl) (kw_return C (kdec dc_Oracle_drawEvent 70 rfl))
  · rw [if_pos hc90] at h
    refine kw_aload_n C (kdec dc_Oracle_drawEvent 46 rfl) rfl 94 rfl rfl ?_
    refine kw_getR C (kdec dc_Oracle_drawEvent 47 rfl) 97 rfl fd_C_Oracle_42_57 ?_
    refine kw_getI C (kdec dc_Oracle_drawEvent 48 rfl) 100 rfl fd_C_Oracle_87_3 ?_
    refine kw_if_le C (kdec dc_Oracle_drawEvent 49 rfl) 141 103 (by decide) rfl (fun hc100 => ?_) (fun hc100 => ?_)
    · rw [if_pos hc100] at h
      obtain rfl := Option.some.inj h
      exact kw_Q (hR _ rfl) (kw_return C (kdec dc_Oracle_drawEvent 70 rfl))
    · rw [if_neg hc100] at h
      refine kw_aload_n C (kdec dc_Oracle_drawEvent 50 rfl) rfl 104 rfl rfl ?_
      refine kw_aload_n C (kdec dc_Oracle_drawEvent 51 rfl) rfl 105 rfl rfl ?_
      refine kw_getR C (kdec dc_Oracle_drawEvent 52 rfl) 108 rfl fd_C_Oracle_42_57 ?_
      refine kw_getI C (kdec dc_Oracle_drawEvent 53 rfl) 111 rfl fd_C_Oracle_87_3 ?_
      obtain ⟨⟨r_3, σ_4⟩, hg_11, h⟩ := kbind_h h
      dsimp only at h
      refine kw_callV (As := [ki (σ 3 2)]) C (kdec dc_Oracle_drawEvent 54 rfl) 114 rfl cv_Oracle_168 rfl rfl (mt_pf_Oracle_draw_57 l0 hg_11) ⟨rfl, rfl⟩ ⟨Nat.le_of_ble_eq_true rfl, Nat.le_of_ble_eq_true rfl⟩ ⟨Nat.zero_le _, Nat.zero_le _⟩ rfl (Nat.le_of_ble_eq_true rfl) ?_
      change KW x 0 0 Q σ_4 114 [some (kr 57), some (ki x1), none] [ki r_3]
      refine kw_istore_n (L' := [some (kr 57), some (ki x1), some (ki r_3)]) C (kdec dc_Oracle_drawEvent 55 rfl) rfl 115 rfl (by decide) rfl rfl ?_
      refine kw_aload_n C (kdec dc_Oracle_drawEvent 56 rfl) rfl 116 rfl rfl ?_
      refine kw_getR C (kdec dc_Oracle_drawEvent 57 rfl) 119 rfl fd_C_Oracle_12_57 ?_
      refine kw_iload_n C (kdec dc_Oracle_drawEvent 58 rfl) rfl 120 rfl rfl ?_
      refine kw_aload_n C (kdec dc_Oracle_drawEvent 59 rfl) rfl 121 rfl rfl ?_
      refine kw_getR C (kdec dc_Oracle_drawEvent 60 rfl) 124 rfl fd_C_Oracle_12_57 ?_
      refine kw_getR C (kdec dc_Oracle_drawEvent 61 rfl) 127 rfl fd_C_Oracle_84_58 ?_
      refine kw_bipush (v := 53) C (kdec dc_Oracle_drawEvent 62 rfl) 129 rfl (by decide) ⟨by decide, by decide⟩ ?_
      refine kw_iload_n C (kdec dc_Oracle_drawEvent 63 rfl) rfl 130 rfl rfl ?_
      refine kw_iadd C (kdec dc_Oracle_drawEvent 64 rfl) 131 rfl ?_
      obtain ⟨hc_5, h⟩ := kchk_h h
      refine kw_iald C (kdec dc_Oracle_drawEvent 65 rfl) 132 rfl rfl hc_5.1 hc_5.2 ?_
      refine kw_aload_n C (kdec dc_Oracle_drawEvent 66 rfl) rfl 133 rfl rfl ?_
      refine kw_bipush (v := 10) C (kdec dc_Oracle_drawEvent 67 rfl) 135 rfl (by decide) ⟨by decide, by decide⟩ ?_
      obtain ⟨⟨r_6, σ_7⟩, hg_10, h⟩ := kbind_h h
      dsimp only at h
      refine kw_callV (As := [ki 10]) C (kdec dc_Oracle_drawEvent 68 rfl) 138 rfl cv_Oracle_168 rfl rfl (mt_pf_Oracle_draw_57 l0 hg_10) ⟨rfl, rfl⟩ ⟨Nat.le_of_ble_eq_true rfl, Nat.le_of_ble_eq_true rfl⟩ ⟨Nat.zero_le _, Nat.zero_le _⟩ rfl (Nat.le_of_ble_eq_true rfl) ?_
      change KW x 0 0 Q σ_7 138 [some (kr 57), some (ki x1), some (ki r_3)] [ki r_6, ki (σ_4 59 (w32 (53 + r_3)).toNat), ki r_3, kr 58]
      obtain ⟨σ_8, hg_9, h⟩ := kbind_h h
      refine kw_callV (As := [ki r_3, ki (σ_4 59 (w32 (53 + r_3)).toNat), ki r_6]) C (kdec dc_Oracle_drawEvent 69 rfl) 141 rfl cv_Oracle_171 rfl rfl (mt_pf_World_setDepth_58 l0 hg_9) ⟨rfl, rfl⟩ ⟨Nat.le_of_ble_eq_true rfl, Nat.le_of_ble_eq_true rfl⟩ ⟨Nat.zero_le _, Nat.zero_le _⟩ rfl (Nat.le_of_ble_eq_true rfl) ?_
      change KW x 0 0 Q σ_8 141 [some (kr 57), some (ki x1), some (ki r_3)] []
      obtain rfl := Option.some.inj h
      exact kw_Q (hR _ rfl) (kw_return C (kdec dc_Oracle_drawEvent 70 rfl))
def pf_Oracle_drawEvent_57_j47 (σ : kM) (x1 : Int) : Option (kM) :=
  if x1 = 1 then
    if (σ 3 1) ≤ 0 then
      pf_Oracle_drawEvent_57_j88 σ x1
    else
      (pf_Oracle_draw_57 σ (σ 3 1)).bind fun (r_12, σ_13) =>
      kchk (0 ≤ (w32 (9 + r_12)) ∧ (w32 (9 + r_12)) < 85) <|
      klet (kst σ_13 59 (kup (σ_13 59) ((w32 (9 + r_12)).toNat) 0)) fun σ_15 =>
      some σ_15
  else
    pf_Oracle_drawEvent_57_j88 σ x1
set_option maxHeartbeats 4000000 in
theorem bd_pf_Oracle_drawEvent_57_j47 {x : kX} {l0 : Launch} {Q : State → Prop} (C : kCx x prog_5_method_20_code "PoetFines$Oracle" none kcl yC 3 l0 R0_pf_Oracle_drawEvent_57) (σ : kM) (x1 : Int) {out : kM} (h : pf_Oracle_drawEvent_57_j47 σ x1 = some out) (hR : ∀ (τ : kM), out = τ → Q = kQ x none τ 0 0) : KW x 0 0 Q σ 47 [some (kr 57), some (ki x1), none] [] := by
  unfold pf_Oracle_drawEvent_57_j47 at h
  refine kw_iload_n C (kdec dc_Oracle_drawEvent 23 rfl) rfl 48 rfl rfl ?_
  refine kw_iconst C (kdec dc_Oracle_drawEvent 24 rfl) 49 rfl rfl ⟨by decide, by decide⟩ ?_
  refine kw_icmp_ne C (kdec dc_Oracle_drawEvent 25 rfl) 88 52 (by decide) rfl (fun hc49 => ?_) (fun hc49 => ?_)
  · rw [if_neg hc49] at h
    exact bd_pf_Oracle_drawEvent_57_j88 C σ x1 h hR
  · rw [if_pos hc49] at h
    refine kw_aload_n C (kdec dc_Oracle_drawEvent 26 rfl) rfl 53 rfl rfl ?_
    refine kw_getR C (kdec dc_Oracle_drawEvent 27 rfl) 56 rfl fd_C_Oracle_42_57 ?_
    refine kw_getI C (kdec dc_Oracle_drawEvent 28 rfl) 59 rfl fd_C_Oracle_79_3 ?_
    refine kw_if_le C (kdec dc_Oracle_drawEvent 29 rfl) 88 62 (by decide) rfl (fun hc59 => ?_) (fun hc59 => ?_)
    · rw [if_pos hc59] at h
      exact bd_pf_Oracle_drawEvent_57_j88 C σ x1 h hR
    · rw [if_neg hc59] at h
      refine kw_aload_n C (kdec dc_Oracle_drawEvent 30 rfl) rfl 63 rfl rfl ?_
      refine kw_getR C (kdec dc_Oracle_drawEvent 31 rfl) 66 rfl fd_C_Oracle_12_57 ?_
      refine kw_getR C (kdec dc_Oracle_drawEvent 32 rfl) 69 rfl fd_C_Oracle_84_58 ?_
      refine kw_bipush (v := 9) C (kdec dc_Oracle_drawEvent 33 rfl) 71 rfl (by decide) ⟨by decide, by decide⟩ ?_
      refine kw_aload_n C (kdec dc_Oracle_drawEvent 34 rfl) rfl 72 rfl rfl ?_
      refine kw_aload_n C (kdec dc_Oracle_drawEvent 35 rfl) rfl 73 rfl rfl ?_
      refine kw_getR C (kdec dc_Oracle_drawEvent 36 rfl) 76 rfl fd_C_Oracle_42_57 ?_
      refine kw_getI C (kdec dc_Oracle_drawEvent 37 rfl) 79 rfl fd_C_Oracle_79_3 ?_
      obtain ⟨⟨r_12, σ_13⟩, hg_16, h⟩ := kbind_h h
      dsimp only at h
      refine kw_callV (As := [ki (σ 3 1)]) C (kdec dc_Oracle_drawEvent 38 rfl) 82 rfl cv_Oracle_168 rfl rfl (mt_pf_Oracle_draw_57 l0 hg_16) ⟨rfl, rfl⟩ ⟨Nat.le_of_ble_eq_true rfl, Nat.le_of_ble_eq_true rfl⟩ ⟨Nat.zero_le _, Nat.zero_le _⟩ rfl (Nat.le_of_ble_eq_true rfl) ?_
      change KW x 0 0 Q σ_13 82 [some (kr 57), some (ki x1), none] [ki r_12, ki 9, kr 59]
      refine kw_iadd C (kdec dc_Oracle_drawEvent 39 rfl) 83 rfl ?_
      refine kw_iconst C (kdec dc_Oracle_drawEvent 40 rfl) 84 rfl rfl ⟨by decide, by decide⟩ ?_
      obtain ⟨hc_14, h⟩ := kchk_h h
      obtain ⟨σ_15, eσ_15, h⟩ := klet_h h
      refine kw_iast C (kdec dc_Oracle_drawEvent 41 rfl) 85 rfl rfl hc_14.1 hc_14.2 ?_
      refine kw_sig eσ_15 ?_
      refine kw_goto C (kdec dc_Oracle_drawEvent 42 rfl) 141 (by decide) ?_
      obtain rfl := Option.some.inj h
      exact kw_Q (hR _ rfl) (kw_return C (kdec dc_Oracle_drawEvent 70 rfl))
def pf_Oracle_drawEvent_57 (σ : kM) : Option (kM) :=
  (pf_Oracle_draw_57 σ 6).bind fun (r_1, σ_2) =>
  if r_1 = 0 then
    if (σ_2 3 2) ≤ 0 then
      pf_Oracle_drawEvent_57_j47 σ_2 r_1
    else
      (pf_Oracle_draw_57 σ_2 (σ_2 3 2)).bind fun (r_17, σ_18) =>
      kchk (0 ≤ (w32 (57 + r_17)) ∧ (w32 (57 + r_17)) < 85) <|
      klet (kst σ_18 59 (kup (σ_18 59) ((w32 (57 + r_17)).toNat) 0)) fun σ_20 =>
      some σ_20
  else
    pf_Oracle_drawEvent_57_j47 σ_2 r_1
set_option maxHeartbeats 4000000 in
theorem bd_pf_Oracle_drawEvent_57 {x : kX} {l0 : Launch} {Q : State → Prop} (C : kCx x prog_5_method_20_code "PoetFines$Oracle" none kcl yC 3 l0 R0_pf_Oracle_drawEvent_57) (σ : kM) {out : kM} (h : pf_Oracle_drawEvent_57 σ = some out) (hR : ∀ (τ : kM), out = τ → Q = kQ x none τ 0 0) : KW x 0 0 Q σ 0 [some (kr 57), none, none] [] := by
  unfold pf_Oracle_drawEvent_57 at h
  refine kw_aload_n C (kdec dc_Oracle_drawEvent 0 rfl) rfl 1 rfl rfl ?_
  refine kw_bipush (v := 6) C (kdec dc_Oracle_drawEvent 1 rfl) 3 rfl (by decide) ⟨by decide, by decide⟩ ?_
  obtain ⟨⟨r_1, σ_2⟩, hg_22, h⟩ := kbind_h h
  dsimp only at h
  refine kw_callV (As := [ki 6]) C (kdec dc_Oracle_drawEvent 2 rfl) 6 rfl cv_Oracle_168 rfl rfl (mt_pf_Oracle_draw_57 l0 hg_22) ⟨rfl, rfl⟩ ⟨Nat.le_of_ble_eq_true rfl, Nat.le_of_ble_eq_true rfl⟩ ⟨Nat.zero_le _, Nat.zero_le _⟩ rfl (Nat.le_of_ble_eq_true rfl) ?_
  change KW x 0 0 Q σ_2 6 [some (kr 57), none, none] [ki r_1]
  refine kw_istore_n (L' := [some (kr 57), some (ki r_1), none]) C (kdec dc_Oracle_drawEvent 3 rfl) rfl 7 rfl (by decide) rfl rfl ?_
  refine kw_iload_n C (kdec dc_Oracle_drawEvent 4 rfl) rfl 8 rfl rfl ?_
  refine kw_if_ne C (kdec dc_Oracle_drawEvent 5 rfl) 47 11 (by decide) rfl (fun hc8 => ?_) (fun hc8 => ?_)
  · rw [if_neg hc8] at h
    exact bd_pf_Oracle_drawEvent_57_j47 C σ_2 r_1 h hR
  · rw [if_pos hc8] at h
    refine kw_aload_n C (kdec dc_Oracle_drawEvent 6 rfl) rfl 12 rfl rfl ?_
    refine kw_getR C (kdec dc_Oracle_drawEvent 7 rfl) 15 rfl fd_C_Oracle_42_57 ?_
    refine kw_getI C (kdec dc_Oracle_drawEvent 8 rfl) 18 rfl fd_C_Oracle_87_3 ?_
    refine kw_if_le C (kdec dc_Oracle_drawEvent 9 rfl) 47 21 (by decide) rfl (fun hc18 => ?_) (fun hc18 => ?_)
    · rw [if_pos hc18] at h
      exact bd_pf_Oracle_drawEvent_57_j47 C σ_2 r_1 h hR
    · rw [if_neg hc18] at h
      refine kw_aload_n C (kdec dc_Oracle_drawEvent 10 rfl) rfl 22 rfl rfl ?_
      refine kw_getR C (kdec dc_Oracle_drawEvent 11 rfl) 25 rfl fd_C_Oracle_12_57 ?_
      refine kw_getR C (kdec dc_Oracle_drawEvent 12 rfl) 28 rfl fd_C_Oracle_84_58 ?_
      refine kw_bipush (v := 57) C (kdec dc_Oracle_drawEvent 13 rfl) 30 rfl (by decide) ⟨by decide, by decide⟩ ?_
      refine kw_aload_n C (kdec dc_Oracle_drawEvent 14 rfl) rfl 31 rfl rfl ?_
      refine kw_aload_n C (kdec dc_Oracle_drawEvent 15 rfl) rfl 32 rfl rfl ?_
      refine kw_getR C (kdec dc_Oracle_drawEvent 16 rfl) 35 rfl fd_C_Oracle_42_57 ?_
      refine kw_getI C (kdec dc_Oracle_drawEvent 17 rfl) 38 rfl fd_C_Oracle_87_3 ?_
      obtain ⟨⟨r_17, σ_18⟩, hg_21, h⟩ := kbind_h h
      dsimp only at h
      refine kw_callV (As := [ki (σ_2 3 2)]) C (kdec dc_Oracle_drawEvent 18 rfl) 41 rfl cv_Oracle_168 rfl rfl (mt_pf_Oracle_draw_57 l0 hg_21) ⟨rfl, rfl⟩ ⟨Nat.le_of_ble_eq_true rfl, Nat.le_of_ble_eq_true rfl⟩ ⟨Nat.zero_le _, Nat.zero_le _⟩ rfl (Nat.le_of_ble_eq_true rfl) ?_
      change KW x 0 0 Q σ_18 41 [some (kr 57), some (ki r_1), none] [ki r_17, ki 57, kr 59]
      refine kw_iadd C (kdec dc_Oracle_drawEvent 19 rfl) 42 rfl ?_
      refine kw_iconst C (kdec dc_Oracle_drawEvent 20 rfl) 43 rfl rfl ⟨by decide, by decide⟩ ?_
      obtain ⟨hc_19, h⟩ := kchk_h h
      obtain ⟨σ_20, eσ_20, h⟩ := klet_h h
      refine kw_iast C (kdec dc_Oracle_drawEvent 21 rfl) 44 rfl rfl hc_19.1 hc_19.2 ?_
      refine kw_sig eσ_20 ?_
      refine kw_goto C (kdec dc_Oracle_drawEvent 22 rfl) 141 (by decide) ?_
      obtain rfl := Option.some.inj h
      exact kw_Q (hR _ rfl) (kw_return C (kdec dc_Oracle_drawEvent 70 rfl))
theorem mt_pf_Oracle_drawEvent_57 (l0 : Launch) {σ : kM} {τ : kM} (h : pf_Oracle_drawEvent_57 σ = some τ) : kMet l0 ky_Oracle_drawEvent prog_5_method_20_code 3 none R0_pf_Oracle_drawEvent_57 kcl yC σ [kr 57] none τ := kMet.of' [some (kr 57), none, none] (by decide) (Nat.le_of_ble_eq_true rfl) ⟨rfl, trivial⟩ (fun x C => bd_pf_Oracle_drawEvent_57 C σ h (fun τ e => by subst e; rfl))
def R0_pf_Oracle_drawYears_57 : Room := ({ frames := 5, cells := 0, slots := 0, locals := 123 } : Room)
def pf_Oracle_drawYears_57_l11 (σ : kM) (x2 : Int) (x3 : Int) : Option ((kM × Int) ⊕ ((kM))) :=
  if x2 ≤ x3 then
    some (Sum.inr σ)
  else
    (pf_Oracle_drawEvent_57 σ).bind fun σ_3 =>
    (pf_Stage_passYear_64 σ_3 0).bind fun σ_4 =>
    klet (w32 (x3 + 1)) fun x3_5 =>
    some (Sum.inl (σ_4, x3_5))
set_option maxHeartbeats 4000000 in
theorem bd_pf_Oracle_drawYears_57_l11 {x : kX} {l0 : Launch} {Q : State → Prop} (C : kCx x prog_5_method_19_code "PoetFines$Oracle" none kcl yC 4 l0 R0_pf_Oracle_drawYears_57) (σ : kM) (x2 : Int) (x3 : Int) {out : (kM × Int) ⊕ ((kM))} (h : pf_Oracle_drawYears_57_l11 σ x2 x3 = some out) (hC : ∀ (σ' : kM) (x3' : Int), out = Sum.inl (σ', x3') → KW x 0 0 Q σ' 11 [some (kr 57), none, some (ki x2), some (ki x3')] []) (hX34 : ∀ (σ' : kM), out = Sum.inr σ' → KW x 0 0 Q σ' 34 [none, none, none, none] []) : KW x 0 0 Q σ 11 [some (kr 57), none, some (ki x2), some (ki x3)] [] := by
  unfold pf_Oracle_drawYears_57_l11 at h
  refine kw_iload_n C (kdec dc_Oracle_drawYears 7 rfl) rfl 12 rfl rfl ?_
  refine kw_iload_n C (kdec dc_Oracle_drawYears 8 rfl) rfl 13 rfl rfl ?_
  refine kw_icmp_ge C (kdec dc_Oracle_drawYears 9 rfl) 34 16 (by decide) rfl (fun hc13 => ?_) (fun hc13 => ?_)
  · rw [if_pos hc13] at h
    obtain rfl := Option.some.inj h
    exact kw_sub (L' := [none, none, none, none]) trivial (hX34 _ rfl)
  · rw [if_neg hc13] at h
    refine kw_aload_n C (kdec dc_Oracle_drawYears 10 rfl) rfl 17 rfl rfl ?_
    obtain ⟨σ_3, hg_7, h⟩ := kbind_h h
    refine kw_callV (As := []) C (kdec dc_Oracle_drawYears 11 rfl) 20 rfl cv_Oracle_165 rfl rfl (mt_pf_Oracle_drawEvent_57 l0 hg_7) ⟨rfl, rfl⟩ ⟨Nat.le_of_ble_eq_true rfl, Nat.le_of_ble_eq_true rfl⟩ ⟨Nat.zero_le _, Nat.zero_le _⟩ rfl (Nat.le_of_ble_eq_true rfl) ?_
    change KW x 0 0 Q σ_3 20 [some (kr 57), none, some (ki x2), some (ki x3)] []
    refine kw_aload_n C (kdec dc_Oracle_drawYears 12 rfl) rfl 21 rfl rfl ?_
    refine kw_getR C (kdec dc_Oracle_drawYears 13 rfl) 24 rfl fd_C_Oracle_55_57 ?_
    refine kw_iconst C (kdec dc_Oracle_drawYears 14 rfl) 25 rfl rfl ⟨by decide, by decide⟩ ?_
    obtain ⟨σ_4, hg_6, h⟩ := kbind_h h
    refine kw_callV (As := [ki 0]) C (kdec dc_Oracle_drawYears 15 rfl) 28 rfl cv_Oracle_75 rfl rfl (mt_pf_Stage_passYear_64 l0 hg_6) ⟨rfl, rfl⟩ ⟨Nat.le_of_ble_eq_true rfl, Nat.le_of_ble_eq_true rfl⟩ ⟨Nat.zero_le _, Nat.zero_le _⟩ rfl (Nat.le_of_ble_eq_true rfl) ?_
    change KW x 0 0 Q σ_4 28 [some (kr 57), none, some (ki x2), some (ki x3)] []
    obtain ⟨x3_5, ex3_5, h⟩ := klet_h h
    refine kw_iinc (L' := [some (kr 57), none, some (ki x2), some (ki x3_5)]) C (kdec dc_Oracle_drawYears 16 rfl) 31 rfl rfl (by decide) rfl (by rw [ex3_5]; rfl) ?_
    refine kw_goto C (kdec dc_Oracle_drawYears 17 rfl) 11 (by decide) ?_
    obtain rfl := Option.some.inj h
    exact (hC _ _ rfl)
theorem lp_pf_Oracle_drawYears_57_l11 {x : kX} {l0 : Launch} {Q : State → Prop} (C : kCx x prog_5_method_19_code "PoetFines$Oracle" none kcl yC 4 l0 R0_pf_Oracle_drawYears_57) (x2 : Int) {ex : (kM)} (hX34 : ∀ (σ' : kM), ex = σ' → KW x 0 0 Q σ' 34 [none, none, none, none] []) (n : Nat) (σ : kM) (x3 : Int) (h : kloop (fun st => pf_Oracle_drawYears_57_l11 st.1 x2 st.2) n (σ, x3) = some ex) : KW x 0 0 Q σ 11 [some (kr 57), none, some (ki x2), some (ki x3)] [] :=
  kloop_ind (P := (fun st : kM × Int => KW x 0 0 Q st.1 11 [some (kr 57), none, some (ki x2), some (ki (st.2))] [])) (fun st out hb hc hx => bd_pf_Oracle_drawYears_57_l11 C st.1 x2 st.2 hb (fun a0 a1 e => hc _ e) (fun a0 e => hX34 _ ((hx _ e).symm))) n (σ, x3) h
def pf_Oracle_drawYears_57 (σ : kM) (x1 : Int) (x2 : Int) : Option (kM) :=
  (pf_Oracle_begin_57 σ).bind fun σ_1 =>
  klet (kst σ_1 57 (kup (σ_1 57) 11 x1)) fun σ_2 =>
  (kloop (fun st => pf_Oracle_drawYears_57_l11 st.1 x2 st.2) kFuel (σ_2, 0)).bind fun σ_10 =>
  some σ_10
set_option maxHeartbeats 4000000 in
theorem bd_pf_Oracle_drawYears_57 {x : kX} {l0 : Launch} {Q : State → Prop} (C : kCx x prog_5_method_19_code "PoetFines$Oracle" none kcl yC 4 l0 R0_pf_Oracle_drawYears_57) (σ : kM) (x1 : Int) (x2 : Int) {out : kM} (h : pf_Oracle_drawYears_57 σ x1 x2 = some out) (hR : ∀ (τ : kM), out = τ → Q = kQ x none τ 0 0) : KW x 0 0 Q σ 0 [some (kr 57), some (ki x1), some (ki x2), none] [] := by
  unfold pf_Oracle_drawYears_57 at h
  refine kw_aload_n C (kdec dc_Oracle_drawYears 0 rfl) rfl 1 rfl rfl ?_
  obtain ⟨σ_1, hg_11, h⟩ := kbind_h h
  refine kw_callV (As := []) C (kdec dc_Oracle_drawYears 1 rfl) 4 rfl cv_Oracle_64 rfl rfl (mt_pf_Oracle_begin_57 l0 hg_11) ⟨rfl, rfl⟩ ⟨Nat.le_of_ble_eq_true rfl, Nat.le_of_ble_eq_true rfl⟩ ⟨Nat.zero_le _, Nat.zero_le _⟩ rfl (Nat.le_of_ble_eq_true rfl) ?_
  change KW x 0 0 Q σ_1 4 [some (kr 57), some (ki x1), some (ki x2), none] []
  refine kw_aload_n C (kdec dc_Oracle_drawYears 2 rfl) rfl 5 rfl rfl ?_
  refine kw_iload_n C (kdec dc_Oracle_drawYears 3 rfl) rfl 6 rfl rfl ?_
  obtain ⟨σ_2, eσ_2, h⟩ := klet_h h
  refine kw_putI C (kdec dc_Oracle_drawYears 4 rfl) 9 rfl fp_C_Oracle_39_57 ?_
  refine kw_sig eσ_2 ?_
  refine kw_iconst C (kdec dc_Oracle_drawYears 5 rfl) 10 rfl rfl ⟨by decide, by decide⟩ ?_
  refine kw_istore_n (L' := [some (kr 57), some (ki x1), some (ki x2), some (ki 0)]) C (kdec dc_Oracle_drawYears 6 rfl) rfl 11 rfl (by decide) rfl rfl ?_
  obtain ⟨ex_8, hl_9, h⟩ := kbind_h h
  refine kw_sub (L' := [some (kr 57), none, some (ki x2), some (ki 0)]) ⟨rfl, rfl, rfl, trivial⟩ (lp_pf_Oracle_drawYears_57_l11 C x2 ?_ kFuel σ_2 0 hl_9)
  · intro σ_10 e
    subst ex_8
    try dsimp only at h
    obtain rfl := Option.some.inj h
    exact kw_Q (hR _ rfl) (kw_return C (kdec dc_Oracle_drawYears 18 rfl))
theorem mt_pf_Oracle_drawYears_57 (l0 : Launch) {σ : kM} {x1 : Int} {x2 : Int} {τ : kM} (h : pf_Oracle_drawYears_57 σ x1 x2 = some τ) : kMet l0 ky_Oracle_drawYears prog_5_method_19_code 4 none R0_pf_Oracle_drawYears_57 kcl yC σ [kr 57, ki x1, ki x2] none τ := kMet.of' [some (kr 57), some (ki x1), some (ki x2), none] (by decide) (Nat.le_of_ble_eq_true rfl) ⟨rfl, rfl, rfl, trivial⟩ (fun x C => bd_pf_Oracle_drawYears_57 C σ x1 x2 h (fun τ e => by subst e; rfl))
def R0_pf_P_decades_0 : Room := ({ frames := 7, cells := 2, slots := 12, locals := 146 } : Room)
def pf_P_decades_0 (σ : kM) (x1 : Int) (x2 : Int) (x3 : Int) : Option ((String ⊕ Int) × kM) :=
  (pf_P_needWhat_0 σ x3 2).bind fun q_14 => match q_14 with
  | (.inl E_3, σ_1) => some (.inl E_3, σ_1)
  | (.inr _, σ_1) =>
    (pf_P_needWithin_0 σ_1 x2 0 60).bind fun q_13 => match q_13 with
    | (.inl E_6, σ_4) => some (.inl E_6, σ_4)
    | (.inr _, σ_4) =>
      (pf_Oracle_drawYears_57 σ_4 x1 x2).bind fun σ_7 =>
      if x3 = 0 then
        some ((.inr (σ_7 65 5), σ_7))
      else
        if x3 = 1 then
          (pf_World_total_58 σ_7 9 (σ_7 3 1)).bind fun r_8 =>
          some ((.inr r_8, σ_7))
        else
          (pf_World_total_58 σ_7 1 (σ_7 3 1)).bind fun r_10 =>
          some ((.inr r_10, σ_7))
set_option maxHeartbeats 4000000 in
theorem bd_pf_P_decades_0 {x : kX} {l0 : Launch} {Q : State → Prop} (C : kCx x prog_1_method_33_code "PoetFines" (some .int) kcl yC 4 l0 R0_pf_P_decades_0) (hT : kTb x) (hfl : l0.stackTraces = false) (σ : kM) (x1 : Int) (x2 : Int) (x3 : Int) {out : (String ⊕ Int) × kM} (h : pf_P_decades_0 σ x1 x2 x3 = some out) (hR : ∀ (r : Int) (τ : kM), out = (.inr r, τ) → Q = kQX x (.inr (some (ki r))) τ 2 12) (hE : ∀ (E : String) (τ : kM), out = (.inl E, τ) → Q = kQX x (.inl E) τ 2 12) : KW x 0 0 Q σ 0 [some (kr 0), some (ki x1), some (ki x2), some (ki x3)] [] := by
  unfold pf_P_decades_0 at h
  refine kw_aload_n C (kdec dc_P_decades 0 rfl) rfl 1 rfl rfl ?_
  refine kw_iload_n C (kdec dc_P_decades 1 rfl) rfl 2 rfl rfl ?_
  refine kw_iconst C (kdec dc_P_decades 2 rfl) 3 rfl rfl ⟨by decide, by decide⟩ ?_
  obtain ⟨⟨q_14, σ_1⟩, hg_2, h⟩ := kbind_h h
  rcases q_14 with E_3 | _
  · dsimp only at h
    obtain rfl := Option.some.inj h
    exact kw_Q (hE _ _ rfl) (kw_callVX_t (As := [ki x3, ki 2]) C hT (kdec dc_P_decades 3 rfl) cv_P_154 rfl rfl (me_pf_P_needWhat_0 l0 hfl hg_2) ⟨rfl, rfl⟩ ⟨Nat.le_of_ble_eq_true rfl, Nat.le_of_ble_eq_true rfl⟩ ⟨Nat.le_of_ble_eq_true rfl, Nat.le_of_ble_eq_true rfl⟩ rfl (Nat.le_of_ble_eq_true rfl) (Nat.le_of_ble_eq_true rfl) (Nat.le_of_ble_eq_true rfl))
  · dsimp only at h
    refine kw_callVX (As := [ki x3, ki 2]) C (kdec dc_P_decades 3 rfl) 6 rfl cv_P_154 rfl rfl (mx_pf_P_needWhat_0 l0 hfl hg_2) ⟨rfl, rfl⟩ ⟨Nat.le_of_ble_eq_true rfl, Nat.le_of_ble_eq_true rfl⟩ ⟨Nat.le_of_ble_eq_true rfl, Nat.le_of_ble_eq_true rfl⟩ rfl (Nat.le_of_ble_eq_true rfl) ?_
    change KW x 1 6 Q σ_1 6 [some (kr 0), some (ki x1), some (ki x2), some (ki x3)] []
    refine kw_aload_n C (kdec dc_P_decades 4 rfl) rfl 7 rfl rfl ?_
    refine kw_iload_n C (kdec dc_P_decades 5 rfl) rfl 8 rfl rfl ?_
    refine kw_iconst C (kdec dc_P_decades 6 rfl) 9 rfl rfl ⟨by decide, by decide⟩ ?_
    refine kw_bipush (v := 60) C (kdec dc_P_decades 7 rfl) 11 rfl (by decide) ⟨by decide, by decide⟩ ?_
    obtain ⟨⟨q_13, σ_4⟩, hg_5, h⟩ := kbind_h h
    rcases q_13 with E_6 | _
    · dsimp only at h
      obtain rfl := Option.some.inj h
      exact kw_Q (hE _ _ rfl) (kw_callVX_t (As := [ki x2, ki 0, ki 60]) C hT (kdec dc_P_decades 8 rfl) cv_P_210 rfl rfl (me_pf_P_needWithin_0 l0 hfl hg_5) ⟨rfl, rfl⟩ ⟨Nat.le_of_ble_eq_true rfl, Nat.le_of_ble_eq_true rfl⟩ ⟨Nat.le_of_ble_eq_true rfl, Nat.le_of_ble_eq_true rfl⟩ rfl (Nat.le_of_ble_eq_true rfl) (Nat.le_of_ble_eq_true rfl) (Nat.le_of_ble_eq_true rfl))
    · dsimp only at h
      refine kw_callVX (As := [ki x2, ki 0, ki 60]) C (kdec dc_P_decades 8 rfl) 14 rfl cv_P_210 rfl rfl (mx_pf_P_needWithin_0 l0 hfl hg_5) ⟨rfl, rfl⟩ ⟨Nat.le_of_ble_eq_true rfl, Nat.le_of_ble_eq_true rfl⟩ ⟨Nat.le_of_ble_eq_true rfl, Nat.le_of_ble_eq_true rfl⟩ rfl (Nat.le_of_ble_eq_true rfl) ?_
      change KW x 2 12 Q σ_4 14 [some (kr 0), some (ki x1), some (ki x2), some (ki x3)] []
      refine kw_aload_n C (kdec dc_P_decades 9 rfl) rfl 15 rfl rfl ?_
      refine kw_getR C (kdec dc_P_decades 10 rfl) 18 rfl fd_C_P_81_0 ?_
      refine kw_iload_n C (kdec dc_P_decades 11 rfl) rfl 19 rfl rfl ?_
      refine kw_iload_n C (kdec dc_P_decades 12 rfl) rfl 20 rfl rfl ?_
      obtain ⟨σ_7, hg_12, h⟩ := kbind_h h
      refine kw_callV (As := [ki x1, ki x2]) C (kdec dc_P_decades 13 rfl) 23 rfl cv_P_322 rfl rfl (mt_pf_Oracle_drawYears_57 l0 hg_12) ⟨rfl, rfl⟩ ⟨Nat.le_of_ble_eq_true rfl, Nat.le_of_ble_eq_true rfl⟩ ⟨Nat.le_of_ble_eq_true rfl, Nat.le_of_ble_eq_true rfl⟩ rfl (Nat.le_of_ble_eq_true rfl) ?_
      change KW x 2 12 Q σ_7 23 [some (kr 0), some (ki x1), some (ki x2), some (ki x3)] []
      refine kw_iload_n C (kdec dc_P_decades 14 rfl) rfl 24 rfl rfl ?_
      by_cases hc24_0 : x3 = 0
      · rw [if_pos hc24_0] at h
        refine kw_lookup C (kdec dc_P_decades 15 rfl) 52 (by decide) (by rw [hc24_0]) (by decide) ?_
        refine kw_aload_n C (kdec dc_P_decades 16 rfl) rfl 53 rfl rfl ?_
        refine kw_getR C (kdec dc_P_decades 17 rfl) 56 rfl fd_C_P_81_0 ?_
        refine kw_getR C (kdec dc_P_decades 18 rfl) 59 rfl fd_C_P_219_57 ?_
        refine kw_getI C (kdec dc_P_decades 19 rfl) 62 rfl fd_C_P_325_65 ?_
        obtain rfl := Option.some.inj h
        exact kw_Q (hR _ _ rfl) (kw_xret (by decide) (by decide) (kw_ireturn C (kdec dc_P_decades 20 rfl)))
      · rw [if_neg hc24_0] at h
        have ghc24_0 : ¬ (0 : Int) = x3 := fun z => hc24_0 z.symm
        by_cases hc24_1 : x3 = 1
        · rw [if_pos hc24_1] at h
          refine kw_lookup C (kdec dc_P_decades 15 rfl) 63 (by decide) (by rw [hc24_1]) (by decide) ?_
          refine kw_aload_n C (kdec dc_P_decades 21 rfl) rfl 64 rfl rfl ?_
          refine kw_getR C (kdec dc_P_decades 22 rfl) 67 rfl fd_C_P_81_0 ?_
          refine kw_getR C (kdec dc_P_decades 23 rfl) 70 rfl fd_C_P_216_57 ?_
          refine kw_bipush (v := 9) C (kdec dc_P_decades 24 rfl) 72 rfl (by decide) ⟨by decide, by decide⟩ ?_
          refine kw_aload_n C (kdec dc_P_decades 25 rfl) rfl 73 rfl rfl ?_
          refine kw_getR C (kdec dc_P_decades 26 rfl) 76 rfl fd_C_P_27_0 ?_
          refine kw_getI C (kdec dc_P_decades 27 rfl) 79 rfl fd_C_P_116_3 ?_
          obtain ⟨r_8, hg_9, h⟩ := kbind_h h
          refine kw_callV (As := [ki 9, ki (σ_7 3 1)]) C (kdec dc_P_decades 28 rfl) 82 rfl cv_P_127 rfl rfl (mt_pf_World_total_58 l0 hg_9) ⟨rfl, rfl⟩ ⟨Nat.le_of_ble_eq_true rfl, Nat.le_of_ble_eq_true rfl⟩ ⟨Nat.le_of_ble_eq_true rfl, Nat.le_of_ble_eq_true rfl⟩ rfl (Nat.le_of_ble_eq_true rfl) ?_
          change KW x 2 12 Q σ_7 82 [some (kr 0), some (ki x1), some (ki x2), some (ki x3)] [ki r_8]
          obtain rfl := Option.some.inj h
          exact kw_Q (hR _ _ rfl) (kw_xret (by decide) (by decide) (kw_ireturn C (kdec dc_P_decades 29 rfl)))
        · rw [if_neg hc24_1] at h
          have ghc24_1 : ¬ (1 : Int) = x3 := fun z => hc24_1 z.symm
          refine kw_lookup (off := 59) C (kdec dc_P_decades 15 rfl) 83 (by decide) (by simp [Op.lookupswitch.offset, ghc24_0, ghc24_1]) (by decide) ?_
          refine kw_aload_n C (kdec dc_P_decades 30 rfl) rfl 84 rfl rfl ?_
          refine kw_getR C (kdec dc_P_decades 31 rfl) 87 rfl fd_C_P_81_0 ?_
          refine kw_getR C (kdec dc_P_decades 32 rfl) 90 rfl fd_C_P_216_57 ?_
          refine kw_iconst C (kdec dc_P_decades 33 rfl) 91 rfl rfl ⟨by decide, by decide⟩ ?_
          refine kw_aload_n C (kdec dc_P_decades 34 rfl) rfl 92 rfl rfl ?_
          refine kw_getR C (kdec dc_P_decades 35 rfl) 95 rfl fd_C_P_27_0 ?_
          refine kw_getI C (kdec dc_P_decades 36 rfl) 98 rfl fd_C_P_116_3 ?_
          obtain ⟨r_10, hg_11, h⟩ := kbind_h h
          refine kw_callV (As := [ki 1, ki (σ_7 3 1)]) C (kdec dc_P_decades 37 rfl) 101 rfl cv_P_127 rfl rfl (mt_pf_World_total_58 l0 hg_11) ⟨rfl, rfl⟩ ⟨Nat.le_of_ble_eq_true rfl, Nat.le_of_ble_eq_true rfl⟩ ⟨Nat.le_of_ble_eq_true rfl, Nat.le_of_ble_eq_true rfl⟩ rfl (Nat.le_of_ble_eq_true rfl) ?_
          change KW x 2 12 Q σ_7 101 [some (kr 0), some (ki x1), some (ki x2), some (ki x3)] [ki r_10]
          obtain rfl := Option.some.inj h
          exact kw_Q (hR _ _ rfl) (kw_xret (by decide) (by decide) (kw_ireturn C (kdec dc_P_decades 38 rfl)))
theorem mx_pf_P_decades_0 (l0 : Launch) (hfl : l0.stackTraces = false) {σ : kM} {x1 : Int} {x2 : Int} {x3 : Int} {r : Int} {τ : kM} (h : pf_P_decades_0 σ x1 x2 x3 = some (.inr r, τ)) : kXet l0 ky_P_decades prog_1_method_33_code 4 (some .int) R0_pf_P_decades_0 kcl yC σ [kr 0, ki x1, ki x2, ki x3] (.inr (some (ki r))) τ 2 12 := kXet.of [some (kr 0), some (ki x1), some (ki x2), some (ki x3)] (by decide) (Nat.le_of_ble_eq_true rfl) ⟨rfl, rfl, rfl, rfl, trivial⟩ (fun x C hT => bd_pf_P_decades_0 C hT hfl σ x1 x2 x3 h (fun r τ e => by cases e; rfl) (fun E τ e => by cases e))
theorem me_pf_P_decades_0 (l0 : Launch) (hfl : l0.stackTraces = false) {σ : kM} {x1 : Int} {x2 : Int} {x3 : Int} {E : String} {τ : kM} (h : pf_P_decades_0 σ x1 x2 x3 = some (.inl E, τ)) : kXet l0 ky_P_decades prog_1_method_33_code 4 (some .int) R0_pf_P_decades_0 kcl yC σ [kr 0, ki x1, ki x2, ki x3] (.inl E) τ 2 12 := kXet.of [some (kr 0), some (ki x1), some (ki x2), some (ki x3)] (by decide) (Nat.le_of_ble_eq_true rfl) ⟨rfl, rfl, rfl, rfl, trivial⟩ (fun x C hT => bd_pf_P_decades_0 C hT hfl σ x1 x2 x3 h (fun r τ e => by cases e) (fun E τ e => by cases e; rfl))
def R0_pf_P_jailed_0 : Room := ({ frames := 7, cells := 2, slots := 12, locals := 166 } : Room)
def pf_P_jailed_0 (σ : kM) (x1 : Int) (x2 : Int) : Option ((String ⊕ Int) × kM) :=
  (pf_P_needPoet_0 σ x1).bind fun q_11 => match q_11 with
  | (.inl E_3, σ_1) => some (.inl E_3, σ_1)
  | (.inr _, σ_1) =>
    (pf_P_needWithin_0 σ_1 x2 0 60).bind fun q_10 => match q_10 with
    | (.inl E_6, σ_4) => some (.inl E_6, σ_4)
    | (.inr _, σ_4) =>
      (pf_Oracle_foresee_57 σ_4 x2).bind fun σ_7 =>
      kchk (0 ≤ x1 ∧ x1 < 4) <|
      some ((.inr (w32 (x2 - (σ_7 68 x1.toNat))), σ_7))
set_option maxHeartbeats 4000000 in
theorem bd_pf_P_jailed_0 {x : kX} {l0 : Launch} {Q : State → Prop} (C : kCx x prog_1_method_34_code "PoetFines" (some .int) kcl yC 3 l0 R0_pf_P_jailed_0) (hT : kTb x) (hfl : l0.stackTraces = false) (σ : kM) (x1 : Int) (x2 : Int) {out : (String ⊕ Int) × kM} (h : pf_P_jailed_0 σ x1 x2 = some out) (hR : ∀ (r : Int) (τ : kM), out = (.inr r, τ) → Q = kQX x (.inr (some (ki r))) τ 2 12) (hE : ∀ (E : String) (τ : kM), out = (.inl E, τ) → Q = kQX x (.inl E) τ 2 12) : KW x 0 0 Q σ 0 [some (kr 0), some (ki x1), some (ki x2)] [] := by
  unfold pf_P_jailed_0 at h
  refine kw_aload_n C (kdec dc_P_jailed 0 rfl) rfl 1 rfl rfl ?_
  refine kw_iload_n C (kdec dc_P_jailed 1 rfl) rfl 2 rfl rfl ?_
  obtain ⟨⟨q_11, σ_1⟩, hg_2, h⟩ := kbind_h h
  rcases q_11 with E_3 | _
  · dsimp only at h
    obtain rfl := Option.some.inj h
    exact kw_Q (hE _ _ rfl) (kw_callVX_t (As := [ki x1]) C hT (kdec dc_P_jailed 2 rfl) cv_P_162 rfl rfl (me_pf_P_needPoet_0 l0 hfl hg_2) ⟨rfl, rfl⟩ ⟨Nat.le_of_ble_eq_true rfl, Nat.le_of_ble_eq_true rfl⟩ ⟨Nat.le_of_ble_eq_true rfl, Nat.le_of_ble_eq_true rfl⟩ rfl (Nat.le_of_ble_eq_true rfl) (Nat.le_of_ble_eq_true rfl) (Nat.le_of_ble_eq_true rfl))
  · dsimp only at h
    refine kw_callVX (As := [ki x1]) C (kdec dc_P_jailed 2 rfl) 5 rfl cv_P_162 rfl rfl (mx_pf_P_needPoet_0 l0 hfl hg_2) ⟨rfl, rfl⟩ ⟨Nat.le_of_ble_eq_true rfl, Nat.le_of_ble_eq_true rfl⟩ ⟨Nat.le_of_ble_eq_true rfl, Nat.le_of_ble_eq_true rfl⟩ rfl (Nat.le_of_ble_eq_true rfl) ?_
    change KW x 1 6 Q σ_1 5 [some (kr 0), some (ki x1), some (ki x2)] []
    refine kw_aload_n C (kdec dc_P_jailed 3 rfl) rfl 6 rfl rfl ?_
    refine kw_iload_n C (kdec dc_P_jailed 4 rfl) rfl 7 rfl rfl ?_
    refine kw_iconst C (kdec dc_P_jailed 5 rfl) 8 rfl rfl ⟨by decide, by decide⟩ ?_
    refine kw_bipush (v := 60) C (kdec dc_P_jailed 6 rfl) 10 rfl (by decide) ⟨by decide, by decide⟩ ?_
    obtain ⟨⟨q_10, σ_4⟩, hg_5, h⟩ := kbind_h h
    rcases q_10 with E_6 | _
    · dsimp only at h
      obtain rfl := Option.some.inj h
      exact kw_Q (hE _ _ rfl) (kw_callVX_t (As := [ki x2, ki 0, ki 60]) C hT (kdec dc_P_jailed 7 rfl) cv_P_210 rfl rfl (me_pf_P_needWithin_0 l0 hfl hg_5) ⟨rfl, rfl⟩ ⟨Nat.le_of_ble_eq_true rfl, Nat.le_of_ble_eq_true rfl⟩ ⟨Nat.le_of_ble_eq_true rfl, Nat.le_of_ble_eq_true rfl⟩ rfl (Nat.le_of_ble_eq_true rfl) (Nat.le_of_ble_eq_true rfl) (Nat.le_of_ble_eq_true rfl))
    · dsimp only at h
      refine kw_callVX (As := [ki x2, ki 0, ki 60]) C (kdec dc_P_jailed 7 rfl) 13 rfl cv_P_210 rfl rfl (mx_pf_P_needWithin_0 l0 hfl hg_5) ⟨rfl, rfl⟩ ⟨Nat.le_of_ble_eq_true rfl, Nat.le_of_ble_eq_true rfl⟩ ⟨Nat.le_of_ble_eq_true rfl, Nat.le_of_ble_eq_true rfl⟩ rfl (Nat.le_of_ble_eq_true rfl) ?_
      change KW x 2 12 Q σ_4 13 [some (kr 0), some (ki x1), some (ki x2)] []
      refine kw_aload_n C (kdec dc_P_jailed 8 rfl) rfl 14 rfl rfl ?_
      refine kw_getR C (kdec dc_P_jailed 9 rfl) 17 rfl fd_C_P_81_0 ?_
      refine kw_iload_n C (kdec dc_P_jailed 10 rfl) rfl 18 rfl rfl ?_
      obtain ⟨σ_7, hg_9, h⟩ := kbind_h h
      refine kw_callV (As := [ki x2]) C (kdec dc_P_jailed 11 rfl) 21 rfl cv_P_213 rfl rfl (mt_pf_Oracle_foresee_57 l0 hg_9) ⟨rfl, rfl⟩ ⟨Nat.le_of_ble_eq_true rfl, Nat.le_of_ble_eq_true rfl⟩ ⟨Nat.le_of_ble_eq_true rfl, Nat.le_of_ble_eq_true rfl⟩ rfl (Nat.le_of_ble_eq_true rfl) ?_
      change KW x 2 12 Q σ_7 21 [some (kr 0), some (ki x1), some (ki x2)] []
      refine kw_iload_n C (kdec dc_P_jailed 12 rfl) rfl 22 rfl rfl ?_
      refine kw_aload_n C (kdec dc_P_jailed 13 rfl) rfl 23 rfl rfl ?_
      refine kw_getR C (kdec dc_P_jailed 14 rfl) 26 rfl fd_C_P_81_0 ?_
      refine kw_getR C (kdec dc_P_jailed 15 rfl) 29 rfl fd_C_P_219_57 ?_
      refine kw_getR C (kdec dc_P_jailed 16 rfl) 32 rfl fd_C_P_231_65 ?_
      refine kw_iload_n C (kdec dc_P_jailed 17 rfl) rfl 33 rfl rfl ?_
      obtain ⟨hc_8, h⟩ := kchk_h h
      refine kw_iald C (kdec dc_P_jailed 18 rfl) 34 rfl rfl hc_8.1 hc_8.2 ?_
      refine kw_isub C (kdec dc_P_jailed 19 rfl) 35 rfl ?_
      obtain rfl := Option.some.inj h
      exact kw_Q (hR _ _ rfl) (kw_xret (by decide) (by decide) (kw_ireturn C (kdec dc_P_jailed 20 rfl)))
theorem mx_pf_P_jailed_0 (l0 : Launch) (hfl : l0.stackTraces = false) {σ : kM} {x1 : Int} {x2 : Int} {r : Int} {τ : kM} (h : pf_P_jailed_0 σ x1 x2 = some (.inr r, τ)) : kXet l0 ky_P_jailed prog_1_method_34_code 3 (some .int) R0_pf_P_jailed_0 kcl yC σ [kr 0, ki x1, ki x2] (.inr (some (ki r))) τ 2 12 := kXet.of [some (kr 0), some (ki x1), some (ki x2)] (by decide) (Nat.le_of_ble_eq_true rfl) ⟨rfl, rfl, rfl, trivial⟩ (fun x C hT => bd_pf_P_jailed_0 C hT hfl σ x1 x2 h (fun r τ e => by cases e; rfl) (fun E τ e => by cases e))
theorem me_pf_P_jailed_0 (l0 : Launch) (hfl : l0.stackTraces = false) {σ : kM} {x1 : Int} {x2 : Int} {E : String} {τ : kM} (h : pf_P_jailed_0 σ x1 x2 = some (.inl E, τ)) : kXet l0 ky_P_jailed prog_1_method_34_code 3 (some .int) R0_pf_P_jailed_0 kcl yC σ [kr 0, ki x1, ki x2] (.inl E) τ 2 12 := kXet.of [some (kr 0), some (ki x1), some (ki x2)] (by decide) (Nat.le_of_ble_eq_true rfl) ⟨rfl, rfl, rfl, trivial⟩ (fun x C hT => bd_pf_P_jailed_0 C hT hfl σ x1 x2 h (fun r τ e => by cases e) (fun E τ e => by cases e; rfl))
def R0_pf_P_into_0 : Room := ({ frames := 7, cells := 3, slots := 18, locals := 166 } : Room)
def pf_P_into_0 (σ : kM) (x1 : Int) (x2 : Int) (x3 : Int) : Option ((String ⊕ Int) × kM) :=
  (pf_P_needPerson_0 σ x1).bind fun q_15 => match q_15 with
  | (.inl E_3, σ_1) => some (.inl E_3, σ_1)
  | (.inr _, σ_1) =>
    (pf_P_needPoet_0 σ_1 x2).bind fun q_14 => match q_14 with
    | (.inl E_6, σ_4) => some (.inl E_6, σ_4)
    | (.inr _, σ_4) =>
      (pf_P_needWithin_0 σ_4 x3 0 60).bind fun q_13 => match q_13 with
      | (.inl E_9, σ_7) => some (.inl E_9, σ_7)
      | (.inr _, σ_7) =>
        (pf_Oracle_foresee_57 σ_7 x3).bind fun σ_10 =>
        kchk (0 ≤ (w32 ((w32 (x2 * 8)) + x1)) ∧ (w32 ((w32 (x2 * 8)) + x1)) < 32) <|
        some ((.inr (σ_10 69 (w32 ((w32 (x2 * 8)) + x1)).toNat), σ_10))
set_option maxHeartbeats 4000000 in
theorem bd_pf_P_into_0 {x : kX} {l0 : Launch} {Q : State → Prop} (C : kCx x prog_1_method_35_code "PoetFines" (some .int) kcl yC 4 l0 R0_pf_P_into_0) (hT : kTb x) (hfl : l0.stackTraces = false) (σ : kM) (x1 : Int) (x2 : Int) (x3 : Int) {out : (String ⊕ Int) × kM} (h : pf_P_into_0 σ x1 x2 x3 = some out) (hR : ∀ (r : Int) (τ : kM), out = (.inr r, τ) → Q = kQX x (.inr (some (ki r))) τ 3 18) (hE : ∀ (E : String) (τ : kM), out = (.inl E, τ) → Q = kQX x (.inl E) τ 3 18) : KW x 0 0 Q σ 0 [some (kr 0), some (ki x1), some (ki x2), some (ki x3)] [] := by
  unfold pf_P_into_0 at h
  refine kw_aload_n C (kdec dc_P_into 0 rfl) rfl 1 rfl rfl ?_
  refine kw_iload_n C (kdec dc_P_into 1 rfl) rfl 2 rfl rfl ?_
  obtain ⟨⟨q_15, σ_1⟩, hg_2, h⟩ := kbind_h h
  rcases q_15 with E_3 | _
  · dsimp only at h
    obtain rfl := Option.some.inj h
    exact kw_Q (hE _ _ rfl) (kw_callVX_t (As := [ki x1]) C hT (kdec dc_P_into 2 rfl) cv_P_148 rfl rfl (me_pf_P_needPerson_0 l0 hfl hg_2) ⟨rfl, rfl⟩ ⟨Nat.le_of_ble_eq_true rfl, Nat.le_of_ble_eq_true rfl⟩ ⟨Nat.le_of_ble_eq_true rfl, Nat.le_of_ble_eq_true rfl⟩ rfl (Nat.le_of_ble_eq_true rfl) (Nat.le_of_ble_eq_true rfl) (Nat.le_of_ble_eq_true rfl))
  · dsimp only at h
    refine kw_callVX (As := [ki x1]) C (kdec dc_P_into 2 rfl) 5 rfl cv_P_148 rfl rfl (mx_pf_P_needPerson_0 l0 hfl hg_2) ⟨rfl, rfl⟩ ⟨Nat.le_of_ble_eq_true rfl, Nat.le_of_ble_eq_true rfl⟩ ⟨Nat.le_of_ble_eq_true rfl, Nat.le_of_ble_eq_true rfl⟩ rfl (Nat.le_of_ble_eq_true rfl) ?_
    change KW x 1 6 Q σ_1 5 [some (kr 0), some (ki x1), some (ki x2), some (ki x3)] []
    refine kw_aload_n C (kdec dc_P_into 3 rfl) rfl 6 rfl rfl ?_
    refine kw_iload_n C (kdec dc_P_into 4 rfl) rfl 7 rfl rfl ?_
    obtain ⟨⟨q_14, σ_4⟩, hg_5, h⟩ := kbind_h h
    rcases q_14 with E_6 | _
    · dsimp only at h
      obtain rfl := Option.some.inj h
      exact kw_Q (hE _ _ rfl) (kw_callVX_t (As := [ki x2]) C hT (kdec dc_P_into 5 rfl) cv_P_162 rfl rfl (me_pf_P_needPoet_0 l0 hfl hg_5) ⟨rfl, rfl⟩ ⟨Nat.le_of_ble_eq_true rfl, Nat.le_of_ble_eq_true rfl⟩ ⟨Nat.le_of_ble_eq_true rfl, Nat.le_of_ble_eq_true rfl⟩ rfl (Nat.le_of_ble_eq_true rfl) (Nat.le_of_ble_eq_true rfl) (Nat.le_of_ble_eq_true rfl))
    · dsimp only at h
      refine kw_callVX (As := [ki x2]) C (kdec dc_P_into 5 rfl) 10 rfl cv_P_162 rfl rfl (mx_pf_P_needPoet_0 l0 hfl hg_5) ⟨rfl, rfl⟩ ⟨Nat.le_of_ble_eq_true rfl, Nat.le_of_ble_eq_true rfl⟩ ⟨Nat.le_of_ble_eq_true rfl, Nat.le_of_ble_eq_true rfl⟩ rfl (Nat.le_of_ble_eq_true rfl) ?_
      change KW x 2 12 Q σ_4 10 [some (kr 0), some (ki x1), some (ki x2), some (ki x3)] []
      refine kw_aload_n C (kdec dc_P_into 6 rfl) rfl 11 rfl rfl ?_
      refine kw_iload_n C (kdec dc_P_into 7 rfl) rfl 12 rfl rfl ?_
      refine kw_iconst C (kdec dc_P_into 8 rfl) 13 rfl rfl ⟨by decide, by decide⟩ ?_
      refine kw_bipush (v := 60) C (kdec dc_P_into 9 rfl) 15 rfl (by decide) ⟨by decide, by decide⟩ ?_
      obtain ⟨⟨q_13, σ_7⟩, hg_8, h⟩ := kbind_h h
      rcases q_13 with E_9 | _
      · dsimp only at h
        obtain rfl := Option.some.inj h
        exact kw_Q (hE _ _ rfl) (kw_callVX_t (As := [ki x3, ki 0, ki 60]) C hT (kdec dc_P_into 10 rfl) cv_P_210 rfl rfl (me_pf_P_needWithin_0 l0 hfl hg_8) ⟨rfl, rfl⟩ ⟨Nat.le_of_ble_eq_true rfl, Nat.le_of_ble_eq_true rfl⟩ ⟨Nat.le_of_ble_eq_true rfl, Nat.le_of_ble_eq_true rfl⟩ rfl (Nat.le_of_ble_eq_true rfl) (Nat.le_of_ble_eq_true rfl) (Nat.le_of_ble_eq_true rfl))
      · dsimp only at h
        refine kw_callVX (As := [ki x3, ki 0, ki 60]) C (kdec dc_P_into 10 rfl) 18 rfl cv_P_210 rfl rfl (mx_pf_P_needWithin_0 l0 hfl hg_8) ⟨rfl, rfl⟩ ⟨Nat.le_of_ble_eq_true rfl, Nat.le_of_ble_eq_true rfl⟩ ⟨Nat.le_of_ble_eq_true rfl, Nat.le_of_ble_eq_true rfl⟩ rfl (Nat.le_of_ble_eq_true rfl) ?_
        change KW x 3 18 Q σ_7 18 [some (kr 0), some (ki x1), some (ki x2), some (ki x3)] []
        refine kw_aload_n C (kdec dc_P_into 11 rfl) rfl 19 rfl rfl ?_
        refine kw_getR C (kdec dc_P_into 12 rfl) 22 rfl fd_C_P_81_0 ?_
        refine kw_iload_n C (kdec dc_P_into 13 rfl) rfl 23 rfl rfl ?_
        obtain ⟨σ_10, hg_12, h⟩ := kbind_h h
        refine kw_callV (As := [ki x3]) C (kdec dc_P_into 14 rfl) 26 rfl cv_P_213 rfl rfl (mt_pf_Oracle_foresee_57 l0 hg_12) ⟨rfl, rfl⟩ ⟨Nat.le_of_ble_eq_true rfl, Nat.le_of_ble_eq_true rfl⟩ ⟨Nat.le_of_ble_eq_true rfl, Nat.le_of_ble_eq_true rfl⟩ rfl (Nat.le_of_ble_eq_true rfl) ?_
        change KW x 3 18 Q σ_10 26 [some (kr 0), some (ki x1), some (ki x2), some (ki x3)] []
        refine kw_aload_n C (kdec dc_P_into 15 rfl) rfl 27 rfl rfl ?_
        refine kw_getR C (kdec dc_P_into 16 rfl) 30 rfl fd_C_P_81_0 ?_
        refine kw_getR C (kdec dc_P_into 17 rfl) 33 rfl fd_C_P_219_57 ?_
        refine kw_getR C (kdec dc_P_into 18 rfl) 36 rfl fd_C_P_328_65 ?_
        refine kw_iload_n C (kdec dc_P_into 19 rfl) rfl 37 rfl rfl ?_
        refine kw_bipush (v := 8) C (kdec dc_P_into 20 rfl) 39 rfl (by decide) ⟨by decide, by decide⟩ ?_
        refine kw_imul C (kdec dc_P_into 21 rfl) 40 rfl ?_
        refine kw_iload_n C (kdec dc_P_into 22 rfl) rfl 41 rfl rfl ?_
        refine kw_iadd C (kdec dc_P_into 23 rfl) 42 rfl ?_
        obtain ⟨hc_11, h⟩ := kchk_h h
        refine kw_iald C (kdec dc_P_into 24 rfl) 43 rfl rfl hc_11.1 hc_11.2 ?_
        obtain rfl := Option.some.inj h
        exact kw_Q (hR _ _ rfl) (kw_xret (by decide) (by decide) (kw_ireturn C (kdec dc_P_into 25 rfl)))
theorem mx_pf_P_into_0 (l0 : Launch) (hfl : l0.stackTraces = false) {σ : kM} {x1 : Int} {x2 : Int} {x3 : Int} {r : Int} {τ : kM} (h : pf_P_into_0 σ x1 x2 x3 = some (.inr r, τ)) : kXet l0 ky_P_into prog_1_method_35_code 4 (some .int) R0_pf_P_into_0 kcl yC σ [kr 0, ki x1, ki x2, ki x3] (.inr (some (ki r))) τ 3 18 := kXet.of [some (kr 0), some (ki x1), some (ki x2), some (ki x3)] (by decide) (Nat.le_of_ble_eq_true rfl) ⟨rfl, rfl, rfl, rfl, trivial⟩ (fun x C hT => bd_pf_P_into_0 C hT hfl σ x1 x2 x3 h (fun r τ e => by cases e; rfl) (fun E τ e => by cases e))
theorem me_pf_P_into_0 (l0 : Launch) (hfl : l0.stackTraces = false) {σ : kM} {x1 : Int} {x2 : Int} {x3 : Int} {E : String} {τ : kM} (h : pf_P_into_0 σ x1 x2 x3 = some (.inl E, τ)) : kXet l0 ky_P_into prog_1_method_35_code 4 (some .int) R0_pf_P_into_0 kcl yC σ [kr 0, ki x1, ki x2, ki x3] (.inl E) τ 3 18 := kXet.of [some (kr 0), some (ki x1), some (ki x2), some (ki x3)] (by decide) (Nat.le_of_ble_eq_true rfl) ⟨rfl, rfl, rfl, rfl, trivial⟩ (fun x C hT => bd_pf_P_into_0 C hT hfl σ x1 x2 x3 h (fun r τ e => by cases e) (fun E τ e => by cases e; rfl))
def R0_pf_Oracle_leastPaying_57 : Room := ({ frames := 0, cells := 0, slots := 0, locals := 0 } : Room)
def pf_Oracle_leastPaying_57_l4_j43 (σ : kM) (x1 : Int) (x2 : Int) : Option ((Int × Int) ⊕ ((Int))) :=
  klet (w32 (x2 + 1)) fun x2_2 =>
  some (Sum.inl (x1, x2_2))
set_option maxHeartbeats 4000000 in
theorem bd_pf_Oracle_leastPaying_57_l4_j43 {x : kX} {l0 : Launch} {Q : State → Prop} (C : kCx x prog_5_method_6_code "PoetFines$Oracle" (some .int) kcl yC 3 l0 R0_pf_Oracle_leastPaying_57) (σ : kM) (x1 : Int) (x2 : Int) {out : (Int × Int) ⊕ ((Int))} (h : pf_Oracle_leastPaying_57_l4_j43 σ x1 x2 = some out) (hC : ∀ (x1' : Int) (x2' : Int), out = Sum.inl (x1', x2') → KW x 0 0 Q σ 4 [some (kr 57), some (ki x1'), some (ki x2')] []) (hX49 : ∀ (x1' : Int), out = Sum.inr x1' → KW x 0 0 Q σ 49 [none, some (ki x1'), none] []) : KW x 0 0 Q σ 43 [some (kr 57), some (ki x1), some (ki x2)] [] := by
  unfold pf_Oracle_leastPaying_57_l4_j43 at h
  obtain ⟨x2_2, ex2_2, h⟩ := klet_h h
  refine kw_iinc (L' := [some (kr 57), some (ki x1), some (ki x2_2)]) C (kdec dc_Oracle_leastPaying 25 rfl) 46 rfl rfl (by decide) rfl (by rw [ex2_2]; rfl) ?_
  refine kw_goto C (kdec dc_Oracle_leastPaying 26 rfl) 4 (by decide) ?_
  obtain rfl := Option.some.inj h
  exact (hC _ _ rfl)
def pf_Oracle_leastPaying_57_l4_j41 (σ : kM) (x2 : Int) : Option ((Int × Int) ⊕ ((Int))) :=
  pf_Oracle_leastPaying_57_l4_j43 σ x2 x2
set_option maxHeartbeats 4000000 in
theorem bd_pf_Oracle_leastPaying_57_l4_j41 {x : kX} {l0 : Launch} {Q : State → Prop} (C : kCx x prog_5_method_6_code "PoetFines$Oracle" (some .int) kcl yC 3 l0 R0_pf_Oracle_leastPaying_57) (σ : kM) (x2 : Int) {out : (Int × Int) ⊕ ((Int))} (h : pf_Oracle_leastPaying_57_l4_j41 σ x2 = some out) (hC : ∀ (x1' : Int) (x2' : Int), out = Sum.inl (x1', x2') → KW x 0 0 Q σ 4 [some (kr 57), some (ki x1'), some (ki x2')] []) (hX49 : ∀ (x1' : Int), out = Sum.inr x1' → KW x 0 0 Q σ 49 [none, some (ki x1'), none] []) : KW x 0 0 Q σ 41 [some (kr 57), none, some (ki x2)] [] := by
  unfold pf_Oracle_leastPaying_57_l4_j41 at h
  refine kw_iload_n C (kdec dc_Oracle_leastPaying 23 rfl) rfl 42 rfl rfl ?_
  refine kw_istore_n (L' := [some (kr 57), some (ki x2), some (ki x2)]) C (kdec dc_Oracle_leastPaying 24 rfl) rfl 43 rfl (by decide) rfl rfl ?_
  exact bd_pf_Oracle_leastPaying_57_l4_j43 C σ x2 x2 h hC hX49
def pf_Oracle_leastPaying_57_l4 (σ : kM) (x1 : Int) (x2 : Int) : Option ((Int × Int) ⊕ ((Int))) :=
  if (σ 3 2) ≤ x2 then
    some (Sum.inr x1)
  else
    if x1 = ((-1)) then
      pf_Oracle_leastPaying_57_l4_j41 σ x2
    else
      kchk (0 ≤ x2 ∧ x2 < 4) <|
      kchk (0 ≤ x1 ∧ x1 < 4) <|
      if (σ 66 x1.toNat) ≤ (σ 66 x2.toNat) then
        pf_Oracle_leastPaying_57_l4_j43 σ x1 x2
      else
        pf_Oracle_leastPaying_57_l4_j41 σ x2
set_option maxHeartbeats 4000000 in
theorem bd_pf_Oracle_leastPaying_57_l4 {x : kX} {l0 : Launch} {Q : State → Prop} (C : kCx x prog_5_method_6_code "PoetFines$Oracle" (some .int) kcl yC 3 l0 R0_pf_Oracle_leastPaying_57) (σ : kM) (x1 : Int) (x2 : Int) {out : (Int × Int) ⊕ ((Int))} (h : pf_Oracle_leastPaying_57_l4 σ x1 x2 = some out) (hC : ∀ (x1' : Int) (x2' : Int), out = Sum.inl (x1', x2') → KW x 0 0 Q σ 4 [some (kr 57), some (ki x1'), some (ki x2')] []) (hX49 : ∀ (x1' : Int), out = Sum.inr x1' → KW x 0 0 Q σ 49 [none, some (ki x1'), none] []) : KW x 0 0 Q σ 4 [some (kr 57), some (ki x1), some (ki x2)] [] := by
  unfold pf_Oracle_leastPaying_57_l4 at h
  refine kw_iload_n C (kdec dc_Oracle_leastPaying 4 rfl) rfl 5 rfl rfl ?_
  refine kw_aload_n C (kdec dc_Oracle_leastPaying 5 rfl) rfl 6 rfl rfl ?_
  refine kw_getR C (kdec dc_Oracle_leastPaying 6 rfl) 9 rfl fd_C_Oracle_42_57 ?_
  refine kw_getI C (kdec dc_Oracle_leastPaying 7 rfl) 12 rfl fd_C_Oracle_87_3 ?_
  refine kw_icmp_ge C (kdec dc_Oracle_leastPaying 8 rfl) 49 15 (by decide) rfl (fun hc12 => ?_) (fun hc12 => ?_)
  · rw [if_pos hc12] at h
    obtain rfl := Option.some.inj h
    exact kw_sub (L' := [none, some (ki x1), none]) ⟨rfl, trivial⟩ (hX49 _ rfl)
  · rw [if_neg hc12] at h
    refine kw_iload_n C (kdec dc_Oracle_leastPaying 9 rfl) rfl 16 rfl rfl ?_
    refine kw_iconst C (kdec dc_Oracle_leastPaying 10 rfl) 17 rfl rfl ⟨by decide, by decide⟩ ?_
    refine kw_icmp_eq C (kdec dc_Oracle_leastPaying 11 rfl) 41 20 (by decide) rfl (fun hc17 => ?_) (fun hc17 => ?_)
    · rw [if_pos hc17] at h
      exact kw_sub (L' := [some (kr 57), none, some (ki x2)]) ⟨rfl, rfl, trivial⟩ (bd_pf_Oracle_leastPaying_57_l4_j41 C σ x2 h hC hX49)
    · rw [if_neg hc17] at h
      refine kw_aload_n C (kdec dc_Oracle_leastPaying 12 rfl) rfl 21 rfl rfl ?_
      refine kw_getR C (kdec dc_Oracle_leastPaying 13 rfl) 24 rfl fd_C_Oracle_63_57 ?_
      refine kw_getR C (kdec dc_Oracle_leastPaying 14 rfl) 27 rfl fd_C_Oracle_90_65 ?_
      refine kw_iload_n C (kdec dc_Oracle_leastPaying 15 rfl) rfl 28 rfl rfl ?_
      obtain ⟨hc_3, h⟩ := kchk_h h
      refine kw_iald C (kdec dc_Oracle_leastPaying 16 rfl) 29 rfl rfl hc_3.1 hc_3.2 ?_
      refine kw_aload_n C (kdec dc_Oracle_leastPaying 17 rfl) rfl 30 rfl rfl ?_
      refine kw_getR C (kdec dc_Oracle_leastPaying 18 rfl) 33 rfl fd_C_Oracle_63_57 ?_
      refine kw_getR C (kdec dc_Oracle_leastPaying 19 rfl) 36 rfl fd_C_Oracle_90_65 ?_
      refine kw_iload_n C (kdec dc_Oracle_leastPaying 20 rfl) rfl 37 rfl rfl ?_
      obtain ⟨hc_4, h⟩ := kchk_h h
      refine kw_iald C (kdec dc_Oracle_leastPaying 21 rfl) 38 rfl rfl hc_4.1 hc_4.2 ?_
      refine kw_icmp_ge C (kdec dc_Oracle_leastPaying 22 rfl) 43 41 (by decide) rfl (fun hc38 => ?_) (fun hc38 => ?_)
      · rw [if_pos hc38] at h
        exact bd_pf_Oracle_leastPaying_57_l4_j43 C σ x1 x2 h hC hX49
      · rw [if_neg hc38] at h
        exact kw_sub (L' := [some (kr 57), none, some (ki x2)]) ⟨rfl, rfl, trivial⟩ (bd_pf_Oracle_leastPaying_57_l4_j41 C σ x2 h hC hX49)
theorem lp_pf_Oracle_leastPaying_57_l4 {x : kX} {l0 : Launch} {Q : State → Prop} (C : kCx x prog_5_method_6_code "PoetFines$Oracle" (some .int) kcl yC 3 l0 R0_pf_Oracle_leastPaying_57) (σ : kM) {ex : (Int)} (hX49 : ∀ (x1' : Int), ex = x1' → KW x 0 0 Q σ 49 [none, some (ki x1'), none] []) (n : Nat) (x1 : Int) (x2 : Int) (h : kloop (fun st => pf_Oracle_leastPaying_57_l4 σ st.1 st.2) n (x1, x2) = some ex) : KW x 0 0 Q σ 4 [some (kr 57), some (ki x1), some (ki x2)] [] :=
  kloop_ind (P := (fun st : Int × Int => KW x 0 0 Q σ 4 [some (kr 57), some (ki (st.1)), some (ki (st.2))] [])) (fun st out hb hc hx => bd_pf_Oracle_leastPaying_57_l4 C σ st.1 st.2 hb (fun a0 a1 e => hc _ e) (fun a0 e => hX49 _ ((hx _ e).symm))) n (x1, x2) h
def pf_Oracle_leastPaying_57 (σ : kM) : Option (Int) :=
  klet ((-1)) fun x1_1 =>
  (kloop (fun st => pf_Oracle_leastPaying_57_l4 σ st.1 st.2) kFuel (x1_1, 0)).bind fun x1_7 =>
  some x1_7
set_option maxHeartbeats 4000000 in
theorem bd_pf_Oracle_leastPaying_57 {x : kX} {l0 : Launch} {Q : State → Prop} (C : kCx x prog_5_method_6_code "PoetFines$Oracle" (some .int) kcl yC 3 l0 R0_pf_Oracle_leastPaying_57) (σ : kM) {out : Int} (h : pf_Oracle_leastPaying_57 σ = some out) (hR : ∀ (r : Int), out = r → Q = kQ x (some (ki r)) σ 0 0) : KW x 0 0 Q σ 0 [some (kr 57), none, none] [] := by
  unfold pf_Oracle_leastPaying_57 at h
  refine kw_iconst C (kdec dc_Oracle_leastPaying 0 rfl) 1 rfl rfl ⟨by decide, by decide⟩ ?_
  obtain ⟨x1_1, ex1_1, h⟩ := klet_h h
  refine kw_top ex1_1 ?_
  refine kw_istore_n (L' := [some (kr 57), some (ki x1_1), none]) C (kdec dc_Oracle_leastPaying 1 rfl) rfl 2 rfl (by decide) rfl rfl ?_
  refine kw_iconst C (kdec dc_Oracle_leastPaying 2 rfl) 3 rfl rfl ⟨by decide, by decide⟩ ?_
  refine kw_istore_n (L' := [some (kr 57), some (ki x1_1), some (ki 0)]) C (kdec dc_Oracle_leastPaying 3 rfl) rfl 4 rfl (by decide) rfl rfl ?_
  obtain ⟨ex_5, hl_6, h⟩ := kbind_h h
  refine lp_pf_Oracle_leastPaying_57_l4 C σ ?_ kFuel x1_1 0 hl_6
  · intro x1_7 e
    subst ex_5
    try dsimp only at h
    refine kw_iload_n C (kdec dc_Oracle_leastPaying 27 rfl) rfl 50 rfl rfl ?_
    obtain rfl := Option.some.inj h
    exact kw_Q (hR _ rfl) (kw_ireturn C (kdec dc_Oracle_leastPaying 28 rfl))
theorem mt_pf_Oracle_leastPaying_57 (l0 : Launch) {σ : kM} {r : Int} (h : pf_Oracle_leastPaying_57 σ = some r) : kMet l0 ky_Oracle_leastPaying prog_5_method_6_code 3 (some .int) R0_pf_Oracle_leastPaying_57 kcl yC σ [kr 57] (some (ki r)) σ := kMet.of' [some (kr 57), none, none] (by decide) (Nat.le_of_ble_eq_true rfl) ⟨rfl, trivial⟩ (fun x C => bd_pf_Oracle_leastPaying_57 C σ h (fun r e => by subst e; rfl))

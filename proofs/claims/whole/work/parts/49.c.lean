def R0_pf_Tally_addHit_65 : Room := ({ frames := 1, cells := 0, slots := 0, locals := 21 } : Room)
def pf_Tally_addHit_65 (σ : kM) (x1 : Int) (x2 : Int) (x3 : Int) : Option (kM) :=
  klet (w32 ((w32 (x1 * 8)) + x2)) fun y_1 =>
  kchk (0 ≤ y_1 ∧ y_1 < 32) <|
  kchk (0 ≤ y_1 ∧ y_1 < 32) <|
  klet (kst σ 69 (kup (σ 69) y_1.toNat (w32 ((σ 69 y_1.toNat) + x3)))) fun σ_4 =>
  klet (kst σ_4 65 (kup (σ_4 65) 4 (w32 ((σ_4 65 4) + x3)))) fun σ_5 =>
  klet (kst σ_5 65 (kup (σ_5 65) 5 (w32 ((σ_5 65 5) + 1)))) fun σ_6 =>
  klet (kst σ_6 65 (kup (σ_6 65) 6 (kor (σ_6 65 6) (kshl 1 x2)))) fun σ_7 =>
  klet (kst σ_7 65 (kup (σ_7 65) 8 (max (σ_7 65 8) x3))) fun σ_8 =>
  some σ_8
set_option maxHeartbeats 4000000 in
theorem bd_pf_Tally_addHit_65 {x : kX} {l0 : Launch} {Q : State → Prop} (C : kCx x prog_9_method_3_code "PoetFines$Tally" none kcl yC 4 l0 R0_pf_Tally_addHit_65) (σ : kM) (x1 : Int) (x2 : Int) (x3 : Int) {out : kM} (h : pf_Tally_addHit_65 σ x1 x2 x3 = some out) (hR : ∀ (τ : kM), out = τ → Q = kQ x none τ 0 0) : KW x 0 0 Q σ 0 [some (kr 65), some (ki x1), some (ki x2), some (ki x3)] [] := by
  unfold pf_Tally_addHit_65 at h
  refine kw_aload_n C (kdec dc_Tally_addHit 0 rfl) rfl 1 rfl rfl ?_
  refine kw_getR C (kdec dc_Tally_addHit 1 rfl) 4 rfl fd_C_Tally_21_65 ?_
  refine kw_iload_n C (kdec dc_Tally_addHit 2 rfl) rfl 5 rfl rfl ?_
  refine kw_bipush (v := 8) C (kdec dc_Tally_addHit 3 rfl) 7 rfl (by decide) ⟨by decide, by decide⟩ ?_
  refine kw_imul C (kdec dc_Tally_addHit 4 rfl) 8 rfl ?_
  refine kw_iload_n C (kdec dc_Tally_addHit 5 rfl) rfl 9 rfl rfl ?_
  refine kw_iadd C (kdec dc_Tally_addHit 6 rfl) 10 rfl ?_
  obtain ⟨y_1, ey_1, h⟩ := klet_h h
  refine kw_top ey_1 ?_
  refine kw_dup2 C (kdec dc_Tally_addHit 7 rfl) 11 rfl rfl rfl ?_
  obtain ⟨hc_2, h⟩ := kchk_h h
  refine kw_iald C (kdec dc_Tally_addHit 8 rfl) 12 rfl rfl hc_2.1 hc_2.2 ?_
  refine kw_iload_n C (kdec dc_Tally_addHit 9 rfl) rfl 13 rfl rfl ?_
  refine kw_iadd C (kdec dc_Tally_addHit 10 rfl) 14 rfl ?_
  obtain ⟨hc_3, h⟩ := kchk_h h
  obtain ⟨σ_4, eσ_4, h⟩ := klet_h h
  refine kw_iast C (kdec dc_Tally_addHit 11 rfl) 15 rfl rfl hc_3.1 hc_3.2 ?_
  refine kw_sig eσ_4 ?_
  refine kw_aload_n C (kdec dc_Tally_addHit 12 rfl) rfl 16 rfl rfl ?_
  refine kw_dup C (kdec dc_Tally_addHit 13 rfl) 17 rfl rfl ?_
  refine kw_getI C (kdec dc_Tally_addHit 14 rfl) 20 rfl fd_C_Tally_24_65 ?_
  refine kw_iload_n C (kdec dc_Tally_addHit 15 rfl) rfl 21 rfl rfl ?_
  refine kw_iadd C (kdec dc_Tally_addHit 16 rfl) 22 rfl ?_
  obtain ⟨σ_5, eσ_5, h⟩ := klet_h h
  refine kw_putI C (kdec dc_Tally_addHit 17 rfl) 25 rfl fp_C_Tally_24_65 ?_
  refine kw_sig eσ_5 ?_
  refine kw_aload_n C (kdec dc_Tally_addHit 18 rfl) rfl 26 rfl rfl ?_
  refine kw_dup C (kdec dc_Tally_addHit 19 rfl) 27 rfl rfl ?_
  refine kw_getI C (kdec dc_Tally_addHit 20 rfl) 30 rfl fd_C_Tally_28_65 ?_
  refine kw_iconst C (kdec dc_Tally_addHit 21 rfl) 31 rfl rfl ⟨by decide, by decide⟩ ?_
  refine kw_iadd C (kdec dc_Tally_addHit 22 rfl) 32 rfl ?_
  obtain ⟨σ_6, eσ_6, h⟩ := klet_h h
  refine kw_putI C (kdec dc_Tally_addHit 23 rfl) 35 rfl fp_C_Tally_28_65 ?_
  refine kw_sig eσ_6 ?_
  refine kw_aload_n C (kdec dc_Tally_addHit 24 rfl) rfl 36 rfl rfl ?_
  refine kw_dup C (kdec dc_Tally_addHit 25 rfl) 37 rfl rfl ?_
  refine kw_getI C (kdec dc_Tally_addHit 26 rfl) 40 rfl fd_C_Tally_31_65 ?_
  refine kw_iconst C (kdec dc_Tally_addHit 27 rfl) 41 rfl rfl ⟨by decide, by decide⟩ ?_
  refine kw_iload_n C (kdec dc_Tally_addHit 28 rfl) rfl 42 rfl rfl ?_
  refine kw_ishl C (kdec dc_Tally_addHit 29 rfl) 43 rfl ?_
  refine kw_ior C (kdec dc_Tally_addHit 30 rfl) 44 rfl ?_
  obtain ⟨σ_7, eσ_7, h⟩ := klet_h h
  refine kw_putI C (kdec dc_Tally_addHit 31 rfl) 47 rfl fp_C_Tally_31_65 ?_
  refine kw_sig eσ_7 ?_
  refine kw_aload_n C (kdec dc_Tally_addHit 32 rfl) rfl 48 rfl rfl ?_
  refine kw_aload_n C (kdec dc_Tally_addHit 33 rfl) rfl 49 rfl rfl ?_
  refine kw_getI C (kdec dc_Tally_addHit 34 rfl) 52 rfl fd_C_Tally_37_65 ?_
  refine kw_iload_n C (kdec dc_Tally_addHit 35 rfl) rfl 53 rfl rfl ?_
  refine kw_max C (kdec dc_Tally_addHit 36 rfl) 56 rfl cm_Tally_43 ⟨Nat.le_of_ble_eq_true rfl, Nat.le_of_ble_eq_true rfl⟩ ⟨Nat.zero_le _, Nat.zero_le _⟩ (Nat.le_of_ble_eq_true rfl) ?_
  obtain ⟨σ_8, eσ_8, h⟩ := klet_h h
  refine kw_putI C (kdec dc_Tally_addHit 37 rfl) 59 rfl fp_C_Tally_37_65 ?_
  refine kw_sig eσ_8 ?_
  obtain rfl := Option.some.inj h
  exact kw_Q (hR _ rfl) (kw_return C (kdec dc_Tally_addHit 38 rfl))
theorem mt_pf_Tally_addHit_65 (l0 : Launch) {σ : kM} {x1 : Int} {x2 : Int} {x3 : Int} {τ : kM} (h : pf_Tally_addHit_65 σ x1 x2 x3 = some τ) : kMet l0 ky_Tally_addHit prog_9_method_3_code 4 none R0_pf_Tally_addHit_65 kcl yC σ [kr 65, ki x1, ki x2, ki x3] none τ := kMet.of' [some (kr 65), some (ki x1), some (ki x2), some (ki x3)] (by decide) (Nat.le_of_ble_eq_true rfl) ⟨rfl, rfl, rfl, rfl, trivial⟩ (fun x C => bd_pf_Tally_addHit_65 C σ x1 x2 x3 h (fun τ e => by subst e; rfl))
def R0_pf_Stage_leaveScars_64 : Room := ({ frames := 2, cells := 0, slots := 0, locals := 44 } : Room)
def pf_Stage_leaveScars_64 (σ : kM) (x1 : Int) (x2 : Int) (x3 : Int) : Option (kM) :=
  kchk (0 ≤ (w32 (9 + x2)) ∧ (w32 (9 + x2)) < 85) <|
  kchk (0 ≤ (w32 (9 + x2)) ∧ (w32 (9 + x2)) < 85) <|
  klet (kst σ 59 (kup (σ 59) ((w32 (9 + x2)).toNat) (min (w32 ((σ 59 (w32 (9 + x2)).toNat) + x3)) 99))) fun σ_3 =>
  klet (w32 ((w32 (17 + (w32 (x1 * 8)))) + x2)) fun y_4 =>
  kchk (0 ≤ y_4 ∧ y_4 < 85) <|
  kchk (0 ≤ y_4 ∧ y_4 < 85) <|
  klet (kst σ_3 59 (kup (σ_3 59) y_4.toNat (w32 ((σ_3 59 y_4.toNat) + 1)))) fun σ_7 =>
  (pf_Tally_addHit_65 σ_7 x1 x2 x3).bind fun σ_8 =>
  some σ_8
set_option maxHeartbeats 4000000 in
theorem bd_pf_Stage_leaveScars_64 {x : kX} {l0 : Launch} {Q : State → Prop} (C : kCx x prog_8_method_10_code "PoetFines$Stage" none kcl yC 5 l0 R0_pf_Stage_leaveScars_64) (σ : kM) (x1 : Int) (x2 : Int) (x3 : Int) {out : kM} (h : pf_Stage_leaveScars_64 σ x1 x2 x3 = some out) (hR : ∀ (τ : kM), out = τ → Q = kQ x none τ 0 0) : KW x 0 0 Q σ 0 [some (kr 64), some (ki x1), some (ki x2), some (ki x3), none] [] := by
  unfold pf_Stage_leaveScars_64 at h
  refine kw_aload_n C (kdec dc_Stage_leaveScars 0 rfl) rfl 1 rfl rfl ?_
  refine kw_getR C (kdec dc_Stage_leaveScars 1 rfl) 4 rfl fd_C_Stage_28_64 ?_
  refine kw_getR C (kdec dc_Stage_leaveScars 2 rfl) 7 rfl fd_C_Stage_51_58 ?_
  refine kw_astore (L' := [some (kr 64), some (ki x1), some (ki x2), some (ki x3), some (kr 59)]) C (kdec dc_Stage_leaveScars 3 rfl) 9 rfl (by decide) rfl rfl ?_
  refine kw_aload C (kdec dc_Stage_leaveScars 4 rfl) 11 rfl rfl ?_
  refine kw_bipush (v := 9) C (kdec dc_Stage_leaveScars 5 rfl) 13 rfl (by decide) ⟨by decide, by decide⟩ ?_
  refine kw_iload_n C (kdec dc_Stage_leaveScars 6 rfl) rfl 14 rfl rfl ?_
  refine kw_iadd C (kdec dc_Stage_leaveScars 7 rfl) 15 rfl ?_
  refine kw_aload C (kdec dc_Stage_leaveScars 8 rfl) 17 rfl rfl ?_
  refine kw_bipush (v := 9) C (kdec dc_Stage_leaveScars 9 rfl) 19 rfl (by decide) ⟨by decide, by decide⟩ ?_
  refine kw_iload_n C (kdec dc_Stage_leaveScars 10 rfl) rfl 20 rfl rfl ?_
  refine kw_iadd C (kdec dc_Stage_leaveScars 11 rfl) 21 rfl ?_
  obtain ⟨hc_1, h⟩ := kchk_h h
  refine kw_iald C (kdec dc_Stage_leaveScars 12 rfl) 22 rfl rfl hc_1.1 hc_1.2 ?_
  refine kw_iload_n C (kdec dc_Stage_leaveScars 13 rfl) rfl 23 rfl rfl ?_
  refine kw_iadd C (kdec dc_Stage_leaveScars 14 rfl) 24 rfl ?_
  refine kw_bipush (v := 99) C (kdec dc_Stage_leaveScars 15 rfl) 26 rfl (by decide) ⟨by decide, by decide⟩ ?_
  refine kw_min C (kdec dc_Stage_leaveScars 16 rfl) 29 rfl cm_Stage_46 ⟨Nat.le_of_ble_eq_true rfl, Nat.le_of_ble_eq_true rfl⟩ ⟨Nat.zero_le _, Nat.zero_le _⟩ (Nat.le_of_ble_eq_true rfl) ?_
  obtain ⟨hc_2, h⟩ := kchk_h h
  obtain ⟨σ_3, eσ_3, h⟩ := klet_h h
  refine kw_iast C (kdec dc_Stage_leaveScars 17 rfl) 30 rfl rfl hc_2.1 hc_2.2 ?_
  refine kw_sig eσ_3 ?_
  refine kw_aload C (kdec dc_Stage_leaveScars 18 rfl) 32 rfl rfl ?_
  refine kw_bipush (v := 17) C (kdec dc_Stage_leaveScars 19 rfl) 34 rfl (by decide) ⟨by decide, by decide⟩ ?_
  refine kw_iload_n C (kdec dc_Stage_leaveScars 20 rfl) rfl 35 rfl rfl ?_
  refine kw_bipush (v := 8) C (kdec dc_Stage_leaveScars 21 rfl) 37 rfl (by decide) ⟨by decide, by decide⟩ ?_
  refine kw_imul C (kdec dc_Stage_leaveScars 22 rfl) 38 rfl ?_
  refine kw_iadd C (kdec dc_Stage_leaveScars 23 rfl) 39 rfl ?_
  refine kw_iload_n C (kdec dc_Stage_leaveScars 24 rfl) rfl 40 rfl rfl ?_
  refine kw_iadd C (kdec dc_Stage_leaveScars 25 rfl) 41 rfl ?_
  obtain ⟨y_4, ey_4, h⟩ := klet_h h
  refine kw_top ey_4 ?_
  refine kw_dup2 C (kdec dc_Stage_leaveScars 26 rfl) 42 rfl rfl rfl ?_
  obtain ⟨hc_5, h⟩ := kchk_h h
  refine kw_iald C (kdec dc_Stage_leaveScars 27 rfl) 43 rfl rfl hc_5.1 hc_5.2 ?_
  refine kw_iconst C (kdec dc_Stage_leaveScars 28 rfl) 44 rfl rfl ⟨by decide, by decide⟩ ?_
  refine kw_iadd C (kdec dc_Stage_leaveScars 29 rfl) 45 rfl ?_
  obtain ⟨hc_6, h⟩ := kchk_h h
  obtain ⟨σ_7, eσ_7, h⟩ := klet_h h
  refine kw_iast C (kdec dc_Stage_leaveScars 30 rfl) 46 rfl rfl hc_6.1 hc_6.2 ?_
  refine kw_sig eσ_7 ?_
  refine kw_aload_n C (kdec dc_Stage_leaveScars 31 rfl) rfl 47 rfl rfl ?_
  refine kw_getR C (kdec dc_Stage_leaveScars 32 rfl) 50 rfl fd_C_Stage_12_64 ?_
  refine kw_iload_n C (kdec dc_Stage_leaveScars 33 rfl) rfl 51 rfl rfl ?_
  refine kw_iload_n C (kdec dc_Stage_leaveScars 34 rfl) rfl 52 rfl rfl ?_
  refine kw_iload_n C (kdec dc_Stage_leaveScars 35 rfl) rfl 53 rfl rfl ?_
  obtain ⟨σ_8, hg_9, h⟩ := kbind_h h
  refine kw_callV (As := [ki x1, ki x2, ki x3]) C (kdec dc_Stage_leaveScars 36 rfl) 56 rfl cv_Stage_133 rfl rfl (mt_pf_Tally_addHit_65 l0 hg_9) ⟨rfl, rfl⟩ ⟨Nat.le_of_ble_eq_true rfl, Nat.le_of_ble_eq_true rfl⟩ ⟨Nat.zero_le _, Nat.zero_le _⟩ rfl (Nat.le_of_ble_eq_true rfl) ?_
  change KW x 0 0 Q σ_8 56 [some (kr 64), some (ki x1), some (ki x2), some (ki x3), some (kr 59)] []
  obtain rfl := Option.some.inj h
  exact kw_Q (hR _ rfl) (kw_return C (kdec dc_Stage_leaveScars 37 rfl))
theorem mt_pf_Stage_leaveScars_64 (l0 : Launch) {σ : kM} {x1 : Int} {x2 : Int} {x3 : Int} {τ : kM} (h : pf_Stage_leaveScars_64 σ x1 x2 x3 = some τ) : kMet l0 ky_Stage_leaveScars prog_8_method_10_code 5 none R0_pf_Stage_leaveScars_64 kcl yC σ [kr 64, ki x1, ki x2, ki x3] none τ := kMet.of' [some (kr 64), some (ki x1), some (ki x2), some (ki x3), none] (by decide) (Nat.le_of_ble_eq_true rfl) ⟨rfl, rfl, rfl, rfl, trivial⟩ (fun x C => bd_pf_Stage_leaveScars_64 C σ x1 x2 x3 h (fun τ e => by subst e; rfl))
def R0_pf_Stage_turnPage_64 : Room := ({ frames := 1, cells := 0, slots := 0, locals := 22 } : Room)
def pf_Stage_turnPage_64 (σ : kM) (x1 : Int) : Option (kM) :=
  kchk (0 ≤ (w32 (53 + x1)) ∧ (w32 (53 + x1)) < 85) <|
  (pf_Law_behind_3 σ x1 (σ 59 (w32 (53 + x1)).toNat)).bind fun r_2 =>
  kchk (0 ≤ (w32 (53 + x1)) ∧ (w32 (53 + x1)) < 85) <|
  klet (kst σ 59 (kup (σ 59) ((w32 (53 + x1)).toNat) r_2)) fun σ_4 =>
  some σ_4
set_option maxHeartbeats 4000000 in
theorem bd_pf_Stage_turnPage_64 {x : kX} {l0 : Launch} {Q : State → Prop} (C : kCx x prog_8_method_5_code "PoetFines$Stage" none kcl yC 2 l0 R0_pf_Stage_turnPage_64) (σ : kM) (x1 : Int) {out : kM} (h : pf_Stage_turnPage_64 σ x1 = some out) (hR : ∀ (τ : kM), out = τ → Q = kQ x none τ 0 0) : KW x 0 0 Q σ 0 [some (kr 64), some (ki x1)] [] := by
  unfold pf_Stage_turnPage_64 at h
  refine kw_aload_n C (kdec dc_Stage_turnPage 0 rfl) rfl 1 rfl rfl ?_
  refine kw_getR C (kdec dc_Stage_turnPage 1 rfl) 4 rfl fd_C_Stage_28_64 ?_
  refine kw_getR C (kdec dc_Stage_turnPage 2 rfl) 7 rfl fd_C_Stage_51_58 ?_
  refine kw_bipush (v := 53) C (kdec dc_Stage_turnPage 3 rfl) 9 rfl (by decide) ⟨by decide, by decide⟩ ?_
  refine kw_iload_n C (kdec dc_Stage_turnPage 4 rfl) rfl 10 rfl rfl ?_
  refine kw_iadd C (kdec dc_Stage_turnPage 5 rfl) 11 rfl ?_
  refine kw_aload_n C (kdec dc_Stage_turnPage 6 rfl) rfl 12 rfl rfl ?_
  refine kw_getR C (kdec dc_Stage_turnPage 7 rfl) 15 rfl fd_C_Stage_24_64 ?_
  refine kw_iload_n C (kdec dc_Stage_turnPage 8 rfl) rfl 16 rfl rfl ?_
  refine kw_aload_n C (kdec dc_Stage_turnPage 9 rfl) rfl 17 rfl rfl ?_
  refine kw_getR C (kdec dc_Stage_turnPage 10 rfl) 20 rfl fd_C_Stage_28_64 ?_
  refine kw_getR C (kdec dc_Stage_turnPage 11 rfl) 23 rfl fd_C_Stage_51_58 ?_
  refine kw_bipush (v := 53) C (kdec dc_Stage_turnPage 12 rfl) 25 rfl (by decide) ⟨by decide, by decide⟩ ?_
  refine kw_iload_n C (kdec dc_Stage_turnPage 13 rfl) rfl 26 rfl rfl ?_
  refine kw_iadd C (kdec dc_Stage_turnPage 14 rfl) 27 rfl ?_
  obtain ⟨hc_1, h⟩ := kchk_h h
  refine kw_iald C (kdec dc_Stage_turnPage 15 rfl) 28 rfl rfl hc_1.1 hc_1.2 ?_
  obtain ⟨r_2, hg_5, h⟩ := kbind_h h
  refine kw_callV (As := [ki x1, ki (σ 59 (w32 (53 + x1)).toNat)]) C (kdec dc_Stage_turnPage 16 rfl) 31 rfl cv_Stage_88 rfl rfl (mt_pf_Law_behind_3 l0 hg_5) ⟨rfl, rfl⟩ ⟨Nat.le_of_ble_eq_true rfl, Nat.le_of_ble_eq_true rfl⟩ ⟨Nat.zero_le _, Nat.zero_le _⟩ rfl (Nat.le_of_ble_eq_true rfl) ?_
  change KW x 0 0 Q σ 31 [some (kr 64), some (ki x1)] [ki r_2, ki (w32 (53 + x1)), kr 59]
  obtain ⟨hc_3, h⟩ := kchk_h h
  obtain ⟨σ_4, eσ_4, h⟩ := klet_h h
  refine kw_iast C (kdec dc_Stage_turnPage 17 rfl) 32 rfl rfl hc_3.1 hc_3.2 ?_
  refine kw_sig eσ_4 ?_
  obtain rfl := Option.some.inj h
  exact kw_Q (hR _ rfl) (kw_return C (kdec dc_Stage_turnPage 18 rfl))
theorem mt_pf_Stage_turnPage_64 (l0 : Launch) {σ : kM} {x1 : Int} {τ : kM} (h : pf_Stage_turnPage_64 σ x1 = some τ) : kMet l0 ky_Stage_turnPage prog_8_method_5_code 2 none R0_pf_Stage_turnPage_64 kcl yC σ [kr 64, ki x1] none τ := kMet.of' [some (kr 64), some (ki x1)] (by decide) (Nat.le_of_ble_eq_true rfl) ⟨rfl, rfl, trivial⟩ (fun x C => bd_pf_Stage_turnPage_64 C σ x1 h (fun τ e => by subst e; rfl))
def R0_pf_Stage_readNext_64 : Room := ({ frames := 3, cells := 0, slots := 0, locals := 72 } : Room)
def pf_Stage_readNext_64_l50_j120 (σ : kM) (x1 : Int) (x3 : Int) (x4 : Int) (x5 : Int) (x6 : Int) (x7 : Int) : Option ((kM × Int × Int) ⊕ ((kM × Int))) :=
  klet (w32 (x7 + 1)) fun x7_7 =>
  some (Sum.inl (σ, x6, x7_7))
set_option maxHeartbeats 4000000 in
theorem bd_pf_Stage_readNext_64_l50_j120 {x : kX} {l0 : Launch} {Q : State → Prop} (C : kCx x prog_8_method_8_code "PoetFines$Stage" none kcl yC 10 l0 R0_pf_Stage_readNext_64) (σ : kM) (x1 : Int) (x3 : Int) (x4 : Int) (x5 : Int) (x6 : Int) (x7 : Int) {out : (kM × Int × Int) ⊕ ((kM × Int))} (h : pf_Stage_readNext_64_l50_j120 σ x1 x3 x4 x5 x6 x7 = some out) (hC : ∀ (σ' : kM) (x6' : Int) (x7' : Int), out = Sum.inl (σ', x6', x7') → KW x 0 0 Q σ' 50 [some (kr 64), some (ki x1), none, some (ki x3), some (ki x4), some (ki x5), some (ki x6'), some (ki x7'), none, none] []) (hX126 : ∀ (σ' : kM) (x6' : Int), out = Sum.inr (σ', x6') → KW x 0 0 Q σ' 126 [some (kr 64), some (ki x1), none, none, none, none, some (ki x6'), none, none, none] []) : KW x 0 0 Q σ 120 [some (kr 64), some (ki x1), none, some (ki x3), some (ki x4), some (ki x5), some (ki x6), some (ki x7), none, none] [] := by
  unfold pf_Stage_readNext_64_l50_j120 at h
  obtain ⟨x7_7, ex7_7, h⟩ := klet_h h
  refine kw_iinc (L' := [some (kr 64), some (ki x1), none, some (ki x3), some (ki x4), some (ki x5), some (ki x6), some (ki x7_7), none, none]) C (kdec dc_Stage_readNext 64 rfl) 123 rfl rfl (by decide) rfl (by rw [ex7_7]; rfl) ?_
  refine kw_goto C (kdec dc_Stage_readNext 65 rfl) 50 (by decide) ?_
  obtain rfl := Option.some.inj h
  exact (hC _ _ _ rfl)
def pf_Stage_readNext_64_l50 (σ : kM) (x1 : Int) (x3 : Int) (x4 : Int) (x5 : Int) (x6 : Int) (x7 : Int) : Option ((kM × Int × Int) ⊕ ((kM × Int))) :=
  if (σ 3 1) ≤ x7 then
    some (Sum.inr (σ, x6))
  else
    (pf_Stage_inchesInto_64 σ x1 x7 x4 x5).bind fun (r_5, σ_6) =>
    if r_5 ≤ 0 then
      pf_Stage_readNext_64_l50_j120 σ_6 x1 x3 x4 x5 x6 x7
    else
      (pf_Stage_fineFor_64 σ_6 x1 x7 x3 r_5).bind fun (r_8, σ_9) =>
      (pf_Stage_payFine_64 σ_9 x1 x7 r_8).bind fun (r_10, σ_11) =>
      klet (max x6 (w32 (r_8 - r_10))) fun x6_12 =>
      (pf_Stage_leaveScars_64 σ_11 x1 x7 r_5).bind fun σ_13 =>
      pf_Stage_readNext_64_l50_j120 σ_13 x1 x3 x4 x5 x6_12 x7
set_option maxHeartbeats 4000000 in
theorem bd_pf_Stage_readNext_64_l50 {x : kX} {l0 : Launch} {Q : State → Prop} (C : kCx x prog_8_method_8_code "PoetFines$Stage" none kcl yC 10 l0 R0_pf_Stage_readNext_64) (σ : kM) (x1 : Int) (x3 : Int) (x4 : Int) (x5 : Int) (x6 : Int) (x7 : Int) {out : (kM × Int × Int) ⊕ ((kM × Int))} (h : pf_Stage_readNext_64_l50 σ x1 x3 x4 x5 x6 x7 = some out) (hC : ∀ (σ' : kM) (x6' : Int) (x7' : Int), out = Sum.inl (σ', x6', x7') → KW x 0 0 Q σ' 50 [some (kr 64), some (ki x1), none, some (ki x3), some (ki x4), some (ki x5), some (ki x6'), some (ki x7'), none, none] []) (hX126 : ∀ (σ' : kM) (x6' : Int), out = Sum.inr (σ', x6') → KW x 0 0 Q σ' 126 [some (kr 64), some (ki x1), none, none, none, none, some (ki x6'), none, none, none] []) : KW x 0 0 Q σ 50 [some (kr 64), some (ki x1), none, some (ki x3), some (ki x4), some (ki x5), some (ki x6), some (ki x7), none, none] [] := by
  unfold pf_Stage_readNext_64_l50 at h
  refine kw_iload C (kdec dc_Stage_readNext 28 rfl) 52 rfl rfl ?_
  refine kw_aload_n C (kdec dc_Stage_readNext 29 rfl) rfl 53 rfl rfl ?_
  refine kw_getR C (kdec dc_Stage_readNext 30 rfl) 56 rfl fd_C_Stage_24_64 ?_
  refine kw_getI C (kdec dc_Stage_readNext 31 rfl) 59 rfl fd_C_Stage_91_3 ?_
  refine kw_icmp_ge C (kdec dc_Stage_readNext 32 rfl) 126 62 (by decide) rfl (fun hc59 => ?_) (fun hc59 => ?_)
  · rw [if_pos hc59] at h
    obtain rfl := Option.some.inj h
    exact kw_sub (L' := [some (kr 64), some (ki x1), none, none, none, none, some (ki x6), none, none, none]) ⟨rfl, rfl, rfl, trivial⟩ (hX126 _ _ rfl)
  · rw [if_neg hc59] at h
    refine kw_aload_n C (kdec dc_Stage_readNext 33 rfl) rfl 63 rfl rfl ?_
    refine kw_iload_n C (kdec dc_Stage_readNext 34 rfl) rfl 64 rfl rfl ?_
    refine kw_iload C (kdec dc_Stage_readNext 35 rfl) 66 rfl rfl ?_
    refine kw_iload C (kdec dc_Stage_readNext 36 rfl) 68 rfl rfl ?_
    refine kw_iload C (kdec dc_Stage_readNext 37 rfl) 70 rfl rfl ?_
    obtain ⟨⟨r_5, σ_6⟩, hg_17, h⟩ := kbind_h h
    dsimp only at h
    refine kw_callV (As := [ki x1, ki x7, ki x4, ki x5]) C (kdec dc_Stage_readNext 38 rfl) 73 rfl cv_Stage_107 rfl rfl (mt_pf_Stage_inchesInto_64 l0 hg_17) ⟨rfl, rfl⟩ ⟨Nat.le_of_ble_eq_true rfl, Nat.le_of_ble_eq_true rfl⟩ ⟨Nat.zero_le _, Nat.zero_le _⟩ rfl (Nat.le_of_ble_eq_true rfl) ?_
    change KW x 0 0 Q σ_6 73 [some (kr 64), some (ki x1), none, some (ki x3), some (ki x4), some (ki x5), some (ki x6), some (ki x7), none, none] [ki r_5]
    refine kw_istore (L' := [some (kr 64), some (ki x1), none, some (ki x3), some (ki x4), some (ki x5), some (ki x6), some (ki x7), some (ki r_5), none]) C (kdec dc_Stage_readNext 39 rfl) 75 rfl (by decide) rfl rfl ?_
    refine kw_iload C (kdec dc_Stage_readNext 40 rfl) 77 rfl rfl ?_
    refine kw_if_le C (kdec dc_Stage_readNext 41 rfl) 120 80 (by decide) rfl (fun hc77 => ?_) (fun hc77 => ?_)
    · rw [if_pos hc77] at h
      exact kw_sub (L' := [some (kr 64), some (ki x1), none, some (ki x3), some (ki x4), some (ki x5), some (ki x6), some (ki x7), none, none]) ⟨rfl, rfl, rfl, rfl, rfl, rfl, rfl, trivial⟩ (bd_pf_Stage_readNext_64_l50_j120 C σ_6 x1 x3 x4 x5 x6 x7 h hC hX126)
    · rw [if_neg hc77] at h
      refine kw_aload_n C (kdec dc_Stage_readNext 42 rfl) rfl 81 rfl rfl ?_
      refine kw_iload_n C (kdec dc_Stage_readNext 43 rfl) rfl 82 rfl rfl ?_
      refine kw_iload C (kdec dc_Stage_readNext 44 rfl) 84 rfl rfl ?_
      refine kw_iload_n C (kdec dc_Stage_readNext 45 rfl) rfl 85 rfl rfl ?_
      refine kw_iload C (kdec dc_Stage_readNext 46 rfl) 87 rfl rfl ?_
      obtain ⟨⟨r_8, σ_9⟩, hg_16, h⟩ := kbind_h h
      dsimp only at h
      refine kw_callV (As := [ki x1, ki x7, ki x3, ki r_5]) C (kdec dc_Stage_readNext 47 rfl) 90 rfl cv_Stage_111 rfl rfl (mt_pf_Stage_fineFor_64 l0 hg_16) ⟨rfl, rfl⟩ ⟨Nat.le_of_ble_eq_true rfl, Nat.le_of_ble_eq_true rfl⟩ ⟨Nat.zero_le _, Nat.zero_le _⟩ rfl (Nat.le_of_ble_eq_true rfl) ?_
      change KW x 0 0 Q σ_9 90 [some (kr 64), some (ki x1), none, some (ki x3), some (ki x4), some (ki x5), some (ki x6), some (ki x7), some (ki r_5), none] [ki r_8]
      refine kw_istore (L' := [some (kr 64), some (ki x1), none, some (ki x3), some (ki x4), some (ki x5), some (ki x6), some (ki x7), some (ki r_5), some (ki r_8)]) C (kdec dc_Stage_readNext 48 rfl) 92 rfl (by decide) rfl rfl ?_
      refine kw_iload C (kdec dc_Stage_readNext 49 rfl) 94 rfl rfl ?_
      refine kw_iload C (kdec dc_Stage_readNext 50 rfl) 96 rfl rfl ?_
      refine kw_aload_n C (kdec dc_Stage_readNext 51 rfl) rfl 97 rfl rfl ?_
      refine kw_iload_n C (kdec dc_Stage_readNext 52 rfl) rfl 98 rfl rfl ?_
      refine kw_iload C (kdec dc_Stage_readNext 53 rfl) 100 rfl rfl ?_
      refine kw_iload C (kdec dc_Stage_readNext 54 rfl) 102 rfl rfl ?_
      obtain ⟨⟨r_10, σ_11⟩, hg_15, h⟩ := kbind_h h
      dsimp only at h
      refine kw_callV (As := [ki x1, ki x7, ki r_8]) C (kdec dc_Stage_readNext 55 rfl) 105 rfl cv_Stage_114 rfl rfl (mt_pf_Stage_payFine_64 l0 hg_15) ⟨rfl, rfl⟩ ⟨Nat.le_of_ble_eq_true rfl, Nat.le_of_ble_eq_true rfl⟩ ⟨Nat.zero_le _, Nat.zero_le _⟩ rfl (Nat.le_of_ble_eq_true rfl) ?_
      change KW x 0 0 Q σ_11 105 [some (kr 64), some (ki x1), none, some (ki x3), some (ki x4), some (ki x5), some (ki x6), some (ki x7), some (ki r_5), some (ki r_8)] [ki r_10, ki r_8, ki x6]
      refine kw_isub C (kdec dc_Stage_readNext 56 rfl) 106 rfl ?_
      refine kw_max C (kdec dc_Stage_readNext 57 rfl) 109 rfl cm_Stage_118 ⟨Nat.le_of_ble_eq_true rfl, Nat.le_of_ble_eq_true rfl⟩ ⟨Nat.zero_le _, Nat.zero_le _⟩ (Nat.le_of_ble_eq_true rfl) ?_
      obtain ⟨x6_12, ex6_12, h⟩ := klet_h h
      refine kw_top ex6_12 ?_
      refine kw_istore (L' := [some (kr 64), some (ki x1), none, some (ki x3), some (ki x4), some (ki x5), some (ki x6_12), some (ki x7), some (ki r_5), some (ki r_8)]) C (kdec dc_Stage_readNext 58 rfl) 111 rfl (by decide) rfl rfl ?_
      refine kw_aload_n C (kdec dc_Stage_readNext 59 rfl) rfl 112 rfl rfl ?_
      refine kw_iload_n C (kdec dc_Stage_readNext 60 rfl) rfl 113 rfl rfl ?_
      refine kw_iload C (kdec dc_Stage_readNext 61 rfl) 115 rfl rfl ?_
      refine kw_iload C (kdec dc_Stage_readNext 62 rfl) 117 rfl rfl ?_
      obtain ⟨σ_13, hg_14, h⟩ := kbind_h h
      refine kw_callV (As := [ki x1, ki x7, ki r_5]) C (kdec dc_Stage_readNext 63 rfl) 120 rfl cv_Stage_121 rfl rfl (mt_pf_Stage_leaveScars_64 l0 hg_14) ⟨rfl, rfl⟩ ⟨Nat.le_of_ble_eq_true rfl, Nat.le_of_ble_eq_true rfl⟩ ⟨Nat.zero_le _, Nat.zero_le _⟩ rfl (Nat.le_of_ble_eq_true rfl) ?_
      change KW x 0 0 Q σ_13 120 [some (kr 64), some (ki x1), none, some (ki x3), some (ki x4), some (ki x5), some (ki x6_12), some (ki x7), some (ki r_5), some (ki r_8)] []
      exact kw_sub (L' := [some (kr 64), some (ki x1), none, some (ki x3), some (ki x4), some (ki x5), some (ki x6_12), some (ki x7), none, none]) ⟨rfl, rfl, rfl, rfl, rfl, rfl, rfl, trivial⟩ (bd_pf_Stage_readNext_64_l50_j120 C σ_13 x1 x3 x4 x5 x6_12 x7 h hC hX126)
theorem lp_pf_Stage_readNext_64_l50 {x : kX} {l0 : Launch} {Q : State → Prop} (C : kCx x prog_8_method_8_code "PoetFines$Stage" none kcl yC 10 l0 R0_pf_Stage_readNext_64) (x1 : Int) (x3 : Int) (x4 : Int) (x5 : Int) {ex : (kM × Int)} (hX126 : ∀ (σ' : kM) (x6' : Int), ex = (σ', x6') → KW x 0 0 Q σ' 126 [some (kr 64), some (ki x1), none, none, none, none, some (ki x6'), none, none, none] []) (n : Nat) (σ : kM) (x6 : Int) (x7 : Int) (h : kloop (fun st => pf_Stage_readNext_64_l50 st.1 x1 x3 x4 x5 st.2.1 st.2.2) n (σ, x6, x7) = some ex) : KW x 0 0 Q σ 50 [some (kr 64), some (ki x1), none, some (ki x3), some (ki x4), some (ki x5), some (ki x6), some (ki x7), none, none] [] :=
  kloop_ind (P := (fun st : kM × Int × Int => KW x 0 0 Q st.1 50 [some (kr 64), some (ki x1), none, some (ki x3), some (ki x4), some (ki x5), some (ki (st.2.1)), some (ki (st.2.2)), none, none] [])) (fun st out hb hc hx => bd_pf_Stage_readNext_64_l50 C st.1 x1 x3 x4 x5 st.2.1 st.2.2 hb (fun a0 a1 a2 e => hc _ e) (fun a0 a1 e => hX126 _ _ ((hx _ e).symm))) n (σ, x6, x7) h
def pf_Stage_readNext_64_j42 (σ : kM) (x1 : Int) (x3 : Int) (x4 : Int) (s0 : Int) : Option (kM) :=
  (kloop (fun st => pf_Stage_readNext_64_l50 st.1 x1 x3 x4 s0 st.2.1 st.2.2) kFuel (σ, 0, 0)).bind fun (σ_20, x6_21) =>
  kchk (0 ≤ (w32 (57 + x1)) ∧ (w32 (57 + x1)) < 85) <|
  klet (kst σ_20 59 (kup (σ_20 59) ((w32 (57 + x1)).toNat) (min x6_21 9))) fun σ_23 =>
  kchk (0 ≤ x1 ∧ x1 < 4) <|
  kchk (0 ≤ x1 ∧ x1 < 4) <|
  klet (kst σ_23 68 (kup (σ_23 68) x1.toNat (w32 ((σ_23 68 x1.toNat) + 1)))) fun σ_26 =>
  (pf_Stage_turnPage_64 σ_26 x1).bind fun σ_27 =>
  some σ_27
set_option maxHeartbeats 4000000 in
theorem bd_pf_Stage_readNext_64_j42 {x : kX} {l0 : Launch} {Q : State → Prop} (C : kCx x prog_8_method_8_code "PoetFines$Stage" none kcl yC 10 l0 R0_pf_Stage_readNext_64) (σ : kM) (x1 : Int) (x3 : Int) (x4 : Int) (s0 : Int) {out : kM} (h : pf_Stage_readNext_64_j42 σ x1 x3 x4 s0 = some out) (hR : ∀ (τ : kM), out = τ → Q = kQ x none τ 0 0) : KW x 0 0 Q σ 42 [some (kr 64), some (ki x1), none, some (ki x3), some (ki x4), none, none, none, none, none] [ki s0] := by
  unfold pf_Stage_readNext_64_j42 at h
  refine kw_istore (L' := [some (kr 64), some (ki x1), none, some (ki x3), some (ki x4), some (ki s0), none, none, none, none]) C (kdec dc_Stage_readNext 23 rfl) 44 rfl (by decide) rfl rfl ?_
  refine kw_iconst C (kdec dc_Stage_readNext 24 rfl) 45 rfl rfl ⟨by decide, by decide⟩ ?_
  refine kw_istore (L' := [some (kr 64), some (ki x1), none, some (ki x3), some (ki x4), some (ki s0), some (ki 0), none, none, none]) C (kdec dc_Stage_readNext 25 rfl) 47 rfl (by decide) rfl rfl ?_
  refine kw_iconst C (kdec dc_Stage_readNext 26 rfl) 48 rfl rfl ⟨by decide, by decide⟩ ?_
  refine kw_istore (L' := [some (kr 64), some (ki x1), none, some (ki x3), some (ki x4), some (ki s0), some (ki 0), some (ki 0), none, none]) C (kdec dc_Stage_readNext 27 rfl) 50 rfl (by decide) rfl rfl ?_
  obtain ⟨ex_18, hl_19, h⟩ := kbind_h h
  refine lp_pf_Stage_readNext_64_l50 C x1 x3 x4 s0 ?_ kFuel σ 0 0 hl_19
  · intro σ_20 x6_21 e
    subst ex_18
    try dsimp only at h
    refine kw_aload_n C (kdec dc_Stage_readNext 66 rfl) rfl 127 rfl rfl ?_
    refine kw_getR C (kdec dc_Stage_readNext 67 rfl) 130 rfl fd_C_Stage_28_64 ?_
    refine kw_getR C (kdec dc_Stage_readNext 68 rfl) 133 rfl fd_C_Stage_51_58 ?_
    refine kw_bipush (v := 57) C (kdec dc_Stage_readNext 69 rfl) 135 rfl (by decide) ⟨by decide, by decide⟩ ?_
    refine kw_iload_n C (kdec dc_Stage_readNext 70 rfl) rfl 136 rfl rfl ?_
    refine kw_iadd C (kdec dc_Stage_readNext 71 rfl) 137 rfl ?_
    refine kw_iload C (kdec dc_Stage_readNext 72 rfl) 139 rfl rfl ?_
    refine kw_bipush (v := 9) C (kdec dc_Stage_readNext 73 rfl) 141 rfl (by decide) ⟨by decide, by decide⟩ ?_
    refine kw_min C (kdec dc_Stage_readNext 74 rfl) 144 rfl cm_Stage_46 ⟨Nat.le_of_ble_eq_true rfl, Nat.le_of_ble_eq_true rfl⟩ ⟨Nat.zero_le _, Nat.zero_le _⟩ (Nat.le_of_ble_eq_true rfl) ?_
    obtain ⟨hc_22, h⟩ := kchk_h h
    obtain ⟨σ_23, eσ_23, h⟩ := klet_h h
    refine kw_iast C (kdec dc_Stage_readNext 75 rfl) 145 rfl rfl hc_22.1 hc_22.2 ?_
    refine kw_sig eσ_23 ?_
    refine kw_aload_n C (kdec dc_Stage_readNext 76 rfl) rfl 146 rfl rfl ?_
    refine kw_getR C (kdec dc_Stage_readNext 77 rfl) 149 rfl fd_C_Stage_12_64 ?_
    refine kw_getR C (kdec dc_Stage_readNext 78 rfl) 152 rfl fd_C_Stage_124_65 ?_
    refine kw_iload_n C (kdec dc_Stage_readNext 79 rfl) rfl 153 rfl rfl ?_
    refine kw_dup2 C (kdec dc_Stage_readNext 80 rfl) 154 rfl rfl rfl ?_
    obtain ⟨hc_24, h⟩ := kchk_h h
    refine kw_iald C (kdec dc_Stage_readNext 81 rfl) 155 rfl rfl hc_24.1 hc_24.2 ?_
    refine kw_iconst C (kdec dc_Stage_readNext 82 rfl) 156 rfl rfl ⟨by decide, by decide⟩ ?_
    refine kw_iadd C (kdec dc_Stage_readNext 83 rfl) 157 rfl ?_
    obtain ⟨hc_25, h⟩ := kchk_h h
    obtain ⟨σ_26, eσ_26, h⟩ := klet_h h
    refine kw_iast C (kdec dc_Stage_readNext 84 rfl) 158 rfl rfl hc_25.1 hc_25.2 ?_
    refine kw_sig eσ_26 ?_
    refine kw_aload_n C (kdec dc_Stage_readNext 85 rfl) rfl 159 rfl rfl ?_
    refine kw_iload_n C (kdec dc_Stage_readNext 86 rfl) rfl 160 rfl rfl ?_
    obtain ⟨σ_27, hg_28, h⟩ := kbind_h h
    refine kw_callV (As := [ki x1]) C (kdec dc_Stage_readNext 87 rfl) 163 rfl cv_Stage_127 rfl rfl (mt_pf_Stage_turnPage_64 l0 hg_28) ⟨rfl, rfl⟩ ⟨Nat.le_of_ble_eq_true rfl, Nat.le_of_ble_eq_true rfl⟩ ⟨Nat.zero_le _, Nat.zero_le _⟩ rfl (Nat.le_of_ble_eq_true rfl) ?_
    change KW x 0 0 Q σ_27 163 [some (kr 64), some (ki x1), none, none, none, none, some (ki x6_21), none, none, none] []
    obtain rfl := Option.some.inj h
    exact kw_Q (hR _ rfl) (kw_return C (kdec dc_Stage_readNext 88 rfl))
def pf_Stage_readNext_64 (σ : kM) (x1 : Int) (x2 : Int) : Option (kM) :=
  kchk (0 ≤ (w32 (53 + x1)) ∧ (w32 (53 + x1)) < 85) <|
  klet (σ 59 (w32 (53 + x1)).toNat) fun x3_2 =>
  (pf_Law_topicOf_3 σ x1 x3_2).bind fun r_3 =>
  if x2 = 0 then
    (pf_World_depthOf_58 σ x1 x3_2).bind fun r_4 =>
    pf_Stage_readNext_64_j42 σ x1 x3_2 r_3 r_4
  else
    pf_Stage_readNext_64_j42 σ x1 x3_2 r_3 9
set_option maxHeartbeats 4000000 in
theorem bd_pf_Stage_readNext_64 {x : kX} {l0 : Launch} {Q : State → Prop} (C : kCx x prog_8_method_8_code "PoetFines$Stage" none kcl yC 10 l0 R0_pf_Stage_readNext_64) (σ : kM) (x1 : Int) (x2 : Int) {out : kM} (h : pf_Stage_readNext_64 σ x1 x2 = some out) (hR : ∀ (τ : kM), out = τ → Q = kQ x none τ 0 0) : KW x 0 0 Q σ 0 [some (kr 64), some (ki x1), some (ki x2), none, none, none, none, none, none, none] [] := by
  unfold pf_Stage_readNext_64 at h
  refine kw_aload_n C (kdec dc_Stage_readNext 0 rfl) rfl 1 rfl rfl ?_
  refine kw_getR C (kdec dc_Stage_readNext 1 rfl) 4 rfl fd_C_Stage_28_64 ?_
  refine kw_getR C (kdec dc_Stage_readNext 2 rfl) 7 rfl fd_C_Stage_51_58 ?_
  refine kw_bipush (v := 53) C (kdec dc_Stage_readNext 3 rfl) 9 rfl (by decide) ⟨by decide, by decide⟩ ?_
  refine kw_iload_n C (kdec dc_Stage_readNext 4 rfl) rfl 10 rfl rfl ?_
  refine kw_iadd C (kdec dc_Stage_readNext 5 rfl) 11 rfl ?_
  obtain ⟨hc_1, h⟩ := kchk_h h
  refine kw_iald C (kdec dc_Stage_readNext 6 rfl) 12 rfl rfl hc_1.1 hc_1.2 ?_
  obtain ⟨x3_2, ex3_2, h⟩ := klet_h h
  refine kw_top ex3_2 ?_
  refine kw_istore_n (L' := [some (kr 64), some (ki x1), some (ki x2), some (ki x3_2), none, none, none, none, none, none]) C (kdec dc_Stage_readNext 7 rfl) rfl 13 rfl (by decide) rfl rfl ?_
  refine kw_aload_n C (kdec dc_Stage_readNext 8 rfl) rfl 14 rfl rfl ?_
  refine kw_getR C (kdec dc_Stage_readNext 9 rfl) 17 rfl fd_C_Stage_24_64 ?_
  refine kw_iload_n C (kdec dc_Stage_readNext 10 rfl) rfl 18 rfl rfl ?_
  refine kw_iload_n C (kdec dc_Stage_readNext 11 rfl) rfl 19 rfl rfl ?_
  obtain ⟨r_3, hg_30, h⟩ := kbind_h h
  refine kw_callV (As := [ki x1, ki x3_2]) C (kdec dc_Stage_readNext 12 rfl) 22 rfl cv_Stage_101 rfl rfl (mt_pf_Law_topicOf_3 l0 hg_30) ⟨rfl, rfl⟩ ⟨Nat.le_of_ble_eq_true rfl, Nat.le_of_ble_eq_true rfl⟩ ⟨Nat.zero_le _, Nat.zero_le _⟩ rfl (Nat.le_of_ble_eq_true rfl) ?_
  change KW x 0 0 Q σ 22 [some (kr 64), some (ki x1), some (ki x2), some (ki x3_2), none, none, none, none, none, none] [ki r_3]
  refine kw_istore (L' := [some (kr 64), some (ki x1), some (ki x2), some (ki x3_2), some (ki r_3), none, none, none, none, none]) C (kdec dc_Stage_readNext 13 rfl) 24 rfl (by decide) rfl rfl ?_
  refine kw_iload_n C (kdec dc_Stage_readNext 14 rfl) rfl 25 rfl rfl ?_
  refine kw_if_eq C (kdec dc_Stage_readNext 15 rfl) 33 28 (by decide) rfl (fun hc25 => ?_) (fun hc25 => ?_)
  · rw [if_pos hc25] at h
    refine kw_aload_n C (kdec dc_Stage_readNext 18 rfl) rfl 34 rfl rfl ?_
    refine kw_getR C (kdec dc_Stage_readNext 19 rfl) 37 rfl fd_C_Stage_28_64 ?_
    refine kw_iload_n C (kdec dc_Stage_readNext 20 rfl) rfl 38 rfl rfl ?_
    refine kw_iload_n C (kdec dc_Stage_readNext 21 rfl) rfl 39 rfl rfl ?_
    obtain ⟨r_4, hg_29, h⟩ := kbind_h h
    refine kw_callV (As := [ki x1, ki x3_2]) C (kdec dc_Stage_readNext 22 rfl) 42 rfl cv_Stage_104 rfl rfl (mt_pf_World_depthOf_58 l0 hg_29) ⟨rfl, rfl⟩ ⟨Nat.le_of_ble_eq_true rfl, Nat.le_of_ble_eq_true rfl⟩ ⟨Nat.zero_le _, Nat.zero_le _⟩ rfl (Nat.le_of_ble_eq_true rfl) ?_
    change KW x 0 0 Q σ 42 [some (kr 64), some (ki x1), some (ki x2), some (ki x3_2), some (ki r_3), none, none, none, none, none] [ki r_4]
    exact kw_sub (L' := [some (kr 64), some (ki x1), none, some (ki x3_2), some (ki r_3), none, none, none, none, none]) ⟨rfl, rfl, rfl, rfl, trivial⟩ (bd_pf_Stage_readNext_64_j42 C σ x1 x3_2 r_3 r_4 h hR)
  · rw [if_neg hc25] at h
    refine kw_bipush (v := 9) C (kdec dc_Stage_readNext 16 rfl) 30 rfl (by decide) ⟨by decide, by decide⟩ ?_
    refine kw_goto C (kdec dc_Stage_readNext 17 rfl) 42 (by decide) ?_
    exact kw_sub (L' := [some (kr 64), some (ki x1), none, some (ki x3_2), some (ki r_3), none, none, none, none, none]) ⟨rfl, rfl, rfl, rfl, trivial⟩ (bd_pf_Stage_readNext_64_j42 C σ x1 x3_2 r_3 9 h hR)
theorem mt_pf_Stage_readNext_64 (l0 : Launch) {σ : kM} {x1 : Int} {x2 : Int} {τ : kM} (h : pf_Stage_readNext_64 σ x1 x2 = some τ) : kMet l0 ky_Stage_readNext prog_8_method_8_code 10 none R0_pf_Stage_readNext_64 kcl yC σ [kr 64, ki x1, ki x2] none τ := kMet.of' [some (kr 64), some (ki x1), some (ki x2), none, none, none, none, none, none, none] (by decide) (Nat.le_of_ble_eq_true rfl) ⟨rfl, rfl, rfl, trivial⟩ (fun x C => bd_pf_Stage_readNext_64 C σ x1 x2 h (fun τ e => by subst e; rfl))
def R0_pf_Tally_closeYear_65 : Room := ({ frames := 0, cells := 0, slots := 0, locals := 0 } : Room)
def pf_Tally_closeYear_65_j30 (σ : kM) (s0 : Int) (s1 : Int) : Option (kM) :=
  klet (kst σ 65 (kup (σ 65) 9 (w32 (s1 + s0)))) fun σ_2 =>
  some σ_2
set_option maxHeartbeats 4000000 in
theorem bd_pf_Tally_closeYear_65_j30 {x : kX} {l0 : Launch} {Q : State → Prop} (C : kCx x prog_9_method_4_code "PoetFines$Tally" none kcl yC 1 l0 R0_pf_Tally_closeYear_65) (σ : kM) (s0 : Int) (s1 : Int) {out : kM} (h : pf_Tally_closeYear_65_j30 σ s0 s1 = some out) (hR : ∀ (τ : kM), out = τ → Q = kQ x none τ 0 0) : KW x 0 0 Q σ 30 [none] [ki s0, ki s1, kr 65] := by
  unfold pf_Tally_closeYear_65_j30 at h
  refine kw_iadd C (kdec dc_Tally_closeYear 16 rfl) 31 rfl ?_
  obtain ⟨σ_2, eσ_2, h⟩ := klet_h h
  refine kw_putI C (kdec dc_Tally_closeYear 17 rfl) 34 rfl fp_C_Tally_40_65 ?_
  refine kw_sig eσ_2 ?_
  obtain rfl := Option.some.inj h
  exact kw_Q (hR _ rfl) (kw_return C (kdec dc_Tally_closeYear 18 rfl))
def pf_Tally_closeYear_65 (σ : kM) : Option (kM) :=
  klet (kst σ 65 (kup (σ 65) 7 (kor (σ 65 7) (σ 65 6)))) fun σ_1 =>
  if (σ_1 65 6) = 0 then
    pf_Tally_closeYear_65_j30 σ_1 1 (σ_1 65 9)
  else
    pf_Tally_closeYear_65_j30 σ_1 0 (σ_1 65 9)
set_option maxHeartbeats 4000000 in
theorem bd_pf_Tally_closeYear_65 {x : kX} {l0 : Launch} {Q : State → Prop} (C : kCx x prog_9_method_4_code "PoetFines$Tally" none kcl yC 1 l0 R0_pf_Tally_closeYear_65) (σ : kM) {out : kM} (h : pf_Tally_closeYear_65 σ = some out) (hR : ∀ (τ : kM), out = τ → Q = kQ x none τ 0 0) : KW x 0 0 Q σ 0 [some (kr 65)] [] := by
  unfold pf_Tally_closeYear_65 at h
  refine kw_aload_n C (kdec dc_Tally_closeYear 0 rfl) rfl 1 rfl rfl ?_
  refine kw_dup C (kdec dc_Tally_closeYear 1 rfl) 2 rfl rfl ?_
  refine kw_getI C (kdec dc_Tally_closeYear 2 rfl) 5 rfl fd_C_Tally_34_65 ?_
  refine kw_aload_n C (kdec dc_Tally_closeYear 3 rfl) rfl 6 rfl rfl ?_
  refine kw_getI C (kdec dc_Tally_closeYear 4 rfl) 9 rfl fd_C_Tally_31_65 ?_
  refine kw_ior C (kdec dc_Tally_closeYear 5 rfl) 10 rfl ?_
  obtain ⟨σ_1, eσ_1, h⟩ := klet_h h
  refine kw_putI C (kdec dc_Tally_closeYear 6 rfl) 13 rfl fp_C_Tally_34_65 ?_
  refine kw_sig eσ_1 ?_
  refine kw_aload_n C (kdec dc_Tally_closeYear 7 rfl) rfl 14 rfl rfl ?_
  refine kw_dup C (kdec dc_Tally_closeYear 8 rfl) 15 rfl rfl ?_
  refine kw_getI C (kdec dc_Tally_closeYear 9 rfl) 18 rfl fd_C_Tally_40_65 ?_
  refine kw_aload_n C (kdec dc_Tally_closeYear 10 rfl) rfl 19 rfl rfl ?_
  refine kw_getI C (kdec dc_Tally_closeYear 11 rfl) 22 rfl fd_C_Tally_31_65 ?_
  refine kw_if_ne C (kdec dc_Tally_closeYear 12 rfl) 29 25 (by decide) rfl (fun hc22 => ?_) (fun hc22 => ?_)
  · rw [if_neg hc22] at h
    refine kw_iconst C (kdec dc_Tally_closeYear 15 rfl) 30 rfl rfl ⟨by decide, by decide⟩ ?_
    exact kw_sub (L' := [none]) trivial (bd_pf_Tally_closeYear_65_j30 C σ_1 0 (σ_1 65 9) h hR)
  · rw [if_pos hc22] at h
    refine kw_iconst C (kdec dc_Tally_closeYear 13 rfl) 26 rfl rfl ⟨by decide, by decide⟩ ?_
    refine kw_goto C (kdec dc_Tally_closeYear 14 rfl) 30 (by decide) ?_
    exact kw_sub (L' := [none]) trivial (bd_pf_Tally_closeYear_65_j30 C σ_1 1 (σ_1 65 9) h hR)
theorem mt_pf_Tally_closeYear_65 (l0 : Launch) {σ : kM} {τ : kM} (h : pf_Tally_closeYear_65 σ = some τ) : kMet l0 ky_Tally_closeYear prog_9_method_4_code 1 none R0_pf_Tally_closeYear_65 kcl yC σ [kr 65] none τ := kMet.of' [some (kr 65)] (by decide) (Nat.le_of_ble_eq_true rfl) ⟨rfl, trivial⟩ (fun x C => bd_pf_Tally_closeYear_65 C σ h (fun τ e => by subst e; rfl))
def R0_pf_Stage_passYear_64 : Room := ({ frames := 4, cells := 0, slots := 0, locals := 101 } : Room)
def pf_Stage_passYear_64_l10_j66 (σ : kM) (x1 : Int) (x2 : Int) : Option ((kM × Int) ⊕ ((kM))) :=
  klet (w32 (x2 + 1)) fun x2_5 =>
  some (Sum.inl (σ, x2_5))
set_option maxHeartbeats 4000000 in
theorem bd_pf_Stage_passYear_64_l10_j66 {x : kX} {l0 : Launch} {Q : State → Prop} (C : kCx x prog_8_method_4_code "PoetFines$Stage" none kcl yC 3 l0 R0_pf_Stage_passYear_64) (σ : kM) (x1 : Int) (x2 : Int) {out : (kM × Int) ⊕ ((kM))} (h : pf_Stage_passYear_64_l10_j66 σ x1 x2 = some out) (hC : ∀ (σ' : kM) (x2' : Int), out = Sum.inl (σ', x2') → KW x 0 0 Q σ' 10 [some (kr 64), some (ki x1), some (ki x2')] []) (hX72 : ∀ (σ' : kM), out = Sum.inr σ' → KW x 0 0 Q σ' 72 [some (kr 64), none, none] []) : KW x 0 0 Q σ 66 [some (kr 64), some (ki x1), some (ki x2)] [] := by
  unfold pf_Stage_passYear_64_l10_j66 at h
  obtain ⟨x2_5, ex2_5, h⟩ := klet_h h
  refine kw_iinc (L' := [some (kr 64), some (ki x1), some (ki x2_5)]) C (kdec dc_Stage_passYear 38 rfl) 69 rfl rfl (by decide) rfl (by rw [ex2_5]; rfl) ?_
  refine kw_goto C (kdec dc_Stage_passYear 39 rfl) 10 (by decide) ?_
  obtain rfl := Option.some.inj h
  exact (hC _ _ rfl)
def pf_Stage_passYear_64_l10 (σ : kM) (x1 : Int) (x2 : Int) : Option ((kM × Int) ⊕ ((kM))) :=
  if (σ 3 2) ≤ x2 then
    some (Sum.inr σ)
  else
    kchk (0 ≤ (w32 (57 + x2)) ∧ (w32 (57 + x2)) < 85) <|
    if (σ 59 (w32 (57 + x2)).toNat) ≤ 0 then
      (pf_Stage_sellVolumes_64 σ x2).bind fun σ_3 =>
      (pf_Stage_readNext_64 σ_3 x2 x1).bind fun σ_4 =>
      pf_Stage_passYear_64_l10_j66 σ_4 x1 x2
    else
      klet (w32 (57 + x2)) fun y_8 =>
      kchk (0 ≤ y_8 ∧ y_8 < 85) <|
      kchk (0 ≤ y_8 ∧ y_8 < 85) <|
      klet (kst σ 59 (kup (σ 59) y_8.toNat (w32 ((σ 59 y_8.toNat) - 1)))) fun σ_11 =>
      pf_Stage_passYear_64_l10_j66 σ_11 x1 x2
set_option maxHeartbeats 4000000 in
theorem bd_pf_Stage_passYear_64_l10 {x : kX} {l0 : Launch} {Q : State → Prop} (C : kCx x prog_8_method_4_code "PoetFines$Stage" none kcl yC 3 l0 R0_pf_Stage_passYear_64) (σ : kM) (x1 : Int) (x2 : Int) {out : (kM × Int) ⊕ ((kM))} (h : pf_Stage_passYear_64_l10 σ x1 x2 = some out) (hC : ∀ (σ' : kM) (x2' : Int), out = Sum.inl (σ', x2') → KW x 0 0 Q σ' 10 [some (kr 64), some (ki x1), some (ki x2')] []) (hX72 : ∀ (σ' : kM), out = Sum.inr σ' → KW x 0 0 Q σ' 72 [some (kr 64), none, none] []) : KW x 0 0 Q σ 10 [some (kr 64), some (ki x1), some (ki x2)] [] := by
  unfold pf_Stage_passYear_64_l10 at h
  refine kw_iload_n C (kdec dc_Stage_passYear 6 rfl) rfl 11 rfl rfl ?_
  refine kw_aload_n C (kdec dc_Stage_passYear 7 rfl) rfl 12 rfl rfl ?_
  refine kw_getR C (kdec dc_Stage_passYear 8 rfl) 15 rfl fd_C_Stage_24_64 ?_
  refine kw_getI C (kdec dc_Stage_passYear 9 rfl) 18 rfl fd_C_Stage_74_3 ?_
  refine kw_icmp_ge C (kdec dc_Stage_passYear 10 rfl) 72 21 (by decide) rfl (fun hc18 => ?_) (fun hc18 => ?_)
  · rw [if_pos hc18] at h
    obtain rfl := Option.some.inj h
    exact kw_sub (L' := [some (kr 64), none, none]) ⟨rfl, trivial⟩ (hX72 _ rfl)
  · rw [if_neg hc18] at h
    refine kw_aload_n C (kdec dc_Stage_passYear 11 rfl) rfl 22 rfl rfl ?_
    refine kw_getR C (kdec dc_Stage_passYear 12 rfl) 25 rfl fd_C_Stage_28_64 ?_
    refine kw_getR C (kdec dc_Stage_passYear 13 rfl) 28 rfl fd_C_Stage_51_58 ?_
    refine kw_bipush (v := 57) C (kdec dc_Stage_passYear 14 rfl) 30 rfl (by decide) ⟨by decide, by decide⟩ ?_
    refine kw_iload_n C (kdec dc_Stage_passYear 15 rfl) rfl 31 rfl rfl ?_
    refine kw_iadd C (kdec dc_Stage_passYear 16 rfl) 32 rfl ?_
    obtain ⟨hc_2, h⟩ := kchk_h h
    refine kw_iald C (kdec dc_Stage_passYear 17 rfl) 33 rfl rfl hc_2.1 hc_2.2 ?_
    refine kw_if_le C (kdec dc_Stage_passYear 18 rfl) 55 36 (by decide) rfl (fun hc33 => ?_) (fun hc33 => ?_)
    · rw [if_pos hc33] at h
      refine kw_aload_n C (kdec dc_Stage_passYear 31 rfl) rfl 56 rfl rfl ?_
      refine kw_iload_n C (kdec dc_Stage_passYear 32 rfl) rfl 57 rfl rfl ?_
      obtain ⟨σ_3, hg_7, h⟩ := kbind_h h
      refine kw_callV (As := [ki x2]) C (kdec dc_Stage_passYear 33 rfl) 60 rfl cv_Stage_77 rfl rfl (mt_pf_Stage_sellVolumes_64 l0 hg_7) ⟨rfl, rfl⟩ ⟨Nat.le_of_ble_eq_true rfl, Nat.le_of_ble_eq_true rfl⟩ ⟨Nat.zero_le _, Nat.zero_le _⟩ rfl (Nat.le_of_ble_eq_true rfl) ?_
      change KW x 0 0 Q σ_3 60 [some (kr 64), some (ki x1), some (ki x2)] []
      refine kw_aload_n C (kdec dc_Stage_passYear 34 rfl) rfl 61 rfl rfl ?_
      refine kw_iload_n C (kdec dc_Stage_passYear 35 rfl) rfl 62 rfl rfl ?_
      refine kw_iload_n C (kdec dc_Stage_passYear 36 rfl) rfl 63 rfl rfl ?_
      obtain ⟨σ_4, hg_6, h⟩ := kbind_h h
      refine kw_callV (As := [ki x2, ki x1]) C (kdec dc_Stage_passYear 37 rfl) 66 rfl cv_Stage_81 rfl rfl (mt_pf_Stage_readNext_64 l0 hg_6) ⟨rfl, rfl⟩ ⟨Nat.le_of_ble_eq_true rfl, Nat.le_of_ble_eq_true rfl⟩ ⟨Nat.zero_le _, Nat.zero_le _⟩ rfl (Nat.le_of_ble_eq_true rfl) ?_
      change KW x 0 0 Q σ_4 66 [some (kr 64), some (ki x1), some (ki x2)] []
      exact bd_pf_Stage_passYear_64_l10_j66 C σ_4 x1 x2 h hC hX72
    · rw [if_neg hc33] at h
      refine kw_aload_n C (kdec dc_Stage_passYear 19 rfl) rfl 37 rfl rfl ?_
      refine kw_getR C (kdec dc_Stage_passYear 20 rfl) 40 rfl fd_C_Stage_28_64 ?_
      refine kw_getR C (kdec dc_Stage_passYear 21 rfl) 43 rfl fd_C_Stage_51_58 ?_
      refine kw_bipush (v := 57) C (kdec dc_Stage_passYear 22 rfl) 45 rfl (by decide) ⟨by decide, by decide⟩ ?_
      refine kw_iload_n C (kdec dc_Stage_passYear 23 rfl) rfl 46 rfl rfl ?_
      refine kw_iadd C (kdec dc_Stage_passYear 24 rfl) 47 rfl ?_
      obtain ⟨y_8, ey_8, h⟩ := klet_h h
      refine kw_top ey_8 ?_
      refine kw_dup2 C (kdec dc_Stage_passYear 25 rfl) 48 rfl rfl rfl ?_
      obtain ⟨hc_9, h⟩ := kchk_h h
      refine kw_iald C (kdec dc_Stage_passYear 26 rfl) 49 rfl rfl hc_9.1 hc_9.2 ?_
      refine kw_iconst C (kdec dc_Stage_passYear 27 rfl) 50 rfl rfl ⟨by decide, by decide⟩ ?_
      refine kw_isub C (kdec dc_Stage_passYear 28 rfl) 51 rfl ?_
      obtain ⟨hc_10, h⟩ := kchk_h h
      obtain ⟨σ_11, eσ_11, h⟩ := klet_h h
      refine kw_iast C (kdec dc_Stage_passYear 29 rfl) 52 rfl rfl hc_10.1 hc_10.2 ?_
      refine kw_sig eσ_11 ?_
      refine kw_goto C (kdec dc_Stage_passYear 30 rfl) 66 (by decide) ?_
      exact bd_pf_Stage_passYear_64_l10_j66 C σ_11 x1 x2 h hC hX72
theorem lp_pf_Stage_passYear_64_l10 {x : kX} {l0 : Launch} {Q : State → Prop} (C : kCx x prog_8_method_4_code "PoetFines$Stage" none kcl yC 3 l0 R0_pf_Stage_passYear_64) (x1 : Int) {ex : (kM)} (hX72 : ∀ (σ' : kM), ex = σ' → KW x 0 0 Q σ' 72 [some (kr 64), none, none] []) (n : Nat) (σ : kM) (x2 : Int) (h : kloop (fun st => pf_Stage_passYear_64_l10 st.1 x1 st.2) n (σ, x2) = some ex) : KW x 0 0 Q σ 10 [some (kr 64), some (ki x1), some (ki x2)] [] :=
  kloop_ind (P := (fun st : kM × Int => KW x 0 0 Q st.1 10 [some (kr 64), some (ki x1), some (ki (st.2))] [])) (fun st out hb hc hx => bd_pf_Stage_passYear_64_l10 C st.1 x1 st.2 hb (fun a0 a1 e => hc _ e) (fun a0 e => hX72 _ ((hx _ e).symm))) n (σ, x2) h
def pf_Stage_passYear_64 (σ : kM) (x1 : Int) : Option (kM) :=
  klet (kst σ 65 (kup (σ 65) 6 0)) fun σ_1 =>
  (kloop (fun st => pf_Stage_passYear_64_l10 st.1 x1 st.2) kFuel (σ_1, 0)).bind fun σ_14 =>
  klet (kst σ_14 59 (kup (σ_14 59) ((0 : Int).toNat) (w32 ((σ_14 59 (0 : Int).toNat) + 1)))) fun σ_15 =>
  (pf_Tally_closeYear_65 σ_15).bind fun σ_16 =>
  some σ_16
set_option maxHeartbeats 4000000 in
theorem bd_pf_Stage_passYear_64 {x : kX} {l0 : Launch} {Q : State → Prop} (C : kCx x prog_8_method_4_code "PoetFines$Stage" none kcl yC 3 l0 R0_pf_Stage_passYear_64) (σ : kM) (x1 : Int) {out : kM} (h : pf_Stage_passYear_64 σ x1 = some out) (hR : ∀ (τ : kM), out = τ → Q = kQ x none τ 0 0) : KW x 0 0 Q σ 0 [some (kr 64), some (ki x1), none] [] := by
  unfold pf_Stage_passYear_64 at h
  refine kw_aload_n C (kdec dc_Stage_passYear 0 rfl) rfl 1 rfl rfl ?_
  refine kw_getR C (kdec dc_Stage_passYear 1 rfl) 4 rfl fd_C_Stage_12_64 ?_
  refine kw_iconst C (kdec dc_Stage_passYear 2 rfl) 5 rfl rfl ⟨by decide, by decide⟩ ?_
  obtain ⟨σ_1, eσ_1, h⟩ := klet_h h
  refine kw_putI C (kdec dc_Stage_passYear 3 rfl) 8 rfl fp_C_Stage_70_65 ?_
  refine kw_sig eσ_1 ?_
  refine kw_iconst C (kdec dc_Stage_passYear 4 rfl) 9 rfl rfl ⟨by decide, by decide⟩ ?_
  refine kw_istore_n (L' := [some (kr 64), some (ki x1), some (ki 0)]) C (kdec dc_Stage_passYear 5 rfl) rfl 10 rfl (by decide) rfl rfl ?_
  obtain ⟨ex_12, hl_13, h⟩ := kbind_h h
  refine lp_pf_Stage_passYear_64_l10 C x1 ?_ kFuel σ_1 0 hl_13
  · intro σ_14 e
    subst ex_12
    try dsimp only at h
    refine kw_aload_n C (kdec dc_Stage_passYear 40 rfl) rfl 73 rfl rfl ?_
    refine kw_getR C (kdec dc_Stage_passYear 41 rfl) 76 rfl fd_C_Stage_28_64 ?_
    refine kw_getR C (kdec dc_Stage_passYear 42 rfl) 79 rfl fd_C_Stage_51_58 ?_
    refine kw_iconst C (kdec dc_Stage_passYear 43 rfl) 80 rfl rfl ⟨by decide, by decide⟩ ?_
    refine kw_dup2 C (kdec dc_Stage_passYear 44 rfl) 81 rfl rfl rfl ?_
    refine kw_iald C (kdec dc_Stage_passYear 45 rfl) 82 rfl rfl (by decide) (by decide) ?_
    refine kw_iconst C (kdec dc_Stage_passYear 46 rfl) 83 rfl rfl ⟨by decide, by decide⟩ ?_
    refine kw_iadd C (kdec dc_Stage_passYear 47 rfl) 84 rfl ?_
    obtain ⟨σ_15, eσ_15, h⟩ := klet_h h
    refine kw_iast C (kdec dc_Stage_passYear 48 rfl) 85 rfl rfl (by decide) (by decide) ?_
    refine kw_sig eσ_15 ?_
    refine kw_aload_n C (kdec dc_Stage_passYear 49 rfl) rfl 86 rfl rfl ?_
    refine kw_getR C (kdec dc_Stage_passYear 50 rfl) 89 rfl fd_C_Stage_12_64 ?_
    obtain ⟨σ_16, hg_17, h⟩ := kbind_h h
    refine kw_callV (As := []) C (kdec dc_Stage_passYear 51 rfl) 92 rfl cv_Stage_85 rfl rfl (mt_pf_Tally_closeYear_65 l0 hg_17) ⟨rfl, rfl⟩ ⟨Nat.le_of_ble_eq_true rfl, Nat.le_of_ble_eq_true rfl⟩ ⟨Nat.zero_le _, Nat.zero_le _⟩ rfl (Nat.le_of_ble_eq_true rfl) ?_
    change KW x 0 0 Q σ_16 92 [some (kr 64), none, none] []
    obtain rfl := Option.some.inj h
    exact kw_Q (hR _ rfl) (kw_return C (kdec dc_Stage_passYear 52 rfl))
theorem mt_pf_Stage_passYear_64 (l0 : Launch) {σ : kM} {x1 : Int} {τ : kM} (h : pf_Stage_passYear_64 σ x1 = some τ) : kMet l0 ky_Stage_passYear prog_8_method_4_code 3 none R0_pf_Stage_passYear_64 kcl yC σ [kr 64, ki x1] none τ := kMet.of' [some (kr 64), some (ki x1), none] (by decide) (Nat.le_of_ble_eq_true rfl) ⟨rfl, rfl, trivial⟩ (fun x C => bd_pf_Stage_passYear_64 C σ x1 h (fun τ e => by subst e; rfl))
def R0_pf_Oracle_letGoBy_57 : Room := ({ frames := 5, cells := 0, slots := 0, locals := 123 } : Room)
def pf_Oracle_letGoBy_57_l2 (σ : kM) (x1 : Int) (x2 : Int) : Option ((kM × Int) ⊕ ((kM))) :=
  if x1 ≤ x2 then
    some (Sum.inr σ)
  else
    (pf_Stage_passYear_64 σ 0).bind fun σ_1 =>
    klet (w32 (x2 + 1)) fun x2_2 =>
    some (Sum.inl (σ_1, x2_2))
set_option maxHeartbeats 4000000 in
theorem bd_pf_Oracle_letGoBy_57_l2 {x : kX} {l0 : Launch} {Q : State → Prop} (C : kCx x prog_5_method_23_code "PoetFines$Oracle" none kcl yC 3 l0 R0_pf_Oracle_letGoBy_57) (σ : kM) (x1 : Int) (x2 : Int) {out : (kM × Int) ⊕ ((kM))} (h : pf_Oracle_letGoBy_57_l2 σ x1 x2 = some out) (hC : ∀ (σ' : kM) (x2' : Int), out = Sum.inl (σ', x2') → KW x 0 0 Q σ' 2 [some (kr 57), some (ki x1), some (ki x2')] []) (hX21 : ∀ (σ' : kM), out = Sum.inr σ' → KW x 0 0 Q σ' 21 [none, none, none] []) : KW x 0 0 Q σ 2 [some (kr 57), some (ki x1), some (ki x2)] [] := by
  unfold pf_Oracle_letGoBy_57_l2 at h
  refine kw_iload_n C (kdec dc_Oracle_letGoBy 2 rfl) rfl 3 rfl rfl ?_
  refine kw_iload_n C (kdec dc_Oracle_letGoBy 3 rfl) rfl 4 rfl rfl ?_
  refine kw_icmp_ge C (kdec dc_Oracle_letGoBy 4 rfl) 21 7 (by decide) rfl (fun hc4 => ?_) (fun hc4 => ?_)
  · rw [if_pos hc4] at h
    obtain rfl := Option.some.inj h
    exact kw_sub (L' := [none, none, none]) trivial (hX21 _ rfl)
  · rw [if_neg hc4] at h
    refine kw_aload_n C (kdec dc_Oracle_letGoBy 5 rfl) rfl 8 rfl rfl ?_
    refine kw_getR C (kdec dc_Oracle_letGoBy 6 rfl) 11 rfl fd_C_Oracle_55_57 ?_
    refine kw_iconst C (kdec dc_Oracle_letGoBy 7 rfl) 12 rfl rfl ⟨by decide, by decide⟩ ?_
    obtain ⟨σ_1, hg_3, h⟩ := kbind_h h
    refine kw_callV (As := [ki 0]) C (kdec dc_Oracle_letGoBy 8 rfl) 15 rfl cv_Oracle_75 rfl rfl (mt_pf_Stage_passYear_64 l0 hg_3) ⟨rfl, rfl⟩ ⟨Nat.le_of_ble_eq_true rfl, Nat.le_of_ble_eq_true rfl⟩ ⟨Nat.zero_le _, Nat.zero_le _⟩ rfl (Nat.le_of_ble_eq_true rfl) ?_
    change KW x 0 0 Q σ_1 15 [some (kr 57), some (ki x1), some (ki x2)] []
    obtain ⟨x2_2, ex2_2, h⟩ := klet_h h
    refine kw_iinc (L' := [some (kr 57), some (ki x1), some (ki x2_2)]) C (kdec dc_Oracle_letGoBy 9 rfl) 18 rfl rfl (by decide) rfl (by rw [ex2_2]; rfl) ?_
    refine kw_goto C (kdec dc_Oracle_letGoBy 10 rfl) 2 (by decide) ?_
    obtain rfl := Option.some.inj h
    exact (hC _ _ rfl)
theorem lp_pf_Oracle_letGoBy_57_l2 {x : kX} {l0 : Launch} {Q : State → Prop} (C : kCx x prog_5_method_23_code "PoetFines$Oracle" none kcl yC 3 l0 R0_pf_Oracle_letGoBy_57) (x1 : Int) {ex : (kM)} (hX21 : ∀ (σ' : kM), ex = σ' → KW x 0 0 Q σ' 21 [none, none, none] []) (n : Nat) (σ : kM) (x2 : Int) (h : kloop (fun st => pf_Oracle_letGoBy_57_l2 st.1 x1 st.2) n (σ, x2) = some ex) : KW x 0 0 Q σ 2 [some (kr 57), some (ki x1), some (ki x2)] [] :=
  kloop_ind (P := (fun st : kM × Int => KW x 0 0 Q st.1 2 [some (kr 57), some (ki x1), some (ki (st.2))] [])) (fun st out hb hc hx => bd_pf_Oracle_letGoBy_57_l2 C st.1 x1 st.2 hb (fun a0 a1 e => hc _ e) (fun a0 e => hX21 _ ((hx _ e).symm))) n (σ, x2) h
def pf_Oracle_letGoBy_57 (σ : kM) (x1 : Int) : Option (kM) :=
  (kloop (fun st => pf_Oracle_letGoBy_57_l2 st.1 x1 st.2) kFuel (σ, 0)).bind fun σ_6 =>
  some σ_6
set_option maxHeartbeats 4000000 in
theorem bd_pf_Oracle_letGoBy_57 {x : kX} {l0 : Launch} {Q : State → Prop} (C : kCx x prog_5_method_23_code "PoetFines$Oracle" none kcl yC 3 l0 R0_pf_Oracle_letGoBy_57) (σ : kM) (x1 : Int) {out : kM} (h : pf_Oracle_letGoBy_57 σ x1 = some out) (hR : ∀ (τ : kM), out = τ → Q = kQ x none τ 0 0) : KW x 0 0 Q σ 0 [some (kr 57), some (ki x1), none] [] := by
  unfold pf_Oracle_letGoBy_57 at h
  refine kw_iconst C (kdec dc_Oracle_letGoBy 0 rfl) 1 rfl rfl ⟨by decide, by decide⟩ ?_
  refine kw_istore_n (L' := [some (kr 57), some (ki x1), some (ki 0)]) C (kdec dc_Oracle_letGoBy 1 rfl) rfl 2 rfl (by decide) rfl rfl ?_
  obtain ⟨ex_4, hl_5, h⟩ := kbind_h h
  refine lp_pf_Oracle_letGoBy_57_l2 C x1 ?_ kFuel σ 0 hl_5
  · intro σ_6 e
    subst ex_4
    try dsimp only at h
    obtain rfl := Option.some.inj h
    exact kw_Q (hR _ rfl) (kw_return C (kdec dc_Oracle_letGoBy 11 rfl))
theorem mt_pf_Oracle_letGoBy_57 (l0 : Launch) {σ : kM} {x1 : Int} {τ : kM} (h : pf_Oracle_letGoBy_57 σ x1 = some τ) : kMet l0 ky_Oracle_letGoBy prog_5_method_23_code 3 none R0_pf_Oracle_letGoBy_57 kcl yC σ [kr 57, ki x1] none τ := kMet.of' [some (kr 57), some (ki x1), none] (by decide) (Nat.le_of_ble_eq_true rfl) ⟨rfl, rfl, trivial⟩ (fun x C => bd_pf_Oracle_letGoBy_57 C σ x1 h (fun τ e => by subst e; rfl))
def R0_pf_Oracle_foresee_57 : Room := ({ frames := 6, cells := 0, slots := 0, locals := 145 } : Room)
def pf_Oracle_foresee_57 (σ : kM) (x1 : Int) : Option (kM) :=
  (pf_Oracle_begin_57 σ).bind fun σ_1 =>
  (pf_Oracle_letGoBy_57 σ_1 x1).bind fun σ_2 =>
  some σ_2
set_option maxHeartbeats 4000000 in
theorem bd_pf_Oracle_foresee_57 {x : kX} {l0 : Launch} {Q : State → Prop} (C : kCx x prog_5_method_2_code "PoetFines$Oracle" none kcl yC 2 l0 R0_pf_Oracle_foresee_57) (σ : kM) (x1 : Int) {out : kM} (h : pf_Oracle_foresee_57 σ x1 = some out) (hR : ∀ (τ : kM), out = τ → Q = kQ x none τ 0 0) : KW x 0 0 Q σ 0 [some (kr 57), some (ki x1)] [] := by
  unfold pf_Oracle_foresee_57 at h
  refine kw_aload_n C (kdec dc_Oracle_foresee 0 rfl) rfl 1 rfl rfl ?_
  obtain ⟨σ_1, hg_4, h⟩ := kbind_h h
  refine kw_callV (As := []) C (kdec dc_Oracle_foresee 1 rfl) 4 rfl cv_Oracle_64 rfl rfl (mt_pf_Oracle_begin_57 l0 hg_4) ⟨rfl, rfl⟩ ⟨Nat.le_of_ble_eq_true rfl, Nat.le_of_ble_eq_true rfl⟩ ⟨Nat.zero_le _, Nat.zero_le _⟩ rfl (Nat.le_of_ble_eq_true rfl) ?_
  change KW x 0 0 Q σ_1 4 [some (kr 57), some (ki x1)] []
  refine kw_aload_n C (kdec dc_Oracle_foresee 2 rfl) rfl 5 rfl rfl ?_
  refine kw_iload_n C (kdec dc_Oracle_foresee 3 rfl) rfl 6 rfl rfl ?_
  obtain ⟨σ_2, hg_3, h⟩ := kbind_h h
  refine kw_callV (As := [ki x1]) C (kdec dc_Oracle_foresee 4 rfl) 9 rfl cv_Oracle_67 rfl rfl (mt_pf_Oracle_letGoBy_57 l0 hg_3) ⟨rfl, rfl⟩ ⟨Nat.le_of_ble_eq_true rfl, Nat.le_of_ble_eq_true rfl⟩ ⟨Nat.zero_le _, Nat.zero_le _⟩ rfl (Nat.le_of_ble_eq_true rfl) ?_
  change KW x 0 0 Q σ_2 9 [some (kr 57), some (ki x1)] []
  obtain rfl := Option.some.inj h
  exact kw_Q (hR _ rfl) (kw_return C (kdec dc_Oracle_foresee 5 rfl))
theorem mt_pf_Oracle_foresee_57 (l0 : Launch) {σ : kM} {x1 : Int} {τ : kM} (h : pf_Oracle_foresee_57 σ x1 = some τ) : kMet l0 ky_Oracle_foresee prog_5_method_2_code 2 none R0_pf_Oracle_foresee_57 kcl yC σ [kr 57, ki x1] none τ := kMet.of' [some (kr 57), some (ki x1)] (by decide) (Nat.le_of_ble_eq_true rfl) ⟨rfl, rfl, trivial⟩ (fun x C => bd_pf_Oracle_foresee_57 C σ x1 h (fun τ e => by subst e; rfl))
def R0_pf_World_ofPerson_58 : Room := ({ frames := 1, cells := 0, slots := 0, locals := 22 } : Room)
def pf_World_ofPerson_58_l34 (σ : kM) (x1 : Int) (x3 : Int) (x4 : Int) (x5 : Int) : Option ((Int × Int) ⊕ ((Int))) :=
  if x3 ≤ x5 then
    some (Sum.inr x4)
  else
    (pf_World_hitsBy_58 σ x5 x1).bind fun r_1 =>
    klet (w32 (x4 + r_1)) fun x4_2 =>
    klet (w32 (x5 + 1)) fun x5_3 =>
    some (Sum.inl (x4_2, x5_3))
set_option maxHeartbeats 4000000 in
theorem bd_pf_World_ofPerson_58_l34 {x : kX} {l0 : Launch} {Q : State → Prop} (C : kCx x prog_12_method_7_code "PoetFines$World" (some .int) kcl yC 6 l0 R0_pf_World_ofPerson_58) (σ : kM) (x1 : Int) (x3 : Int) (x4 : Int) (x5 : Int) {out : (Int × Int) ⊕ ((Int))} (h : pf_World_ofPerson_58_l34 σ x1 x3 x4 x5 = some out) (hC : ∀ (x4' : Int) (x5' : Int), out = Sum.inl (x4', x5') → KW x 0 0 Q σ 34 [some (kr 58), some (ki x1), none, some (ki x3), some (ki x4'), some (ki x5')] []) (hX58 : ∀ (x4' : Int), out = Sum.inr x4' → KW x 0 0 Q σ 58 [none, none, none, none, some (ki x4'), none] []) : KW x 0 0 Q σ 34 [some (kr 58), some (ki x1), none, some (ki x3), some (ki x4), some (ki x5)] [] := by
  unfold pf_World_ofPerson_58_l34 at h
  refine kw_iload C (kdec dc_World_ofPerson 23 rfl) 36 rfl rfl ?_
  refine kw_iload_n C (kdec dc_World_ofPerson 24 rfl) rfl 37 rfl rfl ?_
  refine kw_icmp_ge C (kdec dc_World_ofPerson 25 rfl) 58 40 (by decide) rfl (fun hc37 => ?_) (fun hc37 => ?_)
  · rw [if_pos hc37] at h
    obtain rfl := Option.some.inj h
    exact kw_sub (L' := [none, none, none, none, some (ki x4), none]) ⟨rfl, trivial⟩ (hX58 _ rfl)
  · rw [if_neg hc37] at h
    refine kw_iload C (kdec dc_World_ofPerson 26 rfl) 42 rfl rfl ?_
    refine kw_aload_n C (kdec dc_World_ofPerson 27 rfl) rfl 43 rfl rfl ?_
    refine kw_iload C (kdec dc_World_ofPerson 28 rfl) 45 rfl rfl ?_
    refine kw_iload_n C (kdec dc_World_ofPerson 29 rfl) rfl 46 rfl rfl ?_
    obtain ⟨r_1, hg_4, h⟩ := kbind_h h
    refine kw_callV (As := [ki x5, ki x1]) C (kdec dc_World_ofPerson 30 rfl) 49 rfl cv_World_21 rfl rfl (mt_pf_World_hitsBy_58 l0 hg_4) ⟨rfl, rfl⟩ ⟨Nat.le_of_ble_eq_true rfl, Nat.le_of_ble_eq_true rfl⟩ ⟨Nat.zero_le _, Nat.zero_le _⟩ rfl (Nat.le_of_ble_eq_true rfl) ?_
    change KW x 0 0 Q σ 49 [some (kr 58), some (ki x1), none, some (ki x3), some (ki x4), some (ki x5)] [ki r_1, ki x4]
    refine kw_iadd C (kdec dc_World_ofPerson 31 rfl) 50 rfl ?_
    obtain ⟨x4_2, ex4_2, h⟩ := klet_h h
    refine kw_top ex4_2 ?_
    refine kw_istore (L' := [some (kr 58), some (ki x1), none, some (ki x3), some (ki x4_2), some (ki x5)]) C (kdec dc_World_ofPerson 32 rfl) 52 rfl (by decide) rfl rfl ?_
    obtain ⟨x5_3, ex5_3, h⟩ := klet_h h
    refine kw_iinc (L' := [some (kr 58), some (ki x1), none, some (ki x3), some (ki x4_2), some (ki x5_3)]) C (kdec dc_World_ofPerson 33 rfl) 55 rfl rfl (by decide) rfl (by rw [ex5_3]; rfl) ?_
    refine kw_goto C (kdec dc_World_ofPerson 34 rfl) 34 (by decide) ?_
    obtain rfl := Option.some.inj h
    exact (hC _ _ rfl)
theorem lp_pf_World_ofPerson_58_l34 {x : kX} {l0 : Launch} {Q : State → Prop} (C : kCx x prog_12_method_7_code "PoetFines$World" (some .int) kcl yC 6 l0 R0_pf_World_ofPerson_58) (σ : kM) (x1 : Int) (x3 : Int) {ex : (Int)} (hX58 : ∀ (x4' : Int), ex = x4' → KW x 0 0 Q σ 58 [none, none, none, none, some (ki x4'), none] []) (n : Nat) (x4 : Int) (x5 : Int) (h : kloop (fun st => pf_World_ofPerson_58_l34 σ x1 x3 st.1 st.2) n (x4, x5) = some ex) : KW x 0 0 Q σ 34 [some (kr 58), some (ki x1), none, some (ki x3), some (ki x4), some (ki x5)] [] :=
  kloop_ind (P := (fun st : Int × Int => KW x 0 0 Q σ 34 [some (kr 58), some (ki x1), none, some (ki x3), some (ki (st.1)), some (ki (st.2))] [])) (fun st out hb hc hx => bd_pf_World_ofPerson_58_l34 C σ x1 x3 st.1 st.2 hb (fun a0 a1 e => hc _ e) (fun a0 e => hX58 _ ((hx _ e).symm))) n (x4, x5) h
def pf_World_ofPerson_58 (σ : kM) (x1 : Int) (x2 : Int) (x3 : Int) : Option (Int) :=
  if x2 = 0 then
    kchk (0 ≤ (w32 (1 + x1)) ∧ (w32 (1 + x1)) < 85) <|
    some (σ 59 (w32 (1 + x1)).toNat)
  else
    if x2 = 1 then
      kchk (0 ≤ (w32 (9 + x1)) ∧ (w32 (9 + x1)) < 85) <|
      some (σ 59 (w32 (9 + x1)).toNat)
    else
      (kloop (fun st => pf_World_ofPerson_58_l34 σ x1 x3 st.1 st.2) kFuel (0, 0)).bind fun x4_7 =>
      some x4_7
set_option maxHeartbeats 4000000 in
theorem bd_pf_World_ofPerson_58 {x : kX} {l0 : Launch} {Q : State → Prop} (C : kCx x prog_12_method_7_code "PoetFines$World" (some .int) kcl yC 6 l0 R0_pf_World_ofPerson_58) (σ : kM) (x1 : Int) (x2 : Int) (x3 : Int) {out : Int} (h : pf_World_ofPerson_58 σ x1 x2 x3 = some out) (hR : ∀ (r : Int), out = r → Q = kQ x (some (ki r)) σ 0 0) : KW x 0 0 Q σ 0 [some (kr 58), some (ki x1), some (ki x2), some (ki x3), none, none] [] := by
  unfold pf_World_ofPerson_58 at h
  refine kw_iload_n C (kdec dc_World_ofPerson 0 rfl) rfl 1 rfl rfl ?_
  refine kw_if_ne C (kdec dc_World_ofPerson 1 rfl) 13 4 (by decide) rfl (fun hc1 => ?_) (fun hc1 => ?_)
  · rw [if_neg hc1] at h
    refine kw_iload_n C (kdec dc_World_ofPerson 9 rfl) rfl 14 rfl rfl ?_
    refine kw_iconst C (kdec dc_World_ofPerson 10 rfl) 15 rfl rfl ⟨by decide, by decide⟩ ?_
    refine kw_icmp_ne C (kdec dc_World_ofPerson 11 rfl) 28 18 (by decide) rfl (fun hc15 => ?_) (fun hc15 => ?_)
    · rw [if_neg hc15] at h
      refine kw_iconst C (kdec dc_World_ofPerson 19 rfl) 29 rfl rfl ⟨by decide, by decide⟩ ?_
      refine kw_istore (L' := [some (kr 58), some (ki x1), some (ki x2), some (ki x3), some (ki 0), none]) C (kdec dc_World_ofPerson 20 rfl) 31 rfl (by decide) rfl rfl ?_
      refine kw_iconst C (kdec dc_World_ofPerson 21 rfl) 32 rfl rfl ⟨by decide, by decide⟩ ?_
      refine kw_istore (L' := [some (kr 58), some (ki x1), some (ki x2), some (ki x3), some (ki 0), some (ki 0)]) C (kdec dc_World_ofPerson 22 rfl) 34 rfl (by decide) rfl rfl ?_
      obtain ⟨ex_5, hl_6, h⟩ := kbind_h h
      refine kw_sub (L' := [some (kr 58), some (ki x1), none, some (ki x3), some (ki 0), some (ki 0)]) ⟨rfl, rfl, rfl, rfl, rfl, trivial⟩ (lp_pf_World_ofPerson_58_l34 C σ x1 x3 ?_ kFuel 0 0 hl_6)
      · intro x4_7 e
        subst ex_5
        try dsimp only at h
        refine kw_iload C (kdec dc_World_ofPerson 35 rfl) 60 rfl rfl ?_
        obtain rfl := Option.some.inj h
        exact kw_Q (hR _ rfl) (kw_ireturn C (kdec dc_World_ofPerson 36 rfl))
    · rw [if_pos hc15] at h
      refine kw_aload_n C (kdec dc_World_ofPerson 12 rfl) rfl 19 rfl rfl ?_
      refine kw_getR C (kdec dc_World_ofPerson 13 rfl) 22 rfl fd_C_World_11_58 ?_
      refine kw_bipush (v := 9) C (kdec dc_World_ofPerson 14 rfl) 24 rfl (by decide) ⟨by decide, by decide⟩ ?_
      refine kw_iload_n C (kdec dc_World_ofPerson 15 rfl) rfl 25 rfl rfl ?_
      refine kw_iadd C (kdec dc_World_ofPerson 16 rfl) 26 rfl ?_
      obtain ⟨hc_8, h⟩ := kchk_h h
      refine kw_iald C (kdec dc_World_ofPerson 17 rfl) 27 rfl rfl hc_8.1 hc_8.2 ?_
      obtain rfl := Option.some.inj h
      exact kw_Q (hR _ rfl) (kw_ireturn C (kdec dc_World_ofPerson 18 rfl))
  · rw [if_pos hc1] at h
    refine kw_aload_n C (kdec dc_World_ofPerson 2 rfl) rfl 5 rfl rfl ?_
    refine kw_getR C (kdec dc_World_ofPerson 3 rfl) 8 rfl fd_C_World_11_58 ?_
    refine kw_iconst C (kdec dc_World_ofPerson 4 rfl) 9 rfl rfl ⟨by decide, by decide⟩ ?_
    refine kw_iload_n C (kdec dc_World_ofPerson 5 rfl) rfl 10 rfl rfl ?_
    refine kw_iadd C (kdec dc_World_ofPerson 6 rfl) 11 rfl ?_
    obtain ⟨hc_9, h⟩ := kchk_h h
    refine kw_iald C (kdec dc_World_ofPerson 7 rfl) 12 rfl rfl hc_9.1 hc_9.2 ?_
    obtain rfl := Option.some.inj h
    exact kw_Q (hR _ rfl) (kw_ireturn C (kdec dc_World_ofPerson 8 rfl))
theorem mt_pf_World_ofPerson_58 (l0 : Launch) {σ : kM} {x1 : Int} {x2 : Int} {x3 : Int} {r : Int} (h : pf_World_ofPerson_58 σ x1 x2 x3 = some r) : kMet l0 ky_World_ofPerson prog_12_method_7_code 6 (some .int) R0_pf_World_ofPerson_58 kcl yC σ [kr 58, ki x1, ki x2, ki x3] (some (ki r)) σ := kMet.of' [some (kr 58), some (ki x1), some (ki x2), some (ki x3), none, none] (by decide) (Nat.le_of_ble_eq_true rfl) ⟨rfl, rfl, rfl, rfl, trivial⟩ (fun x C => bd_pf_World_ofPerson_58 C σ x1 x2 x3 h (fun r e => by subst e; rfl))
def R0_pf_P_then_0 : Room := ({ frames := 7, cells := 3, slots := 18, locals := 166 } : Room)
def pf_P_then_0 (σ : kM) (x1 : Int) (x2 : Int) (x3 : Int) : Option ((String ⊕ Int) × kM) :=
  (pf_P_needPerson_0 σ x1).bind fun q_16 => match q_16 with
  | (.inl E_3, σ_1) => some (.inl E_3, σ_1)
  | (.inr _, σ_1) =>
    (pf_P_needWhat_0 σ_1 x3 2).bind fun q_15 => match q_15 with
    | (.inl E_6, σ_4) => some (.inl E_6, σ_4)
    | (.inr _, σ_4) =>
      (pf_P_needWithin_0 σ_4 x2 0 60).bind fun q_14 => match q_14 with
      | (.inl E_9, σ_7) => some (.inl E_9, σ_7)
      | (.inr _, σ_7) =>
        (pf_Oracle_foresee_57 σ_7 x2).bind fun σ_10 =>
        (pf_World_ofPerson_58 σ_10 x1 x3 (σ_10 3 2)).bind fun r_11 =>
        some ((.inr r_11, σ_10))
set_option maxHeartbeats 4000000 in
theorem bd_pf_P_then_0 {x : kX} {l0 : Launch} {Q : State → Prop} (C : kCx x prog_1_method_16_code "PoetFines" (some .int) kcl yC 4 l0 R0_pf_P_then_0) (hT : kTb x) (hfl : l0.stackTraces = false) (σ : kM) (x1 : Int) (x2 : Int) (x3 : Int) {out : (String ⊕ Int) × kM} (h : pf_P_then_0 σ x1 x2 x3 = some out) (hR : ∀ (r : Int) (τ : kM), out = (.inr r, τ) → Q = kQX x (.inr (some (ki r))) τ 3 18) (hE : ∀ (E : String) (τ : kM), out = (.inl E, τ) → Q = kQX x (.inl E) τ 3 18) : KW x 0 0 Q σ 0 [some (kr 0), some (ki x1), some (ki x2), some (ki x3)] [] := by
  unfold pf_P_then_0 at h
  refine kw_aload_n C (kdec dc_P_then 0 rfl) rfl 1 rfl rfl ?_
  refine kw_iload_n C (kdec dc_P_then 1 rfl) rfl 2 rfl rfl ?_
  obtain ⟨⟨q_16, σ_1⟩, hg_2, h⟩ := kbind_h h
  rcases q_16 with E_3 | _
  · dsimp only at h
    obtain rfl := Option.some.inj h
    exact kw_Q (hE _ _ rfl) (kw_callVX_t (As := [ki x1]) C hT (kdec dc_P_then 2 rfl) cv_P_148 rfl rfl (me_pf_P_needPerson_0 l0 hfl hg_2) ⟨rfl, rfl⟩ ⟨Nat.le_of_ble_eq_true rfl, Nat.le_of_ble_eq_true rfl⟩ ⟨Nat.le_of_ble_eq_true rfl, Nat.le_of_ble_eq_true rfl⟩ rfl (Nat.le_of_ble_eq_true rfl) (Nat.le_of_ble_eq_true rfl) (Nat.le_of_ble_eq_true rfl))
  · dsimp only at h
    refine kw_callVX (As := [ki x1]) C (kdec dc_P_then 2 rfl) 5 rfl cv_P_148 rfl rfl (mx_pf_P_needPerson_0 l0 hfl hg_2) ⟨rfl, rfl⟩ ⟨Nat.le_of_ble_eq_true rfl, Nat.le_of_ble_eq_true rfl⟩ ⟨Nat.le_of_ble_eq_true rfl, Nat.le_of_ble_eq_true rfl⟩ rfl (Nat.le_of_ble_eq_true rfl) ?_
    change KW x 1 6 Q σ_1 5 [some (kr 0), some (ki x1), some (ki x2), some (ki x3)] []
    refine kw_aload_n C (kdec dc_P_then 3 rfl) rfl 6 rfl rfl ?_
    refine kw_iload_n C (kdec dc_P_then 4 rfl) rfl 7 rfl rfl ?_
    refine kw_iconst C (kdec dc_P_then 5 rfl) 8 rfl rfl ⟨by decide, by decide⟩ ?_
    obtain ⟨⟨q_15, σ_4⟩, hg_5, h⟩ := kbind_h h
    rcases q_15 with E_6 | _
    · dsimp only at h
      obtain rfl := Option.some.inj h
      exact kw_Q (hE _ _ rfl) (kw_callVX_t (As := [ki x3, ki 2]) C hT (kdec dc_P_then 6 rfl) cv_P_154 rfl rfl (me_pf_P_needWhat_0 l0 hfl hg_5) ⟨rfl, rfl⟩ ⟨Nat.le_of_ble_eq_true rfl, Nat.le_of_ble_eq_true rfl⟩ ⟨Nat.le_of_ble_eq_true rfl, Nat.le_of_ble_eq_true rfl⟩ rfl (Nat.le_of_ble_eq_true rfl) (Nat.le_of_ble_eq_true rfl) (Nat.le_of_ble_eq_true rfl))
    · dsimp only at h
      refine kw_callVX (As := [ki x3, ki 2]) C (kdec dc_P_then 6 rfl) 11 rfl cv_P_154 rfl rfl (mx_pf_P_needWhat_0 l0 hfl hg_5) ⟨rfl, rfl⟩ ⟨Nat.le_of_ble_eq_true rfl, Nat.le_of_ble_eq_true rfl⟩ ⟨Nat.le_of_ble_eq_true rfl, Nat.le_of_ble_eq_true rfl⟩ rfl (Nat.le_of_ble_eq_true rfl) ?_
      change KW x 2 12 Q σ_4 11 [some (kr 0), some (ki x1), some (ki x2), some (ki x3)] []
      refine kw_aload_n C (kdec dc_P_then 7 rfl) rfl 12 rfl rfl ?_
      refine kw_iload_n C (kdec dc_P_then 8 rfl) rfl 13 rfl rfl ?_
      refine kw_iconst C (kdec dc_P_then 9 rfl) 14 rfl rfl ⟨by decide, by decide⟩ ?_
      refine kw_bipush (v := 60) C (kdec dc_P_then 10 rfl) 16 rfl (by decide) ⟨by decide, by decide⟩ ?_
      obtain ⟨⟨q_14, σ_7⟩, hg_8, h⟩ := kbind_h h
      rcases q_14 with E_9 | _
      · dsimp only at h
        obtain rfl := Option.some.inj h
        exact kw_Q (hE _ _ rfl) (kw_callVX_t (As := [ki x2, ki 0, ki 60]) C hT (kdec dc_P_then 11 rfl) cv_P_210 rfl rfl (me_pf_P_needWithin_0 l0 hfl hg_8) ⟨rfl, rfl⟩ ⟨Nat.le_of_ble_eq_true rfl, Nat.le_of_ble_eq_true rfl⟩ ⟨Nat.le_of_ble_eq_true rfl, Nat.le_of_ble_eq_true rfl⟩ rfl (Nat.le_of_ble_eq_true rfl) (Nat.le_of_ble_eq_true rfl) (Nat.le_of_ble_eq_true rfl))
      · dsimp only at h
        refine kw_callVX (As := [ki x2, ki 0, ki 60]) C (kdec dc_P_then 11 rfl) 19 rfl cv_P_210 rfl rfl (mx_pf_P_needWithin_0 l0 hfl hg_8) ⟨rfl, rfl⟩ ⟨Nat.le_of_ble_eq_true rfl, Nat.le_of_ble_eq_true rfl⟩ ⟨Nat.le_of_ble_eq_true rfl, Nat.le_of_ble_eq_true rfl⟩ rfl (Nat.le_of_ble_eq_true rfl) ?_
        change KW x 3 18 Q σ_7 19 [some (kr 0), some (ki x1), some (ki x2), some (ki x3)] []
        refine kw_aload_n C (kdec dc_P_then 12 rfl) rfl 20 rfl rfl ?_
        refine kw_getR C (kdec dc_P_then 13 rfl) 23 rfl fd_C_P_81_0 ?_
        refine kw_iload_n C (kdec dc_P_then 14 rfl) rfl 24 rfl rfl ?_
        obtain ⟨σ_10, hg_13, h⟩ := kbind_h h
        refine kw_callV (As := [ki x2]) C (kdec dc_P_then 15 rfl) 27 rfl cv_P_213 rfl rfl (mt_pf_Oracle_foresee_57 l0 hg_13) ⟨rfl, rfl⟩ ⟨Nat.le_of_ble_eq_true rfl, Nat.le_of_ble_eq_true rfl⟩ ⟨Nat.le_of_ble_eq_true rfl, Nat.le_of_ble_eq_true rfl⟩ rfl (Nat.le_of_ble_eq_true rfl) ?_
        change KW x 3 18 Q σ_10 27 [some (kr 0), some (ki x1), some (ki x2), some (ki x3)] []
        refine kw_aload_n C (kdec dc_P_then 16 rfl) rfl 28 rfl rfl ?_
        refine kw_getR C (kdec dc_P_then 17 rfl) 31 rfl fd_C_P_81_0 ?_
        refine kw_getR C (kdec dc_P_then 18 rfl) 34 rfl fd_C_P_216_57 ?_
        refine kw_iload_n C (kdec dc_P_then 19 rfl) rfl 35 rfl rfl ?_
        refine kw_iload_n C (kdec dc_P_then 20 rfl) rfl 36 rfl rfl ?_
        refine kw_aload_n C (kdec dc_P_then 21 rfl) rfl 37 rfl rfl ?_
        refine kw_getR C (kdec dc_P_then 22 rfl) 40 rfl fd_C_P_27_0 ?_
        refine kw_getI C (kdec dc_P_then 23 rfl) 43 rfl fd_C_P_119_3 ?_
        obtain ⟨r_11, hg_12, h⟩ := kbind_h h
        refine kw_callV (As := [ki x1, ki x3, ki (σ_10 3 2)]) C (kdec dc_P_then 24 rfl) 46 rfl cv_P_158 rfl rfl (mt_pf_World_ofPerson_58 l0 hg_12) ⟨rfl, rfl⟩ ⟨Nat.le_of_ble_eq_true rfl, Nat.le_of_ble_eq_true rfl⟩ ⟨Nat.le_of_ble_eq_true rfl, Nat.le_of_ble_eq_true rfl⟩ rfl (Nat.le_of_ble_eq_true rfl) ?_
        change KW x 3 18 Q σ_10 46 [some (kr 0), some (ki x1), some (ki x2), some (ki x3)] [ki r_11]
        obtain rfl := Option.some.inj h
        exact kw_Q (hR _ _ rfl) (kw_xret (by decide) (by decide) (kw_ireturn C (kdec dc_P_then 25 rfl)))
theorem mx_pf_P_then_0 (l0 : Launch) (hfl : l0.stackTraces = false) {σ : kM} {x1 : Int} {x2 : Int} {x3 : Int} {r : Int} {τ : kM} (h : pf_P_then_0 σ x1 x2 x3 = some (.inr r, τ)) : kXet l0 ky_P_then prog_1_method_16_code 4 (some .int) R0_pf_P_then_0 kcl yC σ [kr 0, ki x1, ki x2, ki x3] (.inr (some (ki r))) τ 3 18 := kXet.of [some (kr 0), some (ki x1), some (ki x2), some (ki x3)] (by decide) (Nat.le_of_ble_eq_true rfl) ⟨rfl, rfl, rfl, rfl, trivial⟩ (fun x C hT => bd_pf_P_then_0 C hT hfl σ x1 x2 x3 h (fun r τ e => by cases e; rfl) (fun E τ e => by cases e))
theorem me_pf_P_then_0 (l0 : Launch) (hfl : l0.stackTraces = false) {σ : kM} {x1 : Int} {x2 : Int} {x3 : Int} {E : String} {τ : kM} (h : pf_P_then_0 σ x1 x2 x3 = some (.inl E, τ)) : kXet l0 ky_P_then prog_1_method_16_code 4 (some .int) R0_pf_P_then_0 kcl yC σ [kr 0, ki x1, ki x2, ki x3] (.inl E) τ 3 18 := kXet.of [some (kr 0), some (ki x1), some (ki x2), some (ki x3)] (by decide) (Nat.le_of_ble_eq_true rfl) ⟨rfl, rfl, rfl, rfl, trivial⟩ (fun x C hT => bd_pf_P_then_0 C hT hfl σ x1 x2 x3 h (fun r τ e => by cases e) (fun E τ e => by cases e; rfl))
def R0_pf_P_poetThen_0 : Room := ({ frames := 7, cells := 3, slots := 18, locals := 166 } : Room)
def pf_P_poetThen_0 (σ : kM) (x1 : Int) (x2 : Int) (x3 : Int) : Option ((String ⊕ Int) × kM) :=
  (pf_P_needPoet_0 σ x1).bind fun q_20 => match q_20 with
  | (.inl E_3, σ_1) => some (.inl E_3, σ_1)
  | (.inr _, σ_1) =>
    (pf_P_needWhat_0 σ_1 x3 5).bind fun q_19 => match q_19 with
    | (.inl E_6, σ_4) => some (.inl E_6, σ_4)
    | (.inr _, σ_4) =>
      (pf_P_needWithin_0 σ_4 x2 0 60).bind fun q_18 => match q_18 with
      | (.inl E_9, σ_7) => some (.inl E_9, σ_7)
      | (.inr _, σ_7) =>
        (pf_Oracle_foresee_57 σ_7 x2).bind fun σ_10 =>
        if x3 = 0 then
          kchk (0 ≤ (w32 (49 + x1)) ∧ (w32 (49 + x1)) < 85) <|
          some ((.inr (σ_10 59 (w32 (49 + x1)).toNat), σ_10))
        else
          if x3 = 1 then
            kchk (0 ≤ (w32 (53 + x1)) ∧ (w32 (53 + x1)) < 85) <|
            some ((.inr (σ_10 59 (w32 (53 + x1)).toNat), σ_10))
          else
            if x3 = 2 then
              kchk (0 ≤ (w32 (57 + x1)) ∧ (w32 (57 + x1)) < 85) <|
              some ((.inr (σ_10 59 (w32 (57 + x1)).toNat), σ_10))
            else
              if x3 = 3 then
                kchk (0 ≤ x1 ∧ x1 < 4) <|
                some ((.inr (σ_10 66 x1.toNat), σ_10))
              else
                if x3 = 4 then
                  kchk (0 ≤ x1 ∧ x1 < 4) <|
                  some ((.inr (σ_10 67 x1.toNat), σ_10))
                else
                  kchk (0 ≤ x1 ∧ x1 < 4) <|
                  some ((.inr (σ_10 68 x1.toNat), σ_10))
set_option maxHeartbeats 4000000 in
theorem bd_pf_P_poetThen_0 {x : kX} {l0 : Launch} {Q : State → Prop} (C : kCx x prog_1_method_17_code "PoetFines" (some .int) kcl yC 4 l0 R0_pf_P_poetThen_0) (hT : kTb x) (hfl : l0.stackTraces = false) (σ : kM) (x1 : Int) (x2 : Int) (x3 : Int) {out : (String ⊕ Int) × kM} (h : pf_P_poetThen_0 σ x1 x2 x3 = some out) (hR : ∀ (r : Int) (τ : kM), out = (.inr r, τ) → Q = kQX x (.inr (some (ki r))) τ 3 18) (hE : ∀ (E : String) (τ : kM), out = (.inl E, τ) → Q = kQX x (.inl E) τ 3 18) : KW x 0 0 Q σ 0 [some (kr 0), some (ki x1), some (ki x2), some (ki x3)] [] := by
  unfold pf_P_poetThen_0 at h
  refine kw_aload_n C (kdec dc_P_poetThen 0 rfl) rfl 1 rfl rfl ?_
  refine kw_iload_n C (kdec dc_P_poetThen 1 rfl) rfl 2 rfl rfl ?_
  obtain ⟨⟨q_20, σ_1⟩, hg_2, h⟩ := kbind_h h
  rcases q_20 with E_3 | _
  · dsimp only at h
    obtain rfl := Option.some.inj h
    exact kw_Q (hE _ _ rfl) (kw_callVX_t (As := [ki x1]) C hT (kdec dc_P_poetThen 2 rfl) cv_P_162 rfl rfl (me_pf_P_needPoet_0 l0 hfl hg_2) ⟨rfl, rfl⟩ ⟨Nat.le_of_ble_eq_true rfl, Nat.le_of_ble_eq_true rfl⟩ ⟨Nat.le_of_ble_eq_true rfl, Nat.le_of_ble_eq_true rfl⟩ rfl (Nat.le_of_ble_eq_true rfl) (Nat.le_of_ble_eq_true rfl) (Nat.le_of_ble_eq_true rfl))
  · dsimp only at h
    refine kw_callVX (As := [ki x1]) C (kdec dc_P_poetThen 2 rfl) 5 rfl cv_P_162 rfl rfl (mx_pf_P_needPoet_0 l0 hfl hg_2) ⟨rfl, rfl⟩ ⟨Nat.le_of_ble_eq_true rfl, Nat.le_of_ble_eq_true rfl⟩ ⟨Nat.le_of_ble_eq_true rfl, Nat.le_of_ble_eq_true rfl⟩ rfl (Nat.le_of_ble_eq_true rfl) ?_
    change KW x 1 6 Q σ_1 5 [some (kr 0), some (ki x1), some (ki x2), some (ki x3)] []
    refine kw_aload_n C (kdec dc_P_poetThen 3 rfl) rfl 6 rfl rfl ?_
    refine kw_iload_n C (kdec dc_P_poetThen 4 rfl) rfl 7 rfl rfl ?_
    refine kw_iconst C (kdec dc_P_poetThen 5 rfl) 8 rfl rfl ⟨by decide, by decide⟩ ?_
    obtain ⟨⟨q_19, σ_4⟩, hg_5, h⟩ := kbind_h h
    rcases q_19 with E_6 | _
    · dsimp only at h
      obtain rfl := Option.some.inj h
      exact kw_Q (hE _ _ rfl) (kw_callVX_t (As := [ki x3, ki 5]) C hT (kdec dc_P_poetThen 6 rfl) cv_P_154 rfl rfl (me_pf_P_needWhat_0 l0 hfl hg_5) ⟨rfl, rfl⟩ ⟨Nat.le_of_ble_eq_true rfl, Nat.le_of_ble_eq_true rfl⟩ ⟨Nat.le_of_ble_eq_true rfl, Nat.le_of_ble_eq_true rfl⟩ rfl (Nat.le_of_ble_eq_true rfl) (Nat.le_of_ble_eq_true rfl) (Nat.le_of_ble_eq_true rfl))
    · dsimp only at h
      refine kw_callVX (As := [ki x3, ki 5]) C (kdec dc_P_poetThen 6 rfl) 11 rfl cv_P_154 rfl rfl (mx_pf_P_needWhat_0 l0 hfl hg_5) ⟨rfl, rfl⟩ ⟨Nat.le_of_ble_eq_true rfl, Nat.le_of_ble_eq_true rfl⟩ ⟨Nat.le_of_ble_eq_true rfl, Nat.le_of_ble_eq_true rfl⟩ rfl (Nat.le_of_ble_eq_true rfl) ?_
      change KW x 2 12 Q σ_4 11 [some (kr 0), some (ki x1), some (ki x2), some (ki x3)] []
      refine kw_aload_n C (kdec dc_P_poetThen 7 rfl) rfl 12 rfl rfl ?_
      refine kw_iload_n C (kdec dc_P_poetThen 8 rfl) rfl 13 rfl rfl ?_
      refine kw_iconst C (kdec dc_P_poetThen 9 rfl) 14 rfl rfl ⟨by decide, by decide⟩ ?_
      refine kw_bipush (v := 60) C (kdec dc_P_poetThen 10 rfl) 16 rfl (by decide) ⟨by decide, by decide⟩ ?_
      obtain ⟨⟨q_18, σ_7⟩, hg_8, h⟩ := kbind_h h
      rcases q_18 with E_9 | _
      · dsimp only at h
        obtain rfl := Option.some.inj h
        exact kw_Q (hE _ _ rfl) (kw_callVX_t (As := [ki x2, ki 0, ki 60]) C hT (kdec dc_P_poetThen 11 rfl) cv_P_210 rfl rfl (me_pf_P_needWithin_0 l0 hfl hg_8) ⟨rfl, rfl⟩ ⟨Nat.le_of_ble_eq_true rfl, Nat.le_of_ble_eq_true rfl⟩ ⟨Nat.le_of_ble_eq_true rfl, Nat.le_of_ble_eq_true rfl⟩ rfl (Nat.le_of_ble_eq_true rfl) (Nat.le_of_ble_eq_true rfl) (Nat.le_of_ble_eq_true rfl))
      · dsimp only at h
        refine kw_callVX (As := [ki x2, ki 0, ki 60]) C (kdec dc_P_poetThen 11 rfl) 19 rfl cv_P_210 rfl rfl (mx_pf_P_needWithin_0 l0 hfl hg_8) ⟨rfl, rfl⟩ ⟨Nat.le_of_ble_eq_true rfl, Nat.le_of_ble_eq_true rfl⟩ ⟨Nat.le_of_ble_eq_true rfl, Nat.le_of_ble_eq_true rfl⟩ rfl (Nat.le_of_ble_eq_true rfl) ?_
        change KW x 3 18 Q σ_7 19 [some (kr 0), some (ki x1), some (ki x2), some (ki x3)] []
        refine kw_aload_n C (kdec dc_P_poetThen 12 rfl) rfl 20 rfl rfl ?_
        refine kw_getR C (kdec dc_P_poetThen 13 rfl) 23 rfl fd_C_P_81_0 ?_
        refine kw_iload_n C (kdec dc_P_poetThen 14 rfl) rfl 24 rfl rfl ?_
        obtain ⟨σ_10, hg_17, h⟩ := kbind_h h
        refine kw_callV (As := [ki x2]) C (kdec dc_P_poetThen 15 rfl) 27 rfl cv_P_213 rfl rfl (mt_pf_Oracle_foresee_57 l0 hg_17) ⟨rfl, rfl⟩ ⟨Nat.le_of_ble_eq_true rfl, Nat.le_of_ble_eq_true rfl⟩ ⟨Nat.le_of_ble_eq_true rfl, Nat.le_of_ble_eq_true rfl⟩ rfl (Nat.le_of_ble_eq_true rfl) ?_
        change KW x 3 18 Q σ_10 27 [some (kr 0), some (ki x1), some (ki x2), some (ki x3)] []
        refine kw_iload_n C (kdec dc_P_poetThen 16 rfl) rfl 28 rfl rfl ?_
        by_cases hc28_0 : x3 = 0
        · rw [if_pos hc28_0] at h
          refine kw_table C (kdec dc_P_poetThen 17 rfl) 64 (Or.inr ⟨by omega, by omega, _, by rw [hc28_0]; rfl, by decide⟩) ?_
          refine kw_aload_n C (kdec dc_P_poetThen 18 rfl) rfl 65 rfl rfl ?_
          refine kw_getR C (kdec dc_P_poetThen 19 rfl) 68 rfl fd_C_P_81_0 ?_
          refine kw_getR C (kdec dc_P_poetThen 20 rfl) 71 rfl fd_C_P_216_57 ?_
          refine kw_getR C (kdec dc_P_poetThen 21 rfl) 74 rfl fd_C_P_122_58 ?_
          refine kw_bipush (v := 49) C (kdec dc_P_poetThen 22 rfl) 76 rfl (by decide) ⟨by decide, by decide⟩ ?_
          refine kw_iload_n C (kdec dc_P_poetThen 23 rfl) rfl 77 rfl rfl ?_
          refine kw_iadd C (kdec dc_P_poetThen 24 rfl) 78 rfl ?_
          obtain ⟨hc_11, h⟩ := kchk_h h
          refine kw_iald C (kdec dc_P_poetThen 25 rfl) 79 rfl rfl hc_11.1 hc_11.2 ?_
          obtain rfl := Option.some.inj h
          exact kw_Q (hR _ _ rfl) (kw_xret (by decide) (by decide) (kw_ireturn C (kdec dc_P_poetThen 26 rfl)))
        · rw [if_neg hc28_0] at h
          by_cases hc28_1 : x3 = 1
          · rw [if_pos hc28_1] at h
            refine kw_table C (kdec dc_P_poetThen 17 rfl) 80 (Or.inr ⟨by omega, by omega, _, by rw [hc28_1]; rfl, by decide⟩) ?_
            refine kw_aload_n C (kdec dc_P_poetThen 27 rfl) rfl 81 rfl rfl ?_
            refine kw_getR C (kdec dc_P_poetThen 28 rfl) 84 rfl fd_C_P_81_0 ?_
            refine kw_getR C (kdec dc_P_poetThen 29 rfl) 87 rfl fd_C_P_216_57 ?_
            refine kw_getR C (kdec dc_P_poetThen 30 rfl) 90 rfl fd_C_P_122_58 ?_
            refine kw_bipush (v := 53) C (kdec dc_P_poetThen 31 rfl) 92 rfl (by decide) ⟨by decide, by decide⟩ ?_
            refine kw_iload_n C (kdec dc_P_poetThen 32 rfl) rfl 93 rfl rfl ?_
            refine kw_iadd C (kdec dc_P_poetThen 33 rfl) 94 rfl ?_
            obtain ⟨hc_12, h⟩ := kchk_h h
            refine kw_iald C (kdec dc_P_poetThen 34 rfl) 95 rfl rfl hc_12.1 hc_12.2 ?_
            obtain rfl := Option.some.inj h
            exact kw_Q (hR _ _ rfl) (kw_xret (by decide) (by decide) (kw_ireturn C (kdec dc_P_poetThen 35 rfl)))
          · rw [if_neg hc28_1] at h
            by_cases hc28_2 : x3 = 2
            · rw [if_pos hc28_2] at h
              refine kw_table C (kdec dc_P_poetThen 17 rfl) 96 (Or.inr ⟨by omega, by omega, _, by rw [hc28_2]; rfl, by decide⟩) ?_
              refine kw_aload_n C (kdec dc_P_poetThen 36 rfl) rfl 97 rfl rfl ?_
              refine kw_getR C (kdec dc_P_poetThen 37 rfl) 100 rfl fd_C_P_81_0 ?_
              refine kw_getR C (kdec dc_P_poetThen 38 rfl) 103 rfl fd_C_P_216_57 ?_
              refine kw_getR C (kdec dc_P_poetThen 39 rfl) 106 rfl fd_C_P_122_58 ?_
              refine kw_bipush (v := 57) C (kdec dc_P_poetThen 40 rfl) 108 rfl (by decide) ⟨by decide, by decide⟩ ?_
              refine kw_iload_n C (kdec dc_P_poetThen 41 rfl) rfl 109 rfl rfl ?_
              refine kw_iadd C (kdec dc_P_poetThen 42 rfl) 110 rfl ?_
              obtain ⟨hc_13, h⟩ := kchk_h h
              refine kw_iald C (kdec dc_P_poetThen 43 rfl) 111 rfl rfl hc_13.1 hc_13.2 ?_
              obtain rfl := Option.some.inj h
              exact kw_Q (hR _ _ rfl) (kw_xret (by decide) (by decide) (kw_ireturn C (kdec dc_P_poetThen 44 rfl)))
            · rw [if_neg hc28_2] at h
              by_cases hc28_3 : x3 = 3
              · rw [if_pos hc28_3] at h
                refine kw_table C (kdec dc_P_poetThen 17 rfl) 112 (Or.inr ⟨by omega, by omega, _, by rw [hc28_3]; rfl, by decide⟩) ?_
                refine kw_aload_n C (kdec dc_P_poetThen 45 rfl) rfl 113 rfl rfl ?_
                refine kw_getR C (kdec dc_P_poetThen 46 rfl) 116 rfl fd_C_P_81_0 ?_
                refine kw_getR C (kdec dc_P_poetThen 47 rfl) 119 rfl fd_C_P_219_57 ?_
                refine kw_getR C (kdec dc_P_poetThen 48 rfl) 122 rfl fd_C_P_223_65 ?_
                refine kw_iload_n C (kdec dc_P_poetThen 49 rfl) rfl 123 rfl rfl ?_
                obtain ⟨hc_14, h⟩ := kchk_h h
                refine kw_iald C (kdec dc_P_poetThen 50 rfl) 124 rfl rfl hc_14.1 hc_14.2 ?_
                obtain rfl := Option.some.inj h
                exact kw_Q (hR _ _ rfl) (kw_xret (by decide) (by decide) (kw_ireturn C (kdec dc_P_poetThen 51 rfl)))
              · rw [if_neg hc28_3] at h
                by_cases hc28_4 : x3 = 4
                · rw [if_pos hc28_4] at h
                  refine kw_table C (kdec dc_P_poetThen 17 rfl) 125 (Or.inr ⟨by omega, by omega, _, by rw [hc28_4]; rfl, by decide⟩) ?_
                  refine kw_aload_n C (kdec dc_P_poetThen 52 rfl) rfl 126 rfl rfl ?_
                  refine kw_getR C (kdec dc_P_poetThen 53 rfl) 129 rfl fd_C_P_81_0 ?_
                  refine kw_getR C (kdec dc_P_poetThen 54 rfl) 132 rfl fd_C_P_219_57 ?_
                  refine kw_getR C (kdec dc_P_poetThen 55 rfl) 135 rfl fd_C_P_228_65 ?_
                  refine kw_iload_n C (kdec dc_P_poetThen 56 rfl) rfl 136 rfl rfl ?_
                  obtain ⟨hc_15, h⟩ := kchk_h h
                  refine kw_iald C (kdec dc_P_poetThen 57 rfl) 137 rfl rfl hc_15.1 hc_15.2 ?_
                  obtain rfl := Option.some.inj h
                  exact kw_Q (hR _ _ rfl) (kw_xret (by decide) (by decide) (kw_ireturn C (kdec dc_P_poetThen 58 rfl)))
                · rw [if_neg hc28_4] at h
                  refine kw_table C (kdec dc_P_poetThen 17 rfl) 138 (Or.inl ⟨by omega, by decide⟩) ?_
                  refine kw_aload_n C (kdec dc_P_poetThen 59 rfl) rfl 139 rfl rfl ?_
                  refine kw_getR C (kdec dc_P_poetThen 60 rfl) 142 rfl fd_C_P_81_0 ?_
                  refine kw_getR C (kdec dc_P_poetThen 61 rfl) 145 rfl fd_C_P_219_57 ?_
                  refine kw_getR C (kdec dc_P_poetThen 62 rfl) 148 rfl fd_C_P_231_65 ?_
                  refine kw_iload_n C (kdec dc_P_poetThen 63 rfl) rfl 149 rfl rfl ?_
                  obtain ⟨hc_16, h⟩ := kchk_h h
                  refine kw_iald C (kdec dc_P_poetThen 64 rfl) 150 rfl rfl hc_16.1 hc_16.2 ?_
                  obtain rfl := Option.some.inj h
                  exact kw_Q (hR _ _ rfl) (kw_xret (by decide) (by decide) (kw_ireturn C (kdec dc_P_poetThen 65 rfl)))
theorem mx_pf_P_poetThen_0 (l0 : Launch) (hfl : l0.stackTraces = false) {σ : kM} {x1 : Int} {x2 : Int} {x3 : Int} {r : Int} {τ : kM} (h : pf_P_poetThen_0 σ x1 x2 x3 = some (.inr r, τ)) : kXet l0 ky_P_poetThen prog_1_method_17_code 4 (some .int) R0_pf_P_poetThen_0 kcl yC σ [kr 0, ki x1, ki x2, ki x3] (.inr (some (ki r))) τ 3 18 := kXet.of [some (kr 0), some (ki x1), some (ki x2), some (ki x3)] (by decide) (Nat.le_of_ble_eq_true rfl) ⟨rfl, rfl, rfl, rfl, trivial⟩ (fun x C hT => bd_pf_P_poetThen_0 C hT hfl σ x1 x2 x3 h (fun r τ e => by cases e; rfl) (fun E τ e => by cases e))
theorem me_pf_P_poetThen_0 (l0 : Launch) (hfl : l0.stackTraces = false) {σ : kM} {x1 : Int} {x2 : Int} {x3 : Int} {E : String} {τ : kM} (h : pf_P_poetThen_0 σ x1 x2 x3 = some (.inl E, τ)) : kXet l0 ky_P_poetThen prog_1_method_17_code 4 (some .int) R0_pf_P_poetThen_0 kcl yC σ [kr 0, ki x1, ki x2, ki x3] (.inl E) τ 3 18 := kXet.of [some (kr 0), some (ki x1), some (ki x2), some (ki x3)] (by decide) (Nat.le_of_ble_eq_true rfl) ⟨rfl, rfl, rfl, rfl, trivial⟩ (fun x C hT => bd_pf_P_poetThen_0 C hT hfl σ x1 x2 x3 h (fun r τ e => by cases e) (fun E τ e => by cases e; rfl))
def R0_pf_Oracle_firstHit_57 : Room := ({ frames := 5, cells := 0, slots := 0, locals := 123 } : Room)
def pf_Oracle_firstHit_57_l17 (σ : kM) (x1 : Int) (x2 : Int) (x3 : Int) (x4 : Int) : Option ((kM × Int) ⊕ ((kM × Int) ⊕ (kM))) :=
  if 60 < x4 then
    some (Sum.inr (Sum.inr σ))
  else
    (pf_Stage_passYear_64 σ 0).bind fun σ_3 =>
    (pf_World_hitsBy_58 σ_3 x2 x1).bind fun r_4 =>
    if r_4 ≤ x3 then
      klet (w32 (x4 + 1)) fun x4_5 =>
      some (Sum.inl (σ_3, x4_5))
    else
      some (Sum.inr (Sum.inl (σ_3, x4)))
set_option maxHeartbeats 4000000 in
theorem bd_pf_Oracle_firstHit_57_l17 {x : kX} {l0 : Launch} {Q : State → Prop} (C : kCx x prog_5_method_3_code "PoetFines$Oracle" (some .int) kcl yC 5 l0 R0_pf_Oracle_firstHit_57) (σ : kM) (x1 : Int) (x2 : Int) (x3 : Int) (x4 : Int) {out : (kM × Int) ⊕ ((kM × Int) ⊕ (kM))} (h : pf_Oracle_firstHit_57_l17 σ x1 x2 x3 x4 = some out) (hC : ∀ (σ' : kM) (x4' : Int), out = Sum.inl (σ', x4') → KW x 0 0 Q σ' 17 [some (kr 57), some (ki x1), some (ki x2), some (ki x3), some (ki x4')] []) (hX45 : ∀ (σ' : kM) (x4' : Int), out = Sum.inr (Sum.inl (σ', x4')) → KW x 0 0 Q σ' 45 [none, none, none, none, some (ki x4')] []) (hX54 : ∀ (σ' : kM), out = Sum.inr (Sum.inr σ') → KW x 0 0 Q σ' 54 [none, none, none, none, none] []) : KW x 0 0 Q σ 17 [some (kr 57), some (ki x1), some (ki x2), some (ki x3), some (ki x4)] [] := by
  unfold pf_Oracle_firstHit_57_l17 at h
  refine kw_iload C (kdec dc_Oracle_firstHit 10 rfl) 19 rfl rfl ?_
  refine kw_bipush (v := 60) C (kdec dc_Oracle_firstHit 11 rfl) 21 rfl (by decide) ⟨by decide, by decide⟩ ?_
  refine kw_icmp_gt C (kdec dc_Oracle_firstHit 12 rfl) 54 24 (by decide) rfl (fun hc21 => ?_) (fun hc21 => ?_)
  · rw [if_pos hc21] at h
    obtain rfl := Option.some.inj h
    exact kw_sub (L' := [none, none, none, none, none]) trivial (hX54 _ rfl)
  · rw [if_neg hc21] at h
    refine kw_aload_n C (kdec dc_Oracle_firstHit 13 rfl) rfl 25 rfl rfl ?_
    refine kw_getR C (kdec dc_Oracle_firstHit 14 rfl) 28 rfl fd_C_Oracle_55_57 ?_
    refine kw_iconst C (kdec dc_Oracle_firstHit 15 rfl) 29 rfl rfl ⟨by decide, by decide⟩ ?_
    obtain ⟨σ_3, hg_7, h⟩ := kbind_h h
    refine kw_callV (As := [ki 0]) C (kdec dc_Oracle_firstHit 16 rfl) 32 rfl cv_Oracle_75 rfl rfl (mt_pf_Stage_passYear_64 l0 hg_7) ⟨rfl, rfl⟩ ⟨Nat.le_of_ble_eq_true rfl, Nat.le_of_ble_eq_true rfl⟩ ⟨Nat.zero_le _, Nat.zero_le _⟩ rfl (Nat.le_of_ble_eq_true rfl) ?_
    change KW x 0 0 Q σ_3 32 [some (kr 57), some (ki x1), some (ki x2), some (ki x3), some (ki x4)] []
    refine kw_aload_n C (kdec dc_Oracle_firstHit 17 rfl) rfl 33 rfl rfl ?_
    refine kw_getR C (kdec dc_Oracle_firstHit 18 rfl) 36 rfl fd_C_Oracle_12_57 ?_
    refine kw_iload_n C (kdec dc_Oracle_firstHit 19 rfl) rfl 37 rfl rfl ?_
    refine kw_iload_n C (kdec dc_Oracle_firstHit 20 rfl) rfl 38 rfl rfl ?_
    obtain ⟨r_4, hg_6, h⟩ := kbind_h h
    refine kw_callV (As := [ki x2, ki x1]) C (kdec dc_Oracle_firstHit 21 rfl) 41 rfl cv_Oracle_71 rfl rfl (mt_pf_World_hitsBy_58 l0 hg_6) ⟨rfl, rfl⟩ ⟨Nat.le_of_ble_eq_true rfl, Nat.le_of_ble_eq_true rfl⟩ ⟨Nat.zero_le _, Nat.zero_le _⟩ rfl (Nat.le_of_ble_eq_true rfl) ?_
    change KW x 0 0 Q σ_3 41 [some (kr 57), some (ki x1), some (ki x2), some (ki x3), some (ki x4)] [ki r_4]
    refine kw_iload_n C (kdec dc_Oracle_firstHit 22 rfl) rfl 42 rfl rfl ?_
    refine kw_icmp_le C (kdec dc_Oracle_firstHit 23 rfl) 48 45 (by decide) rfl (fun hc42 => ?_) (fun hc42 => ?_)
    · rw [if_pos hc42] at h
      obtain ⟨x4_5, ex4_5, h⟩ := klet_h h
      refine kw_iinc (L' := [some (kr 57), some (ki x1), some (ki x2), some (ki x3), some (ki x4_5)]) C (kdec dc_Oracle_firstHit 26 rfl) 51 rfl rfl (by decide) rfl (by rw [ex4_5]; rfl) ?_
      refine kw_goto C (kdec dc_Oracle_firstHit 27 rfl) 17 (by decide) ?_
      obtain rfl := Option.some.inj h
      exact (hC _ _ rfl)
    · rw [if_neg hc42] at h
      obtain rfl := Option.some.inj h
      exact kw_sub (L' := [none, none, none, none, some (ki x4)]) ⟨rfl, trivial⟩ (hX45 _ _ rfl)
theorem lp_pf_Oracle_firstHit_57_l17 {x : kX} {l0 : Launch} {Q : State → Prop} (C : kCx x prog_5_method_3_code "PoetFines$Oracle" (some .int) kcl yC 5 l0 R0_pf_Oracle_firstHit_57) (x1 : Int) (x2 : Int) (x3 : Int) {ex : (kM × Int) ⊕ (kM)} (hX45 : ∀ (σ' : kM) (x4' : Int), ex = (Sum.inl (σ', x4')) → KW x 0 0 Q σ' 45 [none, none, none, none, some (ki x4')] []) (hX54 : ∀ (σ' : kM), ex = (Sum.inr σ') → KW x 0 0 Q σ' 54 [none, none, none, none, none] []) (n : Nat) (σ : kM) (x4 : Int) (h : kloop (fun st => pf_Oracle_firstHit_57_l17 st.1 x1 x2 x3 st.2) n (σ, x4) = some ex) : KW x 0 0 Q σ 17 [some (kr 57), some (ki x1), some (ki x2), some (ki x3), some (ki x4)] [] :=
  kloop_ind (P := (fun st : kM × Int => KW x 0 0 Q st.1 17 [some (kr 57), some (ki x1), some (ki x2), some (ki x3), some (ki (st.2))] [])) (fun st out hb hc hx => bd_pf_Oracle_firstHit_57_l17 C st.1 x1 x2 x3 st.2 hb (fun a0 a1 e => hc _ e) (fun a0 a1 e => hX45 _ _ ((hx _ e).symm)) (fun a0 e => hX54 _ ((hx _ e).symm))) n (σ, x4) h
def pf_Oracle_firstHit_57 (σ : kM) (x1 : Int) (x2 : Int) : Option (Int × kM) :=
  (pf_Oracle_begin_57 σ).bind fun σ_1 =>
  (pf_World_hitsBy_58 σ_1 x2 x1).bind fun r_2 =>
  (kloop (fun st => pf_Oracle_firstHit_57_l17 st.1 x1 x2 r_2 st.2) kFuel (σ_1, 1)).bind fun ex_8 => match ex_8 with
    | (Sum.inl (σ_10, x4_11)) =>
      some ((x4_11, σ_10))
    | (Sum.inr σ_12) =>
      some (((-1), σ_12))
set_option maxHeartbeats 4000000 in
theorem bd_pf_Oracle_firstHit_57 {x : kX} {l0 : Launch} {Q : State → Prop} (C : kCx x prog_5_method_3_code "PoetFines$Oracle" (some .int) kcl yC 5 l0 R0_pf_Oracle_firstHit_57) (σ : kM) (x1 : Int) (x2 : Int) {out : Int × kM} (h : pf_Oracle_firstHit_57 σ x1 x2 = some out) (hR : ∀ (r : Int) (τ : kM), out = (r, τ) → Q = kQ x (some (ki r)) τ 0 0) : KW x 0 0 Q σ 0 [some (kr 57), some (ki x1), some (ki x2), none, none] [] := by
  unfold pf_Oracle_firstHit_57 at h
  refine kw_aload_n C (kdec dc_Oracle_firstHit 0 rfl) rfl 1 rfl rfl ?_
  obtain ⟨σ_1, hg_14, h⟩ := kbind_h h
  refine kw_callV (As := []) C (kdec dc_Oracle_firstHit 1 rfl) 4 rfl cv_Oracle_64 rfl rfl (mt_pf_Oracle_begin_57 l0 hg_14) ⟨rfl, rfl⟩ ⟨Nat.le_of_ble_eq_true rfl, Nat.le_of_ble_eq_true rfl⟩ ⟨Nat.zero_le _, Nat.zero_le _⟩ rfl (Nat.le_of_ble_eq_true rfl) ?_
  change KW x 0 0 Q σ_1 4 [some (kr 57), some (ki x1), some (ki x2), none, none] []
  refine kw_aload_n C (kdec dc_Oracle_firstHit 2 rfl) rfl 5 rfl rfl ?_
  refine kw_getR C (kdec dc_Oracle_firstHit 3 rfl) 8 rfl fd_C_Oracle_12_57 ?_
  refine kw_iload_n C (kdec dc_Oracle_firstHit 4 rfl) rfl 9 rfl rfl ?_
  refine kw_iload_n C (kdec dc_Oracle_firstHit 5 rfl) rfl 10 rfl rfl ?_
  obtain ⟨r_2, hg_13, h⟩ := kbind_h h
  refine kw_callV (As := [ki x2, ki x1]) C (kdec dc_Oracle_firstHit 6 rfl) 13 rfl cv_Oracle_71 rfl rfl (mt_pf_World_hitsBy_58 l0 hg_13) ⟨rfl, rfl⟩ ⟨Nat.le_of_ble_eq_true rfl, Nat.le_of_ble_eq_true rfl⟩ ⟨Nat.zero_le _, Nat.zero_le _⟩ rfl (Nat.le_of_ble_eq_true rfl) ?_
  change KW x 0 0 Q σ_1 13 [some (kr 57), some (ki x1), some (ki x2), none, none] [ki r_2]
  refine kw_istore_n (L' := [some (kr 57), some (ki x1), some (ki x2), some (ki r_2), none]) C (kdec dc_Oracle_firstHit 7 rfl) rfl 14 rfl (by decide) rfl rfl ?_
  refine kw_iconst C (kdec dc_Oracle_firstHit 8 rfl) 15 rfl rfl ⟨by decide, by decide⟩ ?_
  refine kw_istore (L' := [some (kr 57), some (ki x1), some (ki x2), some (ki r_2), some (ki 1)]) C (kdec dc_Oracle_firstHit 9 rfl) 17 rfl (by decide) rfl rfl ?_
  obtain ⟨ex_8, hl_9, h⟩ := kbind_h h
  refine lp_pf_Oracle_firstHit_57_l17 C x1 x2 r_2 ?_ ?_ kFuel σ_1 1 hl_9
  · intro σ_10 x4_11 e
    subst ex_8
    try dsimp only at h
    refine kw_iload C (kdec dc_Oracle_firstHit 24 rfl) 47 rfl rfl ?_
    obtain rfl := Option.some.inj h
    exact kw_Q (hR _ _ rfl) (kw_ireturn C (kdec dc_Oracle_firstHit 25 rfl))
  · intro σ_12 e
    subst ex_8
    try dsimp only at h
    refine kw_iconst C (kdec dc_Oracle_firstHit 28 rfl) 55 rfl rfl ⟨by decide, by decide⟩ ?_
    obtain rfl := Option.some.inj h
    exact kw_Q (hR _ _ rfl) (kw_ireturn C (kdec dc_Oracle_firstHit 29 rfl))
theorem mt_pf_Oracle_firstHit_57 (l0 : Launch) {σ : kM} {x1 : Int} {x2 : Int} {r : Int} {τ : kM} (h : pf_Oracle_firstHit_57 σ x1 x2 = some (r, τ)) : kMet l0 ky_Oracle_firstHit prog_5_method_3_code 5 (some .int) R0_pf_Oracle_firstHit_57 kcl yC σ [kr 57, ki x1, ki x2] (some (ki r)) τ := kMet.of' [some (kr 57), some (ki x1), some (ki x2), none, none] (by decide) (Nat.le_of_ble_eq_true rfl) ⟨rfl, rfl, rfl, trivial⟩ (fun x C => bd_pf_Oracle_firstHit_57 C σ x1 x2 h (fun r τ e => by cases e; rfl))

def R0_pf_Stage_leaveScars_43 : Room := ({ frames := 2, cells := 0, slots := 0, locals := 44 } : Room)
def pf_Stage_leaveScars_43 (σ : kM) (x1 : Int) (x2 : Int) (x3 : Int) : Option (kM) :=
  kchk (0 ≤ (w32 (9 + x2)) ∧ (w32 (9 + x2)) < 85) <|
  kchk (0 ≤ (w32 (9 + x2)) ∧ (w32 (9 + x2)) < 85) <|
  klet (kst σ 31 (kup (σ 31) ((w32 (9 + x2)).toNat) (min (w32 ((σ 31 (w32 (9 + x2)).toNat) + x3)) 99))) fun σ_3 =>
  klet (w32 ((w32 (17 + (w32 (x1 * 8)))) + x2)) fun y_4 =>
  kchk (0 ≤ y_4 ∧ y_4 < 85) <|
  kchk (0 ≤ y_4 ∧ y_4 < 85) <|
  klet (kst σ_3 31 (kup (σ_3 31) y_4.toNat (w32 ((σ_3 31 y_4.toNat) + 1)))) fun σ_7 =>
  (pf_Tally_addHit_44 σ_7 x1 x2 x3).bind fun σ_8 =>
  some σ_8
set_option maxHeartbeats 4000000 in
theorem bd_pf_Stage_leaveScars_43 {x : kX} {l0 : Launch} {Q : State → Prop} (C : kCx x prog_8_method_10_code "PoetFines$Stage" none kcl yC 5 l0 R0_pf_Stage_leaveScars_43) (σ : kM) (x1 : Int) (x2 : Int) (x3 : Int) {out : kM} (h : pf_Stage_leaveScars_43 σ x1 x2 x3 = some out) (hR : ∀ (τ : kM), out = τ → Q = kQ x none τ 0 0) : KW x 0 0 Q σ 0 [some (kr 43), some (ki x1), some (ki x2), some (ki x3), none] [] := by
  unfold pf_Stage_leaveScars_43 at h
  refine kw_aload_n C (kdec dc_Stage_leaveScars 0 rfl) rfl 1 rfl rfl ?_
  refine kw_getR C (kdec dc_Stage_leaveScars 1 rfl) 4 rfl fd_C_Stage_28_43 ?_
  refine kw_getR C (kdec dc_Stage_leaveScars 2 rfl) 7 rfl fd_C_Stage_51_30 ?_
  refine kw_astore (L' := [some (kr 43), some (ki x1), some (ki x2), some (ki x3), some (kr 31)]) C (kdec dc_Stage_leaveScars 3 rfl) 9 rfl (by decide) rfl rfl ?_
  refine kw_aload C (kdec dc_Stage_leaveScars 4 rfl) 11 rfl rfl ?_
  refine kw_bipush (v := 9) C (kdec dc_Stage_leaveScars 5 rfl) 13 rfl (by decide) ⟨by decide, by decide⟩ ?_
  refine kw_iload_n C (kdec dc_Stage_leaveScars 6 rfl) rfl 14 rfl rfl ?_
  refine kw_iadd C (kdec dc_Stage_leaveScars 7 rfl) 15 rfl ?_
  refine kw_aload C (kdec dc_Stage_leaveScars 8 rfl) 17 rfl rfl ?_
  refine kw_bipush (v := 9) C (kdec dc_Stage_leaveScars 9 rfl) 19 rfl (by decide) ⟨by decide, by decide⟩ ?_
  refine kw_iload_n C (kdec dc_Stage_leaveScars 10 rfl) rfl 20 rfl rfl ?_
  refine kw_iadd C (kdec dc_Stage_leaveScars 11 rfl) 21 rfl ?_
  obtain ⟨hc_1, h⟩ := kchk_h h
  refine kw_iald C (kdec dc_Stage_leaveScars 12 rfl) 22 rfl rfl hc_1.1 hc_1.2 ?_
  refine kw_iload_n C (kdec dc_Stage_leaveScars 13 rfl) rfl 23 rfl rfl ?_
  refine kw_iadd C (kdec dc_Stage_leaveScars 14 rfl) 24 rfl ?_
  refine kw_bipush (v := 99) C (kdec dc_Stage_leaveScars 15 rfl) 26 rfl (by decide) ⟨by decide, by decide⟩ ?_
  refine kw_min C (kdec dc_Stage_leaveScars 16 rfl) 29 rfl cm_Stage_46 ⟨Nat.le_of_ble_eq_true rfl, Nat.le_of_ble_eq_true rfl⟩ ⟨Nat.zero_le _, Nat.zero_le _⟩ (Nat.le_of_ble_eq_true rfl) ?_
  obtain ⟨hc_2, h⟩ := kchk_h h
  obtain ⟨σ_3, eσ_3, h⟩ := klet_h h
  refine kw_iast C (kdec dc_Stage_leaveScars 17 rfl) 30 rfl rfl hc_2.1 hc_2.2 ?_
  refine kw_sig eσ_3 ?_
  refine kw_aload C (kdec dc_Stage_leaveScars 18 rfl) 32 rfl rfl ?_
  refine kw_bipush (v := 17) C (kdec dc_Stage_leaveScars 19 rfl) 34 rfl (by decide) ⟨by decide, by decide⟩ ?_
  refine kw_iload_n C (kdec dc_Stage_leaveScars 20 rfl) rfl 35 rfl rfl ?_
  refine kw_bipush (v := 8) C (kdec dc_Stage_leaveScars 21 rfl) 37 rfl (by decide) ⟨by decide, by decide⟩ ?_
  refine kw_imul C (kdec dc_Stage_leaveScars 22 rfl) 38 rfl ?_
  refine kw_iadd C (kdec dc_Stage_leaveScars 23 rfl) 39 rfl ?_
  refine kw_iload_n C (kdec dc_Stage_leaveScars 24 rfl) rfl 40 rfl rfl ?_
  refine kw_iadd C (kdec dc_Stage_leaveScars 25 rfl) 41 rfl ?_
  obtain ⟨y_4, ey_4, h⟩ := klet_h h
  refine kw_top ey_4 ?_
  refine kw_dup2 C (kdec dc_Stage_leaveScars 26 rfl) 42 rfl rfl rfl ?_
  obtain ⟨hc_5, h⟩ := kchk_h h
  refine kw_iald C (kdec dc_Stage_leaveScars 27 rfl) 43 rfl rfl hc_5.1 hc_5.2 ?_
  refine kw_iconst C (kdec dc_Stage_leaveScars 28 rfl) 44 rfl rfl ⟨by decide, by decide⟩ ?_
  refine kw_iadd C (kdec dc_Stage_leaveScars 29 rfl) 45 rfl ?_
  obtain ⟨hc_6, h⟩ := kchk_h h
  obtain ⟨σ_7, eσ_7, h⟩ := klet_h h
  refine kw_iast C (kdec dc_Stage_leaveScars 30 rfl) 46 rfl rfl hc_6.1 hc_6.2 ?_
  refine kw_sig eσ_7 ?_
  refine kw_aload_n C (kdec dc_Stage_leaveScars 31 rfl) rfl 47 rfl rfl ?_
  refine kw_getR C (kdec dc_Stage_leaveScars 32 rfl) 50 rfl fd_C_Stage_12_43 ?_
  refine kw_iload_n C (kdec dc_Stage_leaveScars 33 rfl) rfl 51 rfl rfl ?_
  refine kw_iload_n C (kdec dc_Stage_leaveScars 34 rfl) rfl 52 rfl rfl ?_
  refine kw_iload_n C (kdec dc_Stage_leaveScars 35 rfl) rfl 53 rfl rfl ?_
  obtain ⟨σ_8, hg_9, h⟩ := kbind_h h
  refine kw_callV (As := [ki x1, ki x2, ki x3]) C (kdec dc_Stage_leaveScars 36 rfl) 56 rfl cv_Stage_133 rfl rfl (mt_pf_Tally_addHit_44 l0 hg_9) ⟨rfl, rfl⟩ ⟨Nat.le_of_ble_eq_true rfl, Nat.le_of_ble_eq_true rfl⟩ ⟨Nat.zero_le _, Nat.zero_le _⟩ rfl (Nat.le_of_ble_eq_true rfl) ?_
  change KW x 0 0 Q σ_8 56 [some (kr 43), some (ki x1), some (ki x2), some (ki x3), some (kr 31)] []
  obtain rfl := Option.some.inj h
  exact kw_Q (hR _ rfl) (kw_return C (kdec dc_Stage_leaveScars 37 rfl))
theorem mt_pf_Stage_leaveScars_43 (l0 : Launch) {σ : kM} {x1 : Int} {x2 : Int} {x3 : Int} {τ : kM} (h : pf_Stage_leaveScars_43 σ x1 x2 x3 = some τ) : kMet l0 ky_Stage_leaveScars prog_8_method_10_code 5 none R0_pf_Stage_leaveScars_43 kcl yC σ [kr 43, ki x1, ki x2, ki x3] none τ := kMet.of' [some (kr 43), some (ki x1), some (ki x2), some (ki x3), none] (by decide) (Nat.le_of_ble_eq_true rfl) ⟨rfl, rfl, rfl, rfl, trivial⟩ (fun x C => bd_pf_Stage_leaveScars_43 C σ x1 x2 x3 h (fun τ e => by subst e; rfl))
def R0_pf_Law_behind_3 : Room := ({ frames := 0, cells := 0, slots := 0, locals := 0 } : Room)
def pf_Law_behind_3 (σ : kM) (x1 : Int) (x2 : Int) : Option (Int) :=
  kchk (0 ≤ x1 ∧ x1 < 4) <|
  if (σ 4 x1.toNat) ≤ (w32 (x2 + 1)) then
    some 0
  else
    some (w32 (x2 + 1))
set_option maxHeartbeats 4000000 in
theorem bd_pf_Law_behind_3 {x : kX} {l0 : Launch} {Q : State → Prop} (C : kCx x prog_4_method_8_code "PoetFines$Law" (some .int) kcl yC 3 l0 R0_pf_Law_behind_3) (σ : kM) (x1 : Int) (x2 : Int) {out : Int} (h : pf_Law_behind_3 σ x1 x2 = some out) (hR : ∀ (r : Int), out = r → Q = kQ x (some (ki r)) σ 0 0) : KW x 0 0 Q σ 0 [some (kr 3), some (ki x1), some (ki x2)] [] := by
  unfold pf_Law_behind_3 at h
  refine kw_iload_n C (kdec dc_Law_behind 0 rfl) rfl 1 rfl rfl ?_
  refine kw_iconst C (kdec dc_Law_behind 1 rfl) 2 rfl rfl ⟨by decide, by decide⟩ ?_
  refine kw_iadd C (kdec dc_Law_behind 2 rfl) 3 rfl ?_
  refine kw_aload_n C (kdec dc_Law_behind 3 rfl) rfl 4 rfl rfl ?_
  refine kw_getR C (kdec dc_Law_behind 4 rfl) 7 rfl fd_C_Law_21_3 ?_
  refine kw_iload_n C (kdec dc_Law_behind 5 rfl) rfl 8 rfl rfl ?_
  obtain ⟨hc_1, h⟩ := kchk_h h
  refine kw_iald C (kdec dc_Law_behind 6 rfl) 9 rfl rfl hc_1.1 hc_1.2 ?_
  refine kw_icmp_ge C (kdec dc_Law_behind 7 rfl) 18 12 (by decide) rfl (fun hc9 => ?_) (fun hc9 => ?_)
  · rw [if_pos hc9] at h
    refine kw_iconst C (kdec dc_Law_behind 12 rfl) 19 rfl rfl ⟨by decide, by decide⟩ ?_
    obtain rfl := Option.some.inj h
    exact kw_Q (hR _ rfl) (kw_ireturn C (kdec dc_Law_behind 13 rfl))
  · rw [if_neg hc9] at h
    refine kw_iload_n C (kdec dc_Law_behind 8 rfl) rfl 13 rfl rfl ?_
    refine kw_iconst C (kdec dc_Law_behind 9 rfl) 14 rfl rfl ⟨by decide, by decide⟩ ?_
    refine kw_iadd C (kdec dc_Law_behind 10 rfl) 15 rfl ?_
    refine kw_goto C (kdec dc_Law_behind 11 rfl) 19 (by decide) ?_
    obtain rfl := Option.some.inj h
    exact kw_Q (hR _ rfl) (kw_ireturn C (kdec dc_Law_behind 13 rfl))
theorem mt_pf_Law_behind_3 (l0 : Launch) {σ : kM} {x1 : Int} {x2 : Int} {r : Int} (h : pf_Law_behind_3 σ x1 x2 = some r) : kMet l0 ky_Law_behind prog_4_method_8_code 3 (some .int) R0_pf_Law_behind_3 kcl yC σ [kr 3, ki x1, ki x2] (some (ki r)) σ := kMet.of' [some (kr 3), some (ki x1), some (ki x2)] (by decide) (Nat.le_of_ble_eq_true rfl) ⟨rfl, rfl, rfl, trivial⟩ (fun x C => bd_pf_Law_behind_3 C σ x1 x2 h (fun r e => by subst e; rfl))
def R0_pf_Stage_turnPage_43 : Room := ({ frames := 1, cells := 0, slots := 0, locals := 22 } : Room)
def pf_Stage_turnPage_43 (σ : kM) (x1 : Int) : Option (kM) :=
  kchk (0 ≤ (w32 (53 + x1)) ∧ (w32 (53 + x1)) < 85) <|
  (pf_Law_behind_3 σ x1 (σ 31 (w32 (53 + x1)).toNat)).bind fun r_2 =>
  kchk (0 ≤ (w32 (53 + x1)) ∧ (w32 (53 + x1)) < 85) <|
  klet (kst σ 31 (kup (σ 31) ((w32 (53 + x1)).toNat) r_2)) fun σ_4 =>
  some σ_4
set_option maxHeartbeats 4000000 in
theorem bd_pf_Stage_turnPage_43 {x : kX} {l0 : Launch} {Q : State → Prop} (C : kCx x prog_8_method_5_code "PoetFines$Stage" none kcl yC 2 l0 R0_pf_Stage_turnPage_43) (σ : kM) (x1 : Int) {out : kM} (h : pf_Stage_turnPage_43 σ x1 = some out) (hR : ∀ (τ : kM), out = τ → Q = kQ x none τ 0 0) : KW x 0 0 Q σ 0 [some (kr 43), some (ki x1)] [] := by
  unfold pf_Stage_turnPage_43 at h
  refine kw_aload_n C (kdec dc_Stage_turnPage 0 rfl) rfl 1 rfl rfl ?_
  refine kw_getR C (kdec dc_Stage_turnPage 1 rfl) 4 rfl fd_C_Stage_28_43 ?_
  refine kw_getR C (kdec dc_Stage_turnPage 2 rfl) 7 rfl fd_C_Stage_51_30 ?_
  refine kw_bipush (v := 53) C (kdec dc_Stage_turnPage 3 rfl) 9 rfl (by decide) ⟨by decide, by decide⟩ ?_
  refine kw_iload_n C (kdec dc_Stage_turnPage 4 rfl) rfl 10 rfl rfl ?_
  refine kw_iadd C (kdec dc_Stage_turnPage 5 rfl) 11 rfl ?_
  refine kw_aload_n C (kdec dc_Stage_turnPage 6 rfl) rfl 12 rfl rfl ?_
  refine kw_getR C (kdec dc_Stage_turnPage 7 rfl) 15 rfl fd_C_Stage_24_43 ?_
  refine kw_iload_n C (kdec dc_Stage_turnPage 8 rfl) rfl 16 rfl rfl ?_
  refine kw_aload_n C (kdec dc_Stage_turnPage 9 rfl) rfl 17 rfl rfl ?_
  refine kw_getR C (kdec dc_Stage_turnPage 10 rfl) 20 rfl fd_C_Stage_28_43 ?_
  refine kw_getR C (kdec dc_Stage_turnPage 11 rfl) 23 rfl fd_C_Stage_51_30 ?_
  refine kw_bipush (v := 53) C (kdec dc_Stage_turnPage 12 rfl) 25 rfl (by decide) ⟨by decide, by decide⟩ ?_
  refine kw_iload_n C (kdec dc_Stage_turnPage 13 rfl) rfl 26 rfl rfl ?_
  refine kw_iadd C (kdec dc_Stage_turnPage 14 rfl) 27 rfl ?_
  obtain ⟨hc_1, h⟩ := kchk_h h
  refine kw_iald C (kdec dc_Stage_turnPage 15 rfl) 28 rfl rfl hc_1.1 hc_1.2 ?_
  obtain ⟨r_2, hg_5, h⟩ := kbind_h h
  refine kw_callV (As := [ki x1, ki (σ 31 (w32 (53 + x1)).toNat)]) C (kdec dc_Stage_turnPage 16 rfl) 31 rfl cv_Stage_88 rfl rfl (mt_pf_Law_behind_3 l0 hg_5) ⟨rfl, rfl⟩ ⟨Nat.le_of_ble_eq_true rfl, Nat.le_of_ble_eq_true rfl⟩ ⟨Nat.zero_le _, Nat.zero_le _⟩ rfl (Nat.le_of_ble_eq_true rfl) ?_
  change KW x 0 0 Q σ 31 [some (kr 43), some (ki x1)] [ki r_2, ki (w32 (53 + x1)), kr 31]
  obtain ⟨hc_3, h⟩ := kchk_h h
  obtain ⟨σ_4, eσ_4, h⟩ := klet_h h
  refine kw_iast C (kdec dc_Stage_turnPage 17 rfl) 32 rfl rfl hc_3.1 hc_3.2 ?_
  refine kw_sig eσ_4 ?_
  obtain rfl := Option.some.inj h
  exact kw_Q (hR _ rfl) (kw_return C (kdec dc_Stage_turnPage 18 rfl))
theorem mt_pf_Stage_turnPage_43 (l0 : Launch) {σ : kM} {x1 : Int} {τ : kM} (h : pf_Stage_turnPage_43 σ x1 = some τ) : kMet l0 ky_Stage_turnPage prog_8_method_5_code 2 none R0_pf_Stage_turnPage_43 kcl yC σ [kr 43, ki x1] none τ := kMet.of' [some (kr 43), some (ki x1)] (by decide) (Nat.le_of_ble_eq_true rfl) ⟨rfl, rfl, trivial⟩ (fun x C => bd_pf_Stage_turnPage_43 C σ x1 h (fun τ e => by subst e; rfl))
def R0_pf_Stage_readNext_43 : Room := ({ frames := 3, cells := 0, slots := 0, locals := 72 } : Room)
def pf_Stage_readNext_43_l50_j120 (σ : kM) (x1 : Int) (x3 : Int) (x4 : Int) (x5 : Int) (x6 : Int) (x7 : Int) : Option ((kM × Int × Int) ⊕ ((kM × Int))) :=
  klet (w32 (x7 + 1)) fun x7_7 =>
  some (Sum.inl (σ, x6, x7_7))
set_option maxHeartbeats 4000000 in
theorem bd_pf_Stage_readNext_43_l50_j120 {x : kX} {l0 : Launch} {Q : State → Prop} (C : kCx x prog_8_method_8_code "PoetFines$Stage" none kcl yC 10 l0 R0_pf_Stage_readNext_43) (σ : kM) (x1 : Int) (x3 : Int) (x4 : Int) (x5 : Int) (x6 : Int) (x7 : Int) {out : (kM × Int × Int) ⊕ ((kM × Int))} (h : pf_Stage_readNext_43_l50_j120 σ x1 x3 x4 x5 x6 x7 = some out) (hC : ∀ (σ' : kM) (x6' : Int) (x7' : Int), out = Sum.inl (σ', x6', x7') → KW x 0 0 Q σ' 50 [some (kr 43), some (ki x1), none, some (ki x3), some (ki x4), some (ki x5), some (ki x6'), some (ki x7'), none, none] []) (hX126 : ∀ (σ' : kM) (x6' : Int), out = Sum.inr (σ', x6') → KW x 0 0 Q σ' 126 [some (kr 43), some (ki x1), none, none, none, none, some (ki x6'), none, none, none] []) : KW x 0 0 Q σ 120 [some (kr 43), some (ki x1), none, some (ki x3), some (ki x4), some (ki x5), some (ki x6), some (ki x7), none, none] [] := by
  unfold pf_Stage_readNext_43_l50_j120 at h
  obtain ⟨x7_7, ex7_7, h⟩ := klet_h h
  refine kw_iinc (L' := [some (kr 43), some (ki x1), none, some (ki x3), some (ki x4), some (ki x5), some (ki x6), some (ki x7_7), none, none]) C (kdec dc_Stage_readNext 64 rfl) 123 rfl rfl (by decide) rfl (by rw [ex7_7]; rfl) ?_
  refine kw_goto C (kdec dc_Stage_readNext 65 rfl) 50 (by decide) ?_
  obtain rfl := Option.some.inj h
  exact (hC _ _ _ rfl)
def pf_Stage_readNext_43_l50 (σ : kM) (x1 : Int) (x3 : Int) (x4 : Int) (x5 : Int) (x6 : Int) (x7 : Int) : Option ((kM × Int × Int) ⊕ ((kM × Int))) :=
  if (σ 3 1) ≤ x7 then
    some (Sum.inr (σ, x6))
  else
    (pf_Stage_inchesInto_43 σ x1 x7 x4 x5).bind fun (r_5, σ_6) =>
    if r_5 ≤ 0 then
      pf_Stage_readNext_43_l50_j120 σ_6 x1 x3 x4 x5 x6 x7
    else
      (pf_Stage_fineFor_43 σ_6 x1 x7 x3 r_5).bind fun (r_8, σ_9) =>
      (pf_Stage_payFine_43 σ_9 x1 x7 r_8).bind fun (r_10, σ_11) =>
      klet (max x6 (w32 (r_8 - r_10))) fun x6_12 =>
      (pf_Stage_leaveScars_43 σ_11 x1 x7 r_5).bind fun σ_13 =>
      pf_Stage_readNext_43_l50_j120 σ_13 x1 x3 x4 x5 x6_12 x7
set_option maxHeartbeats 4000000 in
theorem bd_pf_Stage_readNext_43_l50 {x : kX} {l0 : Launch} {Q : State → Prop} (C : kCx x prog_8_method_8_code "PoetFines$Stage" none kcl yC 10 l0 R0_pf_Stage_readNext_43) (σ : kM) (x1 : Int) (x3 : Int) (x4 : Int) (x5 : Int) (x6 : Int) (x7 : Int) {out : (kM × Int × Int) ⊕ ((kM × Int))} (h : pf_Stage_readNext_43_l50 σ x1 x3 x4 x5 x6 x7 = some out) (hC : ∀ (σ' : kM) (x6' : Int) (x7' : Int), out = Sum.inl (σ', x6', x7') → KW x 0 0 Q σ' 50 [some (kr 43), some (ki x1), none, some (ki x3), some (ki x4), some (ki x5), some (ki x6'), some (ki x7'), none, none] []) (hX126 : ∀ (σ' : kM) (x6' : Int), out = Sum.inr (σ', x6') → KW x 0 0 Q σ' 126 [some (kr 43), some (ki x1), none, none, none, none, some (ki x6'), none, none, none] []) : KW x 0 0 Q σ 50 [some (kr 43), some (ki x1), none, some (ki x3), some (ki x4), some (ki x5), some (ki x6), some (ki x7), none, none] [] := by
  unfold pf_Stage_readNext_43_l50 at h
  refine kw_iload C (kdec dc_Stage_readNext 28 rfl) 52 rfl rfl ?_
  refine kw_aload_n C (kdec dc_Stage_readNext 29 rfl) rfl 53 rfl rfl ?_
  refine kw_getR C (kdec dc_Stage_readNext 30 rfl) 56 rfl fd_C_Stage_24_43 ?_
  refine kw_getI C (kdec dc_Stage_readNext 31 rfl) 59 rfl fd_C_Stage_91_3 ?_
  refine kw_icmp_ge C (kdec dc_Stage_readNext 32 rfl) 126 62 (by decide) rfl (fun hc59 => ?_) (fun hc59 => ?_)
  · rw [if_pos hc59] at h
    obtain rfl := Option.some.inj h
    exact kw_sub (L' := [some (kr 43), some (ki x1), none, none, none, none, some (ki x6), none, none, none]) ⟨rfl, rfl, rfl, trivial⟩ (hX126 _ _ rfl)
  · rw [if_neg hc59] at h
    refine kw_aload_n C (kdec dc_Stage_readNext 33 rfl) rfl 63 rfl rfl ?_
    refine kw_iload_n C (kdec dc_Stage_readNext 34 rfl) rfl 64 rfl rfl ?_
    refine kw_iload C (kdec dc_Stage_readNext 35 rfl) 66 rfl rfl ?_
    refine kw_iload C (kdec dc_Stage_readNext 36 rfl) 68 rfl rfl ?_
    refine kw_iload C (kdec dc_Stage_readNext 37 rfl) 70 rfl rfl ?_
    obtain ⟨⟨r_5, σ_6⟩, hg_17, h⟩ := kbind_h h
    dsimp only at h
    refine kw_callV (As := [ki x1, ki x7, ki x4, ki x5]) C (kdec dc_Stage_readNext 38 rfl) 73 rfl cv_Stage_107 rfl rfl (mt_pf_Stage_inchesInto_43 l0 hg_17) ⟨rfl, rfl⟩ ⟨Nat.le_of_ble_eq_true rfl, Nat.le_of_ble_eq_true rfl⟩ ⟨Nat.zero_le _, Nat.zero_le _⟩ rfl (Nat.le_of_ble_eq_true rfl) ?_
    change KW x 0 0 Q σ_6 73 [some (kr 43), some (ki x1), none, some (ki x3), some (ki x4), some (ki x5), some (ki x6), some (ki x7), none, none] [ki r_5]
    refine kw_istore (L' := [some (kr 43), some (ki x1), none, some (ki x3), some (ki x4), some (ki x5), some (ki x6), some (ki x7), some (ki r_5), none]) C (kdec dc_Stage_readNext 39 rfl) 75 rfl (by decide) rfl rfl ?_
    refine kw_iload C (kdec dc_Stage_readNext 40 rfl) 77 rfl rfl ?_
    refine kw_if_le C (kdec dc_Stage_readNext 41 rfl) 120 80 (by decide) rfl (fun hc77 => ?_) (fun hc77 => ?_)
    · rw [if_pos hc77] at h
      exact kw_sub (L' := [some (kr 43), some (ki x1), none, some (ki x3), some (ki x4), some (ki x5), some (ki x6), some (ki x7), none, none]) ⟨rfl, rfl, rfl, rfl, rfl, rfl, rfl, trivial⟩ (bd_pf_Stage_readNext_43_l50_j120 C σ_6 x1 x3 x4 x5 x6 x7 h hC hX126)
    · rw [if_neg hc77] at h
      refine kw_aload_n C (kdec dc_Stage_readNext 42 rfl) rfl 81 rfl rfl ?_
      refine kw_iload_n C (kdec dc_Stage_readNext 43 rfl) rfl 82 rfl rfl ?_
      refine kw_iload C (kdec dc_Stage_readNext 44 rfl) 84 rfl rfl ?_
      refine kw_iload_n C (kdec dc_Stage_readNext 45 rfl) rfl 85 rfl rfl ?_
      refine kw_iload C (kdec dc_Stage_readNext 46 rfl) 87 rfl rfl ?_
      obtain ⟨⟨r_8, σ_9⟩, hg_16, h⟩ := kbind_h h
      dsimp only at h
      refine kw_callV (As := [ki x1, ki x7, ki x3, ki r_5]) C (kdec dc_Stage_readNext 47 rfl) 90 rfl cv_Stage_111 rfl rfl (mt_pf_Stage_fineFor_43 l0 hg_16) ⟨rfl, rfl⟩ ⟨Nat.le_of_ble_eq_true rfl, Nat.le_of_ble_eq_true rfl⟩ ⟨Nat.zero_le _, Nat.zero_le _⟩ rfl (Nat.le_of_ble_eq_true rfl) ?_
      change KW x 0 0 Q σ_9 90 [some (kr 43), some (ki x1), none, some (ki x3), some (ki x4), some (ki x5), some (ki x6), some (ki x7), some (ki r_5), none] [ki r_8]
      refine kw_istore (L' := [some (kr 43), some (ki x1), none, some (ki x3), some (ki x4), some (ki x5), some (ki x6), some (ki x7), some (ki r_5), some (ki r_8)]) C (kdec dc_Stage_readNext 48 rfl) 92 rfl (by decide) rfl rfl ?_
      refine kw_iload C (kdec dc_Stage_readNext 49 rfl) 94 rfl rfl ?_
      refine kw_iload C (kdec dc_Stage_readNext 50 rfl) 96 rfl rfl ?_
      refine kw_aload_n C (kdec dc_Stage_readNext 51 rfl) rfl 97 rfl rfl ?_
      refine kw_iload_n C (kdec dc_Stage_readNext 52 rfl) rfl 98 rfl rfl ?_
      refine kw_iload C (kdec dc_Stage_readNext 53 rfl) 100 rfl rfl ?_
      refine kw_iload C (kdec dc_Stage_readNext 54 rfl) 102 rfl rfl ?_
      obtain ⟨⟨r_10, σ_11⟩, hg_15, h⟩ := kbind_h h
      dsimp only at h
      refine kw_callV (As := [ki x1, ki x7, ki r_8]) C (kdec dc_Stage_readNext 55 rfl) 105 rfl cv_Stage_114 rfl rfl (mt_pf_Stage_payFine_43 l0 hg_15) ⟨rfl, rfl⟩ ⟨Nat.le_of_ble_eq_true rfl, Nat.le_of_ble_eq_true rfl⟩ ⟨Nat.zero_le _, Nat.zero_le _⟩ rfl (Nat.le_of_ble_eq_true rfl) ?_
      change KW x 0 0 Q σ_11 105 [some (kr 43), some (ki x1), none, some (ki x3), some (ki x4), some (ki x5), some (ki x6), some (ki x7), some (ki r_5), some (ki r_8)] [ki r_10, ki r_8, ki x6]
      refine kw_isub C (kdec dc_Stage_readNext 56 rfl) 106 rfl ?_
      refine kw_max C (kdec dc_Stage_readNext 57 rfl) 109 rfl cm_Stage_118 ⟨Nat.le_of_ble_eq_true rfl, Nat.le_of_ble_eq_true rfl⟩ ⟨Nat.zero_le _, Nat.zero_le _⟩ (Nat.le_of_ble_eq_true rfl) ?_
      obtain ⟨x6_12, ex6_12, h⟩ := klet_h h
      refine kw_top ex6_12 ?_
      refine kw_istore (L' := [some (kr 43), some (ki x1), none, some (ki x3), some (ki x4), some (ki x5), some (ki x6_12), some (ki x7), some (ki r_5), some (ki r_8)]) C (kdec dc_Stage_readNext 58 rfl) 111 rfl (by decide) rfl rfl ?_
      refine kw_aload_n C (kdec dc_Stage_readNext 59 rfl) rfl 112 rfl rfl ?_
      refine kw_iload_n C (kdec dc_Stage_readNext 60 rfl) rfl 113 rfl rfl ?_
      refine kw_iload C (kdec dc_Stage_readNext 61 rfl) 115 rfl rfl ?_
      refine kw_iload C (kdec dc_Stage_readNext 62 rfl) 117 rfl rfl ?_
      obtain ⟨σ_13, hg_14, h⟩ := kbind_h h
      refine kw_callV (As := [ki x1, ki x7, ki r_5]) C (kdec dc_Stage_readNext 63 rfl) 120 rfl cv_Stage_121 rfl rfl (mt_pf_Stage_leaveScars_43 l0 hg_14) ⟨rfl, rfl⟩ ⟨Nat.le_of_ble_eq_true rfl, Nat.le_of_ble_eq_true rfl⟩ ⟨Nat.zero_le _, Nat.zero_le _⟩ rfl (Nat.le_of_ble_eq_true rfl) ?_
      change KW x 0 0 Q σ_13 120 [some (kr 43), some (ki x1), none, some (ki x3), some (ki x4), some (ki x5), some (ki x6_12), some (ki x7), some (ki r_5), some (ki r_8)] []
      exact kw_sub (L' := [some (kr 43), some (ki x1), none, some (ki x3), some (ki x4), some (ki x5), some (ki x6_12), some (ki x7), none, none]) ⟨rfl, rfl, rfl, rfl, rfl, rfl, rfl, trivial⟩ (bd_pf_Stage_readNext_43_l50_j120 C σ_13 x1 x3 x4 x5 x6_12 x7 h hC hX126)
theorem lp_pf_Stage_readNext_43_l50 {x : kX} {l0 : Launch} {Q : State → Prop} (C : kCx x prog_8_method_8_code "PoetFines$Stage" none kcl yC 10 l0 R0_pf_Stage_readNext_43) (x1 : Int) (x3 : Int) (x4 : Int) (x5 : Int) {ex : (kM × Int)} (hX126 : ∀ (σ' : kM) (x6' : Int), ex = (σ', x6') → KW x 0 0 Q σ' 126 [some (kr 43), some (ki x1), none, none, none, none, some (ki x6'), none, none, none] []) (n : Nat) (σ : kM) (x6 : Int) (x7 : Int) (h : kloop (fun st => pf_Stage_readNext_43_l50 st.1 x1 x3 x4 x5 st.2.1 st.2.2) n (σ, x6, x7) = some ex) : KW x 0 0 Q σ 50 [some (kr 43), some (ki x1), none, some (ki x3), some (ki x4), some (ki x5), some (ki x6), some (ki x7), none, none] [] :=
  kloop_ind (P := (fun st : kM × Int × Int => KW x 0 0 Q st.1 50 [some (kr 43), some (ki x1), none, some (ki x3), some (ki x4), some (ki x5), some (ki (st.2.1)), some (ki (st.2.2)), none, none] [])) (fun st out hb hc hx => bd_pf_Stage_readNext_43_l50 C st.1 x1 x3 x4 x5 st.2.1 st.2.2 hb (fun a0 a1 a2 e => hc _ e) (fun a0 a1 e => hX126 _ _ ((hx _ e).symm))) n (σ, x6, x7) h
def pf_Stage_readNext_43_j42 (σ : kM) (x1 : Int) (x3 : Int) (x4 : Int) (s0 : Int) : Option (kM) :=
  (kloop (fun st => pf_Stage_readNext_43_l50 st.1 x1 x3 x4 s0 st.2.1 st.2.2) kFuel (σ, 0, 0)).bind fun (σ_20, x6_21) =>
  kchk (0 ≤ (w32 (57 + x1)) ∧ (w32 (57 + x1)) < 85) <|
  klet (kst σ_20 31 (kup (σ_20 31) ((w32 (57 + x1)).toNat) (min x6_21 9))) fun σ_23 =>
  kchk (0 ≤ x1 ∧ x1 < 4) <|
  kchk (0 ≤ x1 ∧ x1 < 4) <|
  klet (kst σ_23 47 (kup (σ_23 47) x1.toNat (w32 ((σ_23 47 x1.toNat) + 1)))) fun σ_26 =>
  (pf_Stage_turnPage_43 σ_26 x1).bind fun σ_27 =>
  some σ_27
set_option maxHeartbeats 4000000 in
theorem bd_pf_Stage_readNext_43_j42 {x : kX} {l0 : Launch} {Q : State → Prop} (C : kCx x prog_8_method_8_code "PoetFines$Stage" none kcl yC 10 l0 R0_pf_Stage_readNext_43) (σ : kM) (x1 : Int) (x3 : Int) (x4 : Int) (s0 : Int) {out : kM} (h : pf_Stage_readNext_43_j42 σ x1 x3 x4 s0 = some out) (hR : ∀ (τ : kM), out = τ → Q = kQ x none τ 0 0) : KW x 0 0 Q σ 42 [some (kr 43), some (ki x1), none, some (ki x3), some (ki x4), none, none, none, none, none] [ki s0] := by
  unfold pf_Stage_readNext_43_j42 at h
  refine kw_istore (L' := [some (kr 43), some (ki x1), none, some (ki x3), some (ki x4), some (ki s0), none, none, none, none]) C (kdec dc_Stage_readNext 23 rfl) 44 rfl (by decide) rfl rfl ?_
  refine kw_iconst C (kdec dc_Stage_readNext 24 rfl) 45 rfl rfl ⟨by decide, by decide⟩ ?_
  refine kw_istore (L' := [some (kr 43), some (ki x1), none, some (ki x3), some (ki x4), some (ki s0), some (ki 0), none, none, none]) C (kdec dc_Stage_readNext 25 rfl) 47 rfl (by decide) rfl rfl ?_
  refine kw_iconst C (kdec dc_Stage_readNext 26 rfl) 48 rfl rfl ⟨by decide, by decide⟩ ?_
  refine kw_istore (L' := [some (kr 43), some (ki x1), none, some (ki x3), some (ki x4), some (ki s0), some (ki 0), some (ki 0), none, none]) C (kdec dc_Stage_readNext 27 rfl) 50 rfl (by decide) rfl rfl ?_
  obtain ⟨ex_18, hl_19, h⟩ := kbind_h h
  refine lp_pf_Stage_readNext_43_l50 C x1 x3 x4 s0 ?_ kFuel σ 0 0 hl_19
  · intro σ_20 x6_21 e
    subst ex_18
    try dsimp only at h
    refine kw_aload_n C (kdec dc_Stage_readNext 66 rfl) rfl 127 rfl rfl ?_
    refine kw_getR C (kdec dc_Stage_readNext 67 rfl) 130 rfl fd_C_Stage_28_43 ?_
    refine kw_getR C (kdec dc_Stage_readNext 68 rfl) 133 rfl fd_C_Stage_51_30 ?_
    refine kw_bipush (v := 57) C (kdec dc_Stage_readNext 69 rfl) 135 rfl (by decide) ⟨by decide, by decide⟩ ?_
    refine kw_iload_n C (kdec dc_Stage_readNext 70 rfl) rfl 136 rfl rfl ?_
    refine kw_iadd C (kdec dc_Stage_readNext 71 rfl) 137 rfl ?_
    refine kw_iload C (kdec dc_Stage_readNext 72 rfl) 139 rfl rfl ?_
    refine kw_bipush (v := 9) C (kdec dc_Stage_readNext 73 rfl) 141 rfl (by decide) ⟨by decide, by decide⟩ ?_
    refine kw_min C (kdec dc_Stage_readNext 74 rfl) 144 rfl cm_Stage_46 ⟨Nat.le_of_ble_eq_true rfl, Nat.le_of_ble_eq_true rfl⟩ ⟨Nat.zero_le _, Nat.zero_le _⟩ (Nat.le_of_ble_eq_true rfl) ?_
    obtain ⟨hc_22, h⟩ := kchk_h h
    obtain ⟨σ_23, eσ_23, h⟩ := klet_h h
    refine kw_iast C (kdec dc_Stage_readNext 75 rfl) 145 rfl rfl hc_22.1 hc_22.2 ?_
    refine kw_sig eσ_23 ?_
    refine kw_aload_n C (kdec dc_Stage_readNext 76 rfl) rfl 146 rfl rfl ?_
    refine kw_getR C (kdec dc_Stage_readNext 77 rfl) 149 rfl fd_C_Stage_12_43 ?_
    refine kw_getR C (kdec dc_Stage_readNext 78 rfl) 152 rfl fd_C_Stage_124_44 ?_
    refine kw_iload_n C (kdec dc_Stage_readNext 79 rfl) rfl 153 rfl rfl ?_
    refine kw_dup2 C (kdec dc_Stage_readNext 80 rfl) 154 rfl rfl rfl ?_
    obtain ⟨hc_24, h⟩ := kchk_h h
    refine kw_iald C (kdec dc_Stage_readNext 81 rfl) 155 rfl rfl hc_24.1 hc_24.2 ?_
    refine kw_iconst C (kdec dc_Stage_readNext 82 rfl) 156 rfl rfl ⟨by decide, by decide⟩ ?_
    refine kw_iadd C (kdec dc_Stage_readNext 83 rfl) 157 rfl ?_
    obtain ⟨hc_25, h⟩ := kchk_h h
    obtain ⟨σ_26, eσ_26, h⟩ := klet_h h
    refine kw_iast C (kdec dc_Stage_readNext 84 rfl) 158 rfl rfl hc_25.1 hc_25.2 ?_
    refine kw_sig eσ_26 ?_
    refine kw_aload_n C (kdec dc_Stage_readNext 85 rfl) rfl 159 rfl rfl ?_
    refine kw_iload_n C (kdec dc_Stage_readNext 86 rfl) rfl 160 rfl rfl ?_
    obtain ⟨σ_27, hg_28, h⟩ := kbind_h h
    refine kw_callV (As := [ki x1]) C (kdec dc_Stage_readNext 87 rfl) 163 rfl cv_Stage_127 rfl rfl (mt_pf_Stage_turnPage_43 l0 hg_28) ⟨rfl, rfl⟩ ⟨Nat.le_of_ble_eq_true rfl, Nat.le_of_ble_eq_true rfl⟩ ⟨Nat.zero_le _, Nat.zero_le _⟩ rfl (Nat.le_of_ble_eq_true rfl) ?_
    change KW x 0 0 Q σ_27 163 [some (kr 43), some (ki x1), none, none, none, none, some (ki x6_21), none, none, none] []
    obtain rfl := Option.some.inj h
    exact kw_Q (hR _ rfl) (kw_return C (kdec dc_Stage_readNext 88 rfl))
def pf_Stage_readNext_43 (σ : kM) (x1 : Int) (x2 : Int) : Option (kM) :=
  kchk (0 ≤ (w32 (53 + x1)) ∧ (w32 (53 + x1)) < 85) <|
  klet (σ 31 (w32 (53 + x1)).toNat) fun x3_2 =>
  (pf_Law_topicOf_3 σ x1 x3_2).bind fun r_3 =>
  if x2 = 0 then
    (pf_World_depthOf_30 σ x1 x3_2).bind fun r_4 =>
    pf_Stage_readNext_43_j42 σ x1 x3_2 r_3 r_4
  else
    pf_Stage_readNext_43_j42 σ x1 x3_2 r_3 9
set_option maxHeartbeats 4000000 in
theorem bd_pf_Stage_readNext_43 {x : kX} {l0 : Launch} {Q : State → Prop} (C : kCx x prog_8_method_8_code "PoetFines$Stage" none kcl yC 10 l0 R0_pf_Stage_readNext_43) (σ : kM) (x1 : Int) (x2 : Int) {out : kM} (h : pf_Stage_readNext_43 σ x1 x2 = some out) (hR : ∀ (τ : kM), out = τ → Q = kQ x none τ 0 0) : KW x 0 0 Q σ 0 [some (kr 43), some (ki x1), some (ki x2), none, none, none, none, none, none, none] [] := by
  unfold pf_Stage_readNext_43 at h
  refine kw_aload_n C (kdec dc_Stage_readNext 0 rfl) rfl 1 rfl rfl ?_
  refine kw_getR C (kdec dc_Stage_readNext 1 rfl) 4 rfl fd_C_Stage_28_43 ?_
  refine kw_getR C (kdec dc_Stage_readNext 2 rfl) 7 rfl fd_C_Stage_51_30 ?_
  refine kw_bipush (v := 53) C (kdec dc_Stage_readNext 3 rfl) 9 rfl (by decide) ⟨by decide, by decide⟩ ?_
  refine kw_iload_n C (kdec dc_Stage_readNext 4 rfl) rfl 10 rfl rfl ?_
  refine kw_iadd C (kdec dc_Stage_readNext 5 rfl) 11 rfl ?_
  obtain ⟨hc_1, h⟩ := kchk_h h
  refine kw_iald C (kdec dc_Stage_readNext 6 rfl) 12 rfl rfl hc_1.1 hc_1.2 ?_
  obtain ⟨x3_2, ex3_2, h⟩ := klet_h h
  refine kw_top ex3_2 ?_
  refine kw_istore_n (L' := [some (kr 43), some (ki x1), some (ki x2), some (ki x3_2), none, none, none, none, none, none]) C (kdec dc_Stage_readNext 7 rfl) rfl 13 rfl (by decide) rfl rfl ?_
  refine kw_aload_n C (kdec dc_Stage_readNext 8 rfl) rfl 14 rfl rfl ?_
  refine kw_getR C (kdec dc_Stage_readNext 9 rfl) 17 rfl fd_C_Stage_24_43 ?_
  refine kw_iload_n C (kdec dc_Stage_readNext 10 rfl) rfl 18 rfl rfl ?_
  refine kw_iload_n C (kdec dc_Stage_readNext 11 rfl) rfl 19 rfl rfl ?_
  obtain ⟨r_3, hg_30, h⟩ := kbind_h h
  refine kw_callV (As := [ki x1, ki x3_2]) C (kdec dc_Stage_readNext 12 rfl) 22 rfl cv_Stage_101 rfl rfl (mt_pf_Law_topicOf_3 l0 hg_30) ⟨rfl, rfl⟩ ⟨Nat.le_of_ble_eq_true rfl, Nat.le_of_ble_eq_true rfl⟩ ⟨Nat.zero_le _, Nat.zero_le _⟩ rfl (Nat.le_of_ble_eq_true rfl) ?_
  change KW x 0 0 Q σ 22 [some (kr 43), some (ki x1), some (ki x2), some (ki x3_2), none, none, none, none, none, none] [ki r_3]
  refine kw_istore (L' := [some (kr 43), some (ki x1), some (ki x2), some (ki x3_2), some (ki r_3), none, none, none, none, none]) C (kdec dc_Stage_readNext 13 rfl) 24 rfl (by decide) rfl rfl ?_
  refine kw_iload_n C (kdec dc_Stage_readNext 14 rfl) rfl 25 rfl rfl ?_
  refine kw_if_eq C (kdec dc_Stage_readNext 15 rfl) 33 28 (by decide) rfl (fun hc25 => ?_) (fun hc25 => ?_)
  · rw [if_pos hc25] at h
    refine kw_aload_n C (kdec dc_Stage_readNext 18 rfl) rfl 34 rfl rfl ?_
    refine kw_getR C (kdec dc_Stage_readNext 19 rfl) 37 rfl fd_C_Stage_28_43 ?_
    refine kw_iload_n C (kdec dc_Stage_readNext 20 rfl) rfl 38 rfl rfl ?_
    refine kw_iload_n C (kdec dc_Stage_readNext 21 rfl) rfl 39 rfl rfl ?_
    obtain ⟨r_4, hg_29, h⟩ := kbind_h h
    refine kw_callV (As := [ki x1, ki x3_2]) C (kdec dc_Stage_readNext 22 rfl) 42 rfl cv_Stage_104 rfl rfl (mt_pf_World_depthOf_30 l0 hg_29) ⟨rfl, rfl⟩ ⟨Nat.le_of_ble_eq_true rfl, Nat.le_of_ble_eq_true rfl⟩ ⟨Nat.zero_le _, Nat.zero_le _⟩ rfl (Nat.le_of_ble_eq_true rfl) ?_
    change KW x 0 0 Q σ 42 [some (kr 43), some (ki x1), some (ki x2), some (ki x3_2), some (ki r_3), none, none, none, none, none] [ki r_4]
    exact kw_sub (L' := [some (kr 43), some (ki x1), none, some (ki x3_2), some (ki r_3), none, none, none, none, none]) ⟨rfl, rfl, rfl, rfl, trivial⟩ (bd_pf_Stage_readNext_43_j42 C σ x1 x3_2 r_3 r_4 h hR)
  · rw [if_neg hc25] at h
    refine kw_bipush (v := 9) C (kdec dc_Stage_readNext 16 rfl) 30 rfl (by decide) ⟨by decide, by decide⟩ ?_
    refine kw_goto C (kdec dc_Stage_readNext 17 rfl) 42 (by decide) ?_
    exact kw_sub (L' := [some (kr 43), some (ki x1), none, some (ki x3_2), some (ki r_3), none, none, none, none, none]) ⟨rfl, rfl, rfl, rfl, trivial⟩ (bd_pf_Stage_readNext_43_j42 C σ x1 x3_2 r_3 9 h hR)
theorem mt_pf_Stage_readNext_43 (l0 : Launch) {σ : kM} {x1 : Int} {x2 : Int} {τ : kM} (h : pf_Stage_readNext_43 σ x1 x2 = some τ) : kMet l0 ky_Stage_readNext prog_8_method_8_code 10 none R0_pf_Stage_readNext_43 kcl yC σ [kr 43, ki x1, ki x2] none τ := kMet.of' [some (kr 43), some (ki x1), some (ki x2), none, none, none, none, none, none, none] (by decide) (Nat.le_of_ble_eq_true rfl) ⟨rfl, rfl, rfl, trivial⟩ (fun x C => bd_pf_Stage_readNext_43 C σ x1 x2 h (fun τ e => by subst e; rfl))
def R0_pf_Tally_closeYear_44 : Room := ({ frames := 0, cells := 0, slots := 0, locals := 0 } : Room)
def pf_Tally_closeYear_44_j30 (σ : kM) (s0 : Int) (s1 : Int) : Option (kM) :=
  klet (kst σ 44 (kup (σ 44) 9 (w32 (s1 + s0)))) fun σ_2 =>
  some σ_2
set_option maxHeartbeats 4000000 in
theorem bd_pf_Tally_closeYear_44_j30 {x : kX} {l0 : Launch} {Q : State → Prop} (C : kCx x prog_9_method_4_code "PoetFines$Tally" none kcl yC 1 l0 R0_pf_Tally_closeYear_44) (σ : kM) (s0 : Int) (s1 : Int) {out : kM} (h : pf_Tally_closeYear_44_j30 σ s0 s1 = some out) (hR : ∀ (τ : kM), out = τ → Q = kQ x none τ 0 0) : KW x 0 0 Q σ 30 [none] [ki s0, ki s1, kr 44] := by
  unfold pf_Tally_closeYear_44_j30 at h
  refine kw_iadd C (kdec dc_Tally_closeYear 16 rfl) 31 rfl ?_
  obtain ⟨σ_2, eσ_2, h⟩ := klet_h h
  refine kw_putI C (kdec dc_Tally_closeYear 17 rfl) 34 rfl fp_C_Tally_40_44 ?_
  refine kw_sig eσ_2 ?_
  obtain rfl := Option.some.inj h
  exact kw_Q (hR _ rfl) (kw_return C (kdec dc_Tally_closeYear 18 rfl))
def pf_Tally_closeYear_44 (σ : kM) : Option (kM) :=
  klet (kst σ 44 (kup (σ 44) 7 (kor (σ 44 7) (σ 44 6)))) fun σ_1 =>
  if (σ_1 44 6) = 0 then
    pf_Tally_closeYear_44_j30 σ_1 1 (σ_1 44 9)
  else
    pf_Tally_closeYear_44_j30 σ_1 0 (σ_1 44 9)
set_option maxHeartbeats 4000000 in
theorem bd_pf_Tally_closeYear_44 {x : kX} {l0 : Launch} {Q : State → Prop} (C : kCx x prog_9_method_4_code "PoetFines$Tally" none kcl yC 1 l0 R0_pf_Tally_closeYear_44) (σ : kM) {out : kM} (h : pf_Tally_closeYear_44 σ = some out) (hR : ∀ (τ : kM), out = τ → Q = kQ x none τ 0 0) : KW x 0 0 Q σ 0 [some (kr 44)] [] := by
  unfold pf_Tally_closeYear_44 at h
  refine kw_aload_n C (kdec dc_Tally_closeYear 0 rfl) rfl 1 rfl rfl ?_
  refine kw_dup C (kdec dc_Tally_closeYear 1 rfl) 2 rfl rfl ?_
  refine kw_getI C (kdec dc_Tally_closeYear 2 rfl) 5 rfl fd_C_Tally_34_44 ?_
  refine kw_aload_n C (kdec dc_Tally_closeYear 3 rfl) rfl 6 rfl rfl ?_
  refine kw_getI C (kdec dc_Tally_closeYear 4 rfl) 9 rfl fd_C_Tally_31_44 ?_
  refine kw_ior C (kdec dc_Tally_closeYear 5 rfl) 10 rfl ?_
  obtain ⟨σ_1, eσ_1, h⟩ := klet_h h
  refine kw_putI C (kdec dc_Tally_closeYear 6 rfl) 13 rfl fp_C_Tally_34_44 ?_
  refine kw_sig eσ_1 ?_
  refine kw_aload_n C (kdec dc_Tally_closeYear 7 rfl) rfl 14 rfl rfl ?_
  refine kw_dup C (kdec dc_Tally_closeYear 8 rfl) 15 rfl rfl ?_
  refine kw_getI C (kdec dc_Tally_closeYear 9 rfl) 18 rfl fd_C_Tally_40_44 ?_
  refine kw_aload_n C (kdec dc_Tally_closeYear 10 rfl) rfl 19 rfl rfl ?_
  refine kw_getI C (kdec dc_Tally_closeYear 11 rfl) 22 rfl fd_C_Tally_31_44 ?_
  refine kw_if_ne C (kdec dc_Tally_closeYear 12 rfl) 29 25 (by decide) rfl (fun hc22 => ?_) (fun hc22 => ?_)
  · rw [if_neg hc22] at h
    refine kw_iconst C (kdec dc_Tally_closeYear 15 rfl) 30 rfl rfl ⟨by decide, by decide⟩ ?_
    exact kw_sub (L' := [none]) trivial (bd_pf_Tally_closeYear_44_j30 C σ_1 0 (σ_1 44 9) h hR)
  · rw [if_pos hc22] at h
    refine kw_iconst C (kdec dc_Tally_closeYear 13 rfl) 26 rfl rfl ⟨by decide, by decide⟩ ?_
    refine kw_goto C (kdec dc_Tally_closeYear 14 rfl) 30 (by decide) ?_
    exact kw_sub (L' := [none]) trivial (bd_pf_Tally_closeYear_44_j30 C σ_1 1 (σ_1 44 9) h hR)
theorem mt_pf_Tally_closeYear_44 (l0 : Launch) {σ : kM} {τ : kM} (h : pf_Tally_closeYear_44 σ = some τ) : kMet l0 ky_Tally_closeYear prog_9_method_4_code 1 none R0_pf_Tally_closeYear_44 kcl yC σ [kr 44] none τ := kMet.of' [some (kr 44)] (by decide) (Nat.le_of_ble_eq_true rfl) ⟨rfl, trivial⟩ (fun x C => bd_pf_Tally_closeYear_44 C σ h (fun τ e => by subst e; rfl))
def R0_pf_Stage_passYear_43 : Room := ({ frames := 4, cells := 0, slots := 0, locals := 101 } : Room)
def pf_Stage_passYear_43_l10_j66 (σ : kM) (x1 : Int) (x2 : Int) : Option ((kM × Int) ⊕ ((kM))) :=
  klet (w32 (x2 + 1)) fun x2_5 =>
  some (Sum.inl (σ, x2_5))
set_option maxHeartbeats 4000000 in
theorem bd_pf_Stage_passYear_43_l10_j66 {x : kX} {l0 : Launch} {Q : State → Prop} (C : kCx x prog_8_method_4_code "PoetFines$Stage" none kcl yC 3 l0 R0_pf_Stage_passYear_43) (σ : kM) (x1 : Int) (x2 : Int) {out : (kM × Int) ⊕ ((kM))} (h : pf_Stage_passYear_43_l10_j66 σ x1 x2 = some out) (hC : ∀ (σ' : kM) (x2' : Int), out = Sum.inl (σ', x2') → KW x 0 0 Q σ' 10 [some (kr 43), some (ki x1), some (ki x2')] []) (hX72 : ∀ (σ' : kM), out = Sum.inr σ' → KW x 0 0 Q σ' 72 [some (kr 43), none, none] []) : KW x 0 0 Q σ 66 [some (kr 43), some (ki x1), some (ki x2)] [] := by
  unfold pf_Stage_passYear_43_l10_j66 at h
  obtain ⟨x2_5, ex2_5, h⟩ := klet_h h
  refine kw_iinc (L' := [some (kr 43), some (ki x1), some (ki x2_5)]) C (kdec dc_Stage_passYear 38 rfl) 69 rfl rfl (by decide) rfl (by rw [ex2_5]; rfl) ?_
  refine kw_goto C (kdec dc_Stage_passYear 39 rfl) 10 (by decide) ?_
  obtain rfl := Option.some.inj h
  exact (hC _ _ rfl)
def pf_Stage_passYear_43_l10 (σ : kM) (x1 : Int) (x2 : Int) : Option ((kM × Int) ⊕ ((kM))) :=
  if (σ 3 2) ≤ x2 then
    some (Sum.inr σ)
  else
    kchk (0 ≤ (w32 (57 + x2)) ∧ (w32 (57 + x2)) < 85) <|
    if (σ 31 (w32 (57 + x2)).toNat) ≤ 0 then
      (pf_Stage_sellVolumes_43 σ x2).bind fun σ_3 =>
      (pf_Stage_readNext_43 σ_3 x2 x1).bind fun σ_4 =>
      pf_Stage_passYear_43_l10_j66 σ_4 x1 x2
    else
      klet (w32 (57 + x2)) fun y_8 =>
      kchk (0 ≤ y_8 ∧ y_8 < 85) <|
      kchk (0 ≤ y_8 ∧ y_8 < 85) <|
      klet (kst σ 31 (kup (σ 31) y_8.toNat (w32 ((σ 31 y_8.toNat) - 1)))) fun σ_11 =>
      pf_Stage_passYear_43_l10_j66 σ_11 x1 x2
set_option maxHeartbeats 4000000 in
theorem bd_pf_Stage_passYear_43_l10 {x : kX} {l0 : Launch} {Q : State → Prop} (C : kCx x prog_8_method_4_code "PoetFines$Stage" none kcl yC 3 l0 R0_pf_Stage_passYear_43) (σ : kM) (x1 : Int) (x2 : Int) {out : (kM × Int) ⊕ ((kM))} (h : pf_Stage_passYear_43_l10 σ x1 x2 = some out) (hC : ∀ (σ' : kM) (x2' : Int), out = Sum.inl (σ', x2') → KW x 0 0 Q σ' 10 [some (kr 43), some (ki x1), some (ki x2')] []) (hX72 : ∀ (σ' : kM), out = Sum.inr σ' → KW x 0 0 Q σ' 72 [some (kr 43), none, none] []) : KW x 0 0 Q σ 10 [some (kr 43), some (ki x1), some (ki x2)] [] := by
  unfold pf_Stage_passYear_43_l10 at h
  refine kw_iload_n C (kdec dc_Stage_passYear 6 rfl) rfl 11 rfl rfl ?_
  refine kw_aload_n C (kdec dc_Stage_passYear 7 rfl) rfl 12 rfl rfl ?_
  refine kw_getR C (kdec dc_Stage_passYear 8 rfl) 15 rfl fd_C_Stage_24_43 ?_
  refine kw_getI C (kdec dc_Stage_passYear 9 rfl) 18 rfl fd_C_Stage_74_3 ?_
  refine kw_icmp_ge C (kdec dc_Stage_passYear 10 rfl) 72 21 (by decide) rfl (fun hc18 => ?_) (fun hc18 => ?_)
  · rw [if_pos hc18] at h
    obtain rfl := Option.some.inj h
    exact kw_sub (L' := [some (kr 43), none, none]) ⟨rfl, trivial⟩ (hX72 _ rfl)
  · rw [if_neg hc18] at h
    refine kw_aload_n C (kdec dc_Stage_passYear 11 rfl) rfl 22 rfl rfl ?_
    refine kw_getR C (kdec dc_Stage_passYear 12 rfl) 25 rfl fd_C_Stage_28_43 ?_
    refine kw_getR C (kdec dc_Stage_passYear 13 rfl) 28 rfl fd_C_Stage_51_30 ?_
    refine kw_bipush (v := 57) C (kdec dc_Stage_passYear 14 rfl) 30 rfl (by decide) ⟨by decide, by decide⟩ ?_
    refine kw_iload_n C (kdec dc_Stage_passYear 15 rfl) rfl 31 rfl rfl ?_
    refine kw_iadd C (kdec dc_Stage_passYear 16 rfl) 32 rfl ?_
    obtain ⟨hc_2, h⟩ := kchk_h h
    refine kw_iald C (kdec dc_Stage_passYear 17 rfl) 33 rfl rfl hc_2.1 hc_2.2 ?_
    refine kw_if_le C (kdec dc_Stage_passYear 18 rfl) 55 36 (by decide) rfl (fun hc33 => ?_) (fun hc33 => ?_)
    · rw [if_pos hc33] at h
      refine kw_aload_n C (kdec dc_Stage_passYear 31 rfl) rfl 56 rfl rfl ?_
      refine kw_iload_n C (kdec dc_Stage_passYear 32 rfl) rfl 57 rfl rfl ?_
      obtain ⟨σ_3, hg_7, h⟩ := kbind_h h
      refine kw_callV (As := [ki x2]) C (kdec dc_Stage_passYear 33 rfl) 60 rfl cv_Stage_77 rfl rfl (mt_pf_Stage_sellVolumes_43 l0 hg_7) ⟨rfl, rfl⟩ ⟨Nat.le_of_ble_eq_true rfl, Nat.le_of_ble_eq_true rfl⟩ ⟨Nat.zero_le _, Nat.zero_le _⟩ rfl (Nat.le_of_ble_eq_true rfl) ?_
      change KW x 0 0 Q σ_3 60 [some (kr 43), some (ki x1), some (ki x2)] []
      refine kw_aload_n C (kdec dc_Stage_passYear 34 rfl) rfl 61 rfl rfl ?_
      refine kw_iload_n C (kdec dc_Stage_passYear 35 rfl) rfl 62 rfl rfl ?_
      refine kw_iload_n C (kdec dc_Stage_passYear 36 rfl) rfl 63 rfl rfl ?_
      obtain ⟨σ_4, hg_6, h⟩ := kbind_h h
      refine kw_callV (As := [ki x2, ki x1]) C (kdec dc_Stage_passYear 37 rfl) 66 rfl cv_Stage_81 rfl rfl (mt_pf_Stage_readNext_43 l0 hg_6) ⟨rfl, rfl⟩ ⟨Nat.le_of_ble_eq_true rfl, Nat.le_of_ble_eq_true rfl⟩ ⟨Nat.zero_le _, Nat.zero_le _⟩ rfl (Nat.le_of_ble_eq_true rfl) ?_
      change KW x 0 0 Q σ_4 66 [some (kr 43), some (ki x1), some (ki x2)] []
      exact bd_pf_Stage_passYear_43_l10_j66 C σ_4 x1 x2 h hC hX72
    · rw [if_neg hc33] at h
      refine kw_aload_n C (kdec dc_Stage_passYear 19 rfl) rfl 37 rfl rfl ?_
      refine kw_getR C (kdec dc_Stage_passYear 20 rfl) 40 rfl fd_C_Stage_28_43 ?_
      refine kw_getR C (kdec dc_Stage_passYear 21 rfl) 43 rfl fd_C_Stage_51_30 ?_
      refine kw_bipush (v := 57) C (kdec dc_Stage_passYear 22 rfl) 45 rfl (by decide) ⟨by decide, by decide⟩ ?_
      refine kw_iload_n C (kdec dc_Stage_passYear 23 rfl) rfl 46 rfl rfl ?_
      refine kw_iadd C (kdec dc_Stage_passYear 24 rfl) 47 rfl ?_
      obtain ⟨y_8, ey_8, h⟩ := klet_h h
      refine kw_top ey_8 ?_
      refine kw_dup2 C (kdec dc_Stage_passYear 25 rfl) 48 rfl rfl rfl ?_
      obtain ⟨hc_9, h⟩ := kchk_h h
      refine kw_iald C (kdec dc_Stage_passYear 26 rfl) 49 rfl rfl hc_9.1 hc_9.2 ?_
      refine kw_iconst C (kdec dc_Stage_passYear 27 rfl) 50 rfl rfl ⟨by decide, by decide⟩ ?_
      refine kw_isub C (kdec dc_Stage_passYear 28 rfl) 51 rfl ?_
      obtain ⟨hc_10, h⟩ := kchk_h h
      obtain ⟨σ_11, eσ_11, h⟩ := klet_h h
      refine kw_iast C (kdec dc_Stage_passYear 29 rfl) 52 rfl rfl hc_10.1 hc_10.2 ?_
      refine kw_sig eσ_11 ?_
      refine kw_goto C (kdec dc_Stage_passYear 30 rfl) 66 (by decide) ?_
      exact bd_pf_Stage_passYear_43_l10_j66 C σ_11 x1 x2 h hC hX72
theorem lp_pf_Stage_passYear_43_l10 {x : kX} {l0 : Launch} {Q : State → Prop} (C : kCx x prog_8_method_4_code "PoetFines$Stage" none kcl yC 3 l0 R0_pf_Stage_passYear_43) (x1 : Int) {ex : (kM)} (hX72 : ∀ (σ' : kM), ex = σ' → KW x 0 0 Q σ' 72 [some (kr 43), none, none] []) (n : Nat) (σ : kM) (x2 : Int) (h : kloop (fun st => pf_Stage_passYear_43_l10 st.1 x1 st.2) n (σ, x2) = some ex) : KW x 0 0 Q σ 10 [some (kr 43), some (ki x1), some (ki x2)] [] :=
  kloop_ind (P := (fun st : kM × Int => KW x 0 0 Q st.1 10 [some (kr 43), some (ki x1), some (ki (st.2))] [])) (fun st out hb hc hx => bd_pf_Stage_passYear_43_l10 C st.1 x1 st.2 hb (fun a0 a1 e => hc _ e) (fun a0 e => hX72 _ ((hx _ e).symm))) n (σ, x2) h
def pf_Stage_passYear_43 (σ : kM) (x1 : Int) : Option (kM) :=
  klet (kst σ 44 (kup (σ 44) 6 0)) fun σ_1 =>
  (kloop (fun st => pf_Stage_passYear_43_l10 st.1 x1 st.2) kFuel (σ_1, 0)).bind fun σ_14 =>
  klet (kst σ_14 31 (kup (σ_14 31) ((0 : Int).toNat) (w32 ((σ_14 31 (0 : Int).toNat) + 1)))) fun σ_15 =>
  (pf_Tally_closeYear_44 σ_15).bind fun σ_16 =>
  some σ_16
set_option maxHeartbeats 4000000 in
theorem bd_pf_Stage_passYear_43 {x : kX} {l0 : Launch} {Q : State → Prop} (C : kCx x prog_8_method_4_code "PoetFines$Stage" none kcl yC 3 l0 R0_pf_Stage_passYear_43) (σ : kM) (x1 : Int) {out : kM} (h : pf_Stage_passYear_43 σ x1 = some out) (hR : ∀ (τ : kM), out = τ → Q = kQ x none τ 0 0) : KW x 0 0 Q σ 0 [some (kr 43), some (ki x1), none] [] := by
  unfold pf_Stage_passYear_43 at h
  refine kw_aload_n C (kdec dc_Stage_passYear 0 rfl) rfl 1 rfl rfl ?_
  refine kw_getR C (kdec dc_Stage_passYear 1 rfl) 4 rfl fd_C_Stage_12_43 ?_
  refine kw_iconst C (kdec dc_Stage_passYear 2 rfl) 5 rfl rfl ⟨by decide, by decide⟩ ?_
  obtain ⟨σ_1, eσ_1, h⟩ := klet_h h
  refine kw_putI C (kdec dc_Stage_passYear 3 rfl) 8 rfl fp_C_Stage_70_44 ?_
  refine kw_sig eσ_1 ?_
  refine kw_iconst C (kdec dc_Stage_passYear 4 rfl) 9 rfl rfl ⟨by decide, by decide⟩ ?_
  refine kw_istore_n (L' := [some (kr 43), some (ki x1), some (ki 0)]) C (kdec dc_Stage_passYear 5 rfl) rfl 10 rfl (by decide) rfl rfl ?_
  obtain ⟨ex_12, hl_13, h⟩ := kbind_h h
  refine lp_pf_Stage_passYear_43_l10 C x1 ?_ kFuel σ_1 0 hl_13
  · intro σ_14 e
    subst ex_12
    try dsimp only at h
    refine kw_aload_n C (kdec dc_Stage_passYear 40 rfl) rfl 73 rfl rfl ?_
    refine kw_getR C (kdec dc_Stage_passYear 41 rfl) 76 rfl fd_C_Stage_28_43 ?_
    refine kw_getR C (kdec dc_Stage_passYear 42 rfl) 79 rfl fd_C_Stage_51_30 ?_
    refine kw_iconst C (kdec dc_Stage_passYear 43 rfl) 80 rfl rfl ⟨by decide, by decide⟩ ?_
    refine kw_dup2 C (kdec dc_Stage_passYear 44 rfl) 81 rfl rfl rfl ?_
    refine kw_iald C (kdec dc_Stage_passYear 45 rfl) 82 rfl rfl (by decide) (by decide) ?_
    refine kw_iconst C (kdec dc_Stage_passYear 46 rfl) 83 rfl rfl ⟨by decide, by decide⟩ ?_
    refine kw_iadd C (kdec dc_Stage_passYear 47 rfl) 84 rfl ?_
    obtain ⟨σ_15, eσ_15, h⟩ := klet_h h
    refine kw_iast C (kdec dc_Stage_passYear 48 rfl) 85 rfl rfl (by decide) (by decide) ?_
    refine kw_sig eσ_15 ?_
    refine kw_aload_n C (kdec dc_Stage_passYear 49 rfl) rfl 86 rfl rfl ?_
    refine kw_getR C (kdec dc_Stage_passYear 50 rfl) 89 rfl fd_C_Stage_12_43 ?_
    obtain ⟨σ_16, hg_17, h⟩ := kbind_h h
    refine kw_callV (As := []) C (kdec dc_Stage_passYear 51 rfl) 92 rfl cv_Stage_85 rfl rfl (mt_pf_Tally_closeYear_44 l0 hg_17) ⟨rfl, rfl⟩ ⟨Nat.le_of_ble_eq_true rfl, Nat.le_of_ble_eq_true rfl⟩ ⟨Nat.zero_le _, Nat.zero_le _⟩ rfl (Nat.le_of_ble_eq_true rfl) ?_
    change KW x 0 0 Q σ_16 92 [some (kr 43), none, none] []
    obtain rfl := Option.some.inj h
    exact kw_Q (hR _ rfl) (kw_return C (kdec dc_Stage_passYear 52 rfl))
theorem mt_pf_Stage_passYear_43 (l0 : Launch) {σ : kM} {x1 : Int} {τ : kM} (h : pf_Stage_passYear_43 σ x1 = some τ) : kMet l0 ky_Stage_passYear prog_8_method_4_code 3 none R0_pf_Stage_passYear_43 kcl yC σ [kr 43, ki x1] none τ := kMet.of' [some (kr 43), some (ki x1), none] (by decide) (Nat.le_of_ble_eq_true rfl) ⟨rfl, rfl, trivial⟩ (fun x C => bd_pf_Stage_passYear_43 C σ x1 h (fun τ e => by subst e; rfl))
def R0_pf_P_years_0 : Room := ({ frames := 5, cells := 0, slots := 0, locals := 123 } : Room)
def pf_P_years_0_j33 (σ : kM) : Option (Int × kM) :=
  (pf_P_refusedAct_0 σ).bind fun (r_2, σ_3) =>
  some ((r_2, σ_3))
set_option maxHeartbeats 4000000 in
theorem bd_pf_P_years_0_j33 {x : kX} {l0 : Launch} {Q : State → Prop} (C : kCx x prog_1_method_9_code "PoetFines" (some .int) kcl yC 4 l0 R0_pf_P_years_0) (σ : kM) {out : Int × kM} (h : pf_P_years_0_j33 σ = some out) (hR : ∀ (r : Int) (τ : kM), out = (r, τ) → Q = kQ x (some (ki r)) τ 0 0) : KW x 0 0 Q σ 33 [some (kr 0), none, none, none] [] := by
  unfold pf_P_years_0_j33 at h
  refine kw_aload_n C (kdec dc_P_years 18 rfl) rfl 34 rfl rfl ?_
  obtain ⟨⟨r_2, σ_3⟩, hg_4, h⟩ := kbind_h h
  dsimp only at h
  refine kw_callV (As := []) C (kdec dc_P_years 19 rfl) 37 rfl cv_P_189 rfl rfl (mt_pf_P_refusedAct_0 l0 hg_4) ⟨rfl, rfl⟩ ⟨Nat.le_of_ble_eq_true rfl, Nat.le_of_ble_eq_true rfl⟩ ⟨Nat.zero_le _, Nat.zero_le _⟩ rfl (Nat.le_of_ble_eq_true rfl) ?_
  change KW x 0 0 Q σ_3 37 [some (kr 0), none, none, none] [ki r_2]
  obtain rfl := Option.some.inj h
  exact kw_Q (hR _ _ rfl) (kw_ireturn C (kdec dc_P_years 20 rfl))
def pf_P_years_0_l47 (σ : kM) (x1 : Int) (x3 : Int) : Option ((kM × Int) ⊕ ((kM))) :=
  if x1 ≤ x3 then
    some (Sum.inr σ)
  else
    (pf_Stage_passYear_43 σ 0).bind fun σ_6 =>
    klet (w32 (x3 + 1)) fun x3_7 =>
    some (Sum.inl (σ_6, x3_7))
set_option maxHeartbeats 4000000 in
theorem bd_pf_P_years_0_l47 {x : kX} {l0 : Launch} {Q : State → Prop} (C : kCx x prog_1_method_9_code "PoetFines" (some .int) kcl yC 4 l0 R0_pf_P_years_0) (σ : kM) (x1 : Int) (x3 : Int) {out : (kM × Int) ⊕ ((kM))} (h : pf_P_years_0_l47 σ x1 x3 = some out) (hC : ∀ (σ' : kM) (x3' : Int), out = Sum.inl (σ', x3') → KW x 0 0 Q σ' 47 [some (kr 0), some (ki x1), none, some (ki x3')] []) (hX66 : ∀ (σ' : kM), out = Sum.inr σ' → KW x 0 0 Q σ' 66 [some (kr 0), none, none, none] []) : KW x 0 0 Q σ 47 [some (kr 0), some (ki x1), none, some (ki x3)] [] := by
  unfold pf_P_years_0_l47 at h
  refine kw_iload_n C (kdec dc_P_years 26 rfl) rfl 48 rfl rfl ?_
  refine kw_iload_n C (kdec dc_P_years 27 rfl) rfl 49 rfl rfl ?_
  refine kw_icmp_ge C (kdec dc_P_years 28 rfl) 66 52 (by decide) rfl (fun hc49 => ?_) (fun hc49 => ?_)
  · rw [if_pos hc49] at h
    obtain rfl := Option.some.inj h
    exact kw_sub (L' := [some (kr 0), none, none, none]) ⟨rfl, trivial⟩ (hX66 _ rfl)
  · rw [if_neg hc49] at h
    refine kw_aload_n C (kdec dc_P_years 29 rfl) rfl 53 rfl rfl ?_
    refine kw_getR C (kdec dc_P_years 30 rfl) 56 rfl fd_C_P_63_0 ?_
    refine kw_iconst C (kdec dc_P_years 31 rfl) 57 rfl rfl ⟨by decide, by decide⟩ ?_
    obtain ⟨σ_6, hg_8, h⟩ := kbind_h h
    refine kw_callV (As := [ki 0]) C (kdec dc_P_years 32 rfl) 60 rfl cv_P_196 rfl rfl (mt_pf_Stage_passYear_43 l0 hg_8) ⟨rfl, rfl⟩ ⟨Nat.le_of_ble_eq_true rfl, Nat.le_of_ble_eq_true rfl⟩ ⟨Nat.zero_le _, Nat.zero_le _⟩ rfl (Nat.le_of_ble_eq_true rfl) ?_
    change KW x 0 0 Q σ_6 60 [some (kr 0), some (ki x1), none, some (ki x3)] []
    obtain ⟨x3_7, ex3_7, h⟩ := klet_h h
    refine kw_iinc (L' := [some (kr 0), some (ki x1), none, some (ki x3_7)]) C (kdec dc_P_years 33 rfl) 63 rfl rfl (by decide) rfl (by rw [ex3_7]; rfl) ?_
    refine kw_goto C (kdec dc_P_years 34 rfl) 47 (by decide) ?_
    obtain rfl := Option.some.inj h
    exact (hC _ _ rfl)
theorem lp_pf_P_years_0_l47 {x : kX} {l0 : Launch} {Q : State → Prop} (C : kCx x prog_1_method_9_code "PoetFines" (some .int) kcl yC 4 l0 R0_pf_P_years_0) (x1 : Int) {ex : (kM)} (hX66 : ∀ (σ' : kM), ex = σ' → KW x 0 0 Q σ' 66 [some (kr 0), none, none, none] []) (n : Nat) (σ : kM) (x3 : Int) (h : kloop (fun st => pf_P_years_0_l47 st.1 x1 st.2) n (σ, x3) = some ex) : KW x 0 0 Q σ 47 [some (kr 0), some (ki x1), none, some (ki x3)] [] :=
  kloop_ind (P := (fun st : kM × Int => KW x 0 0 Q st.1 47 [some (kr 0), some (ki x1), none, some (ki (st.2))] [])) (fun st out hb hc hx => bd_pf_P_years_0_l47 C st.1 x1 st.2 hb (fun a0 a1 e => hc _ e) (fun a0 e => hX66 _ ((hx _ e).symm))) n (σ, x3) h
def pf_P_years_0 (σ : kM) (x1 : Int) : Option (Int × kM) :=
  klet (σ 31 (0 : Int).toNat) fun x2_1 =>
  if x1 < 1 then
    pf_P_years_0_j33 σ
  else
    if 20 < x1 then
      pf_P_years_0_j33 σ
    else
      if (w32 (x2_1 + x1)) ≤ 9999 then
        (pf_Chronicle_remember_29 σ).bind fun σ_5 =>
        (kloop (fun st => pf_P_years_0_l47 st.1 x1 st.2) kFuel (σ_5, 0)).bind fun σ_11 =>
        some ((σ_11 31 (0 : Int).toNat, σ_11))
      else
        pf_P_years_0_j33 σ
set_option maxHeartbeats 4000000 in
theorem bd_pf_P_years_0 {x : kX} {l0 : Launch} {Q : State → Prop} (C : kCx x prog_1_method_9_code "PoetFines" (some .int) kcl yC 4 l0 R0_pf_P_years_0) (σ : kM) (x1 : Int) {out : Int × kM} (h : pf_P_years_0 σ x1 = some out) (hR : ∀ (r : Int) (τ : kM), out = (r, τ) → Q = kQ x (some (ki r)) τ 0 0) : KW x 0 0 Q σ 0 [some (kr 0), some (ki x1), none, none] [] := by
  unfold pf_P_years_0 at h
  refine kw_aload_n C (kdec dc_P_years 0 rfl) rfl 1 rfl rfl ?_
  refine kw_getR C (kdec dc_P_years 1 rfl) 4 rfl fd_C_P_43_0 ?_
  refine kw_getR C (kdec dc_P_years 2 rfl) 7 rfl fd_C_P_56_29 ?_
  refine kw_getR C (kdec dc_P_years 3 rfl) 10 rfl fd_C_P_122_30 ?_
  refine kw_iconst C (kdec dc_P_years 4 rfl) 11 rfl rfl ⟨by decide, by decide⟩ ?_
  refine kw_iald C (kdec dc_P_years 5 rfl) 12 rfl rfl (by decide) (by decide) ?_
  obtain ⟨x2_1, ex2_1, h⟩ := klet_h h
  refine kw_top ex2_1 ?_
  refine kw_istore_n (L' := [some (kr 0), some (ki x1), some (ki x2_1), none]) C (kdec dc_P_years 6 rfl) rfl 13 rfl (by decide) rfl rfl ?_
  refine kw_iload_n C (kdec dc_P_years 7 rfl) rfl 14 rfl rfl ?_
  refine kw_iconst C (kdec dc_P_years 8 rfl) 15 rfl rfl ⟨by decide, by decide⟩ ?_
  refine kw_icmp_lt C (kdec dc_P_years 9 rfl) 33 18 (by decide) rfl (fun hc15 => ?_) (fun hc15 => ?_)
  · rw [if_pos hc15] at h
    exact kw_sub (L' := [some (kr 0), none, none, none]) ⟨rfl, trivial⟩ (bd_pf_P_years_0_j33 C σ h hR)
  · rw [if_neg hc15] at h
    refine kw_iload_n C (kdec dc_P_years 10 rfl) rfl 19 rfl rfl ?_
    refine kw_bipush (v := 20) C (kdec dc_P_years 11 rfl) 21 rfl (by decide) ⟨by decide, by decide⟩ ?_
    refine kw_icmp_gt C (kdec dc_P_years 12 rfl) 33 24 (by decide) rfl (fun hc21 => ?_) (fun hc21 => ?_)
    · rw [if_pos hc21] at h
      exact kw_sub (L' := [some (kr 0), none, none, none]) ⟨rfl, trivial⟩ (bd_pf_P_years_0_j33 C σ h hR)
    · rw [if_neg hc21] at h
      refine kw_iload_n C (kdec dc_P_years 13 rfl) rfl 25 rfl rfl ?_
      refine kw_iload_n C (kdec dc_P_years 14 rfl) rfl 26 rfl rfl ?_
      refine kw_iadd C (kdec dc_P_years 15 rfl) 27 rfl ?_
      refine kw_sipush (v := 9999) C (kdec dc_P_years 16 rfl) 30 rfl (by decide) ⟨by decide, by decide⟩ ?_
      refine kw_icmp_le C (kdec dc_P_years 17 rfl) 38 33 (by decide) rfl (fun hc30 => ?_) (fun hc30 => ?_)
      · rw [if_pos hc30] at h
        refine kw_aload_n C (kdec dc_P_years 21 rfl) rfl 39 rfl rfl ?_
        refine kw_getR C (kdec dc_P_years 22 rfl) 42 rfl fd_C_P_43_0 ?_
        obtain ⟨σ_5, hg_12, h⟩ := kbind_h h
        refine kw_callV (As := []) C (kdec dc_P_years 23 rfl) 45 rfl cv_P_193 rfl rfl (mt_pf_Chronicle_remember_29 l0 hg_12) ⟨rfl, rfl⟩ ⟨Nat.le_of_ble_eq_true rfl, Nat.le_of_ble_eq_true rfl⟩ ⟨Nat.zero_le _, Nat.zero_le _⟩ rfl (Nat.le_of_ble_eq_true rfl) ?_
        change KW x 0 0 Q σ_5 45 [some (kr 0), some (ki x1), some (ki x2_1), none] []
        refine kw_iconst C (kdec dc_P_years 24 rfl) 46 rfl rfl ⟨by decide, by decide⟩ ?_
        refine kw_istore_n (L' := [some (kr 0), some (ki x1), some (ki x2_1), some (ki 0)]) C (kdec dc_P_years 25 rfl) rfl 47 rfl (by decide) rfl rfl ?_
        obtain ⟨ex_9, hl_10, h⟩ := kbind_h h
        refine kw_sub (L' := [some (kr 0), some (ki x1), none, some (ki 0)]) ⟨rfl, rfl, rfl, trivial⟩ (lp_pf_P_years_0_l47 C x1 ?_ kFuel σ_5 0 hl_10)
        · intro σ_11 e
          subst ex_9
          try dsimp only at h
          refine kw_aload_n C (kdec dc_P_years 35 rfl) rfl 67 rfl rfl ?_
          refine kw_getR C (kdec dc_P_years 36 rfl) 70 rfl fd_C_P_43_0 ?_
          refine kw_getR C (kdec dc_P_years 37 rfl) 73 rfl fd_C_P_56_29 ?_
          refine kw_getR C (kdec dc_P_years 38 rfl) 76 rfl fd_C_P_122_30 ?_
          refine kw_iconst C (kdec dc_P_years 39 rfl) 77 rfl rfl ⟨by decide, by decide⟩ ?_
          refine kw_iald C (kdec dc_P_years 40 rfl) 78 rfl rfl (by decide) (by decide) ?_
          obtain rfl := Option.some.inj h
          exact kw_Q (hR _ _ rfl) (kw_ireturn C (kdec dc_P_years 41 rfl))
      · rw [if_neg hc30] at h
        exact kw_sub (L' := [some (kr 0), none, none, none]) ⟨rfl, trivial⟩ (bd_pf_P_years_0_j33 C σ h hR)
theorem mt_pf_P_years_0 (l0 : Launch) {σ : kM} {x1 : Int} {r : Int} {τ : kM} (h : pf_P_years_0 σ x1 = some (r, τ)) : kMet l0 ky_P_years prog_1_method_9_code 4 (some .int) R0_pf_P_years_0 kcl yC σ [kr 0, ki x1] (some (ki r)) τ := kMet.of' [some (kr 0), some (ki x1), none, none] (by decide) (Nat.le_of_ble_eq_true rfl) ⟨rfl, rfl, trivial⟩ (fun x C => bd_pf_P_years_0 C σ x1 h (fun r τ e => by cases e; rfl))
def R0_pf_P_burn_0 : Room := ({ frames := 7, cells := 1, slots := 6, locals := 121 } : Room)
def pf_P_burn_0 (σ : kM) (x1 : Int) : Option ((String ⊕ Int) × kM) :=
  (pf_P_needPoet_0 σ x1).bind fun q_14 => match q_14 with
  | (.inl E_3, σ_1) => some (.inl E_3, σ_1)
  | (.inr _, σ_1) =>
    kchk (0 ≤ x1 ∧ x1 < 4) <|
    if 2 ≤ (σ_1 4 x1.toNat) then
      (pf_Chronicle_remember_29 σ_1).bind fun σ_5 =>
      kchk (0 ≤ (w32 (53 + x1)) ∧ (w32 (53 + x1)) < 85) <|
      klet (σ_5 31 (w32 (53 + x1)).toNat) fun x2_7 =>
      (pf_Stage_turnPage_43 σ_5 x1).bind fun σ_8 =>
      some ((.inr x2_7, σ_8))
    else
      (pf_P_refusedAct_0 σ_1).bind fun (r_11, σ_12) =>
      some ((.inr r_11, σ_12))
set_option maxHeartbeats 4000000 in
theorem bd_pf_P_burn_0 {x : kX} {l0 : Launch} {Q : State → Prop} (C : kCx x prog_1_method_10_code "PoetFines" (some .int) kcl yC 3 l0 R0_pf_P_burn_0) (hT : kTb x) (hfl : l0.stackTraces = false) (σ : kM) (x1 : Int) {out : (String ⊕ Int) × kM} (h : pf_P_burn_0 σ x1 = some out) (hR : ∀ (r : Int) (τ : kM), out = (.inr r, τ) → Q = kQX x (.inr (some (ki r))) τ 1 6) (hE : ∀ (E : String) (τ : kM), out = (.inl E, τ) → Q = kQX x (.inl E) τ 1 6) : KW x 0 0 Q σ 0 [some (kr 0), some (ki x1), none] [] := by
  unfold pf_P_burn_0 at h
  refine kw_aload_n C (kdec dc_P_burn 0 rfl) rfl 1 rfl rfl ?_
  refine kw_iload_n C (kdec dc_P_burn 1 rfl) rfl 2 rfl rfl ?_
  obtain ⟨⟨q_14, σ_1⟩, hg_2, h⟩ := kbind_h h
  rcases q_14 with E_3 | _
  · dsimp only at h
    obtain rfl := Option.some.inj h
    exact kw_Q (hE _ _ rfl) (kw_callVX_t (As := [ki x1]) C hT (kdec dc_P_burn 2 rfl) cv_P_162 rfl rfl (me_pf_P_needPoet_0 l0 hfl hg_2) ⟨rfl, rfl⟩ ⟨Nat.le_of_ble_eq_true rfl, Nat.le_of_ble_eq_true rfl⟩ ⟨Nat.le_of_ble_eq_true rfl, Nat.le_of_ble_eq_true rfl⟩ rfl (Nat.le_of_ble_eq_true rfl) (Nat.le_of_ble_eq_true rfl) (Nat.le_of_ble_eq_true rfl))
  · dsimp only at h
    refine kw_callVX (As := [ki x1]) C (kdec dc_P_burn 2 rfl) 5 rfl cv_P_162 rfl rfl (mx_pf_P_needPoet_0 l0 hfl hg_2) ⟨rfl, rfl⟩ ⟨Nat.le_of_ble_eq_true rfl, Nat.le_of_ble_eq_true rfl⟩ ⟨Nat.le_of_ble_eq_true rfl, Nat.le_of_ble_eq_true rfl⟩ rfl (Nat.le_of_ble_eq_true rfl) ?_
    change KW x 1 6 Q σ_1 5 [some (kr 0), some (ki x1), none] []
    refine kw_aload_n C (kdec dc_P_burn 3 rfl) rfl 6 rfl rfl ?_
    refine kw_getR C (kdec dc_P_burn 4 rfl) 9 rfl fd_C_P_27_0 ?_
    refine kw_getR C (kdec dc_P_burn 5 rfl) 12 rfl fd_C_P_165_3 ?_
    refine kw_iload_n C (kdec dc_P_burn 6 rfl) rfl 13 rfl rfl ?_
    obtain ⟨hc_4, h⟩ := kchk_h h
    refine kw_iald C (kdec dc_P_burn 7 rfl) 14 rfl rfl hc_4.1 hc_4.2 ?_
    refine kw_iconst C (kdec dc_P_burn 8 rfl) 15 rfl rfl ⟨by decide, by decide⟩ ?_
    refine kw_icmp_ge C (kdec dc_P_burn 9 rfl) 23 18 (by decide) rfl (fun hc15 => ?_) (fun hc15 => ?_)
    · rw [if_pos hc15] at h
      refine kw_aload_n C (kdec dc_P_burn 13 rfl) rfl 24 rfl rfl ?_
      refine kw_getR C (kdec dc_P_burn 14 rfl) 27 rfl fd_C_P_43_0 ?_
      obtain ⟨σ_5, hg_10, h⟩ := kbind_h h
      refine kw_callV (As := []) C (kdec dc_P_burn 15 rfl) 30 rfl cv_P_193 rfl rfl (mt_pf_Chronicle_remember_29 l0 hg_10) ⟨rfl, rfl⟩ ⟨Nat.le_of_ble_eq_true rfl, Nat.le_of_ble_eq_true rfl⟩ ⟨Nat.le_of_ble_eq_true rfl, Nat.le_of_ble_eq_true rfl⟩ rfl (Nat.le_of_ble_eq_true rfl) ?_
      change KW x 1 6 Q σ_5 30 [some (kr 0), some (ki x1), none] []
      refine kw_aload_n C (kdec dc_P_burn 16 rfl) rfl 31 rfl rfl ?_
      refine kw_getR C (kdec dc_P_burn 17 rfl) 34 rfl fd_C_P_43_0 ?_
      refine kw_getR C (kdec dc_P_burn 18 rfl) 37 rfl fd_C_P_56_29 ?_
      refine kw_getR C (kdec dc_P_burn 19 rfl) 40 rfl fd_C_P_122_30 ?_
      refine kw_bipush (v := 53) C (kdec dc_P_burn 20 rfl) 42 rfl (by decide) ⟨by decide, by decide⟩ ?_
      refine kw_iload_n C (kdec dc_P_burn 21 rfl) rfl 43 rfl rfl ?_
      refine kw_iadd C (kdec dc_P_burn 22 rfl) 44 rfl ?_
      obtain ⟨hc_6, h⟩ := kchk_h h
      refine kw_iald C (kdec dc_P_burn 23 rfl) 45 rfl rfl hc_6.1 hc_6.2 ?_
      obtain ⟨x2_7, ex2_7, h⟩ := klet_h h
      refine kw_top ex2_7 ?_
      refine kw_istore_n (L' := [some (kr 0), some (ki x1), some (ki x2_7)]) C (kdec dc_P_burn 24 rfl) rfl 46 rfl (by decide) rfl rfl ?_
      refine kw_aload_n C (kdec dc_P_burn 25 rfl) rfl 47 rfl rfl ?_
      refine kw_getR C (kdec dc_P_burn 26 rfl) 50 rfl fd_C_P_63_0 ?_
      refine kw_iload_n C (kdec dc_P_burn 27 rfl) rfl 51 rfl rfl ?_
      obtain ⟨σ_8, hg_9, h⟩ := kbind_h h
      refine kw_callV (As := [ki x1]) C (kdec dc_P_burn 28 rfl) 54 rfl cv_P_200 rfl rfl (mt_pf_Stage_turnPage_43 l0 hg_9) ⟨rfl, rfl⟩ ⟨Nat.le_of_ble_eq_true rfl, Nat.le_of_ble_eq_true rfl⟩ ⟨Nat.le_of_ble_eq_true rfl, Nat.le_of_ble_eq_true rfl⟩ rfl (Nat.le_of_ble_eq_true rfl) ?_
      change KW x 1 6 Q σ_8 54 [some (kr 0), some (ki x1), some (ki x2_7)] []
      refine kw_iload_n C (kdec dc_P_burn 29 rfl) rfl 55 rfl rfl ?_
      obtain rfl := Option.some.inj h
      exact kw_Q (hR _ _ rfl) (kw_xret (by decide) (by decide) (kw_ireturn C (kdec dc_P_burn 30 rfl)))
    · rw [if_neg hc15] at h
      refine kw_aload_n C (kdec dc_P_burn 10 rfl) rfl 19 rfl rfl ?_
      obtain ⟨⟨r_11, σ_12⟩, hg_13, h⟩ := kbind_h h
      dsimp only at h
      refine kw_callV (As := []) C (kdec dc_P_burn 11 rfl) 22 rfl cv_P_189 rfl rfl (mt_pf_P_refusedAct_0 l0 hg_13) ⟨rfl, rfl⟩ ⟨Nat.le_of_ble_eq_true rfl, Nat.le_of_ble_eq_true rfl⟩ ⟨Nat.le_of_ble_eq_true rfl, Nat.le_of_ble_eq_true rfl⟩ rfl (Nat.le_of_ble_eq_true rfl) ?_
      change KW x 1 6 Q σ_12 22 [some (kr 0), some (ki x1), none] [ki r_11]
      obtain rfl := Option.some.inj h
      exact kw_Q (hR _ _ rfl) (kw_xret (by decide) (by decide) (kw_ireturn C (kdec dc_P_burn 12 rfl)))
theorem mx_pf_P_burn_0 (l0 : Launch) (hfl : l0.stackTraces = false) {σ : kM} {x1 : Int} {r : Int} {τ : kM} (h : pf_P_burn_0 σ x1 = some (.inr r, τ)) : kXet l0 ky_P_burn prog_1_method_10_code 3 (some .int) R0_pf_P_burn_0 kcl yC σ [kr 0, ki x1] (.inr (some (ki r))) τ 1 6 := kXet.of [some (kr 0), some (ki x1), none] (by decide) (Nat.le_of_ble_eq_true rfl) ⟨rfl, rfl, trivial⟩ (fun x C hT => bd_pf_P_burn_0 C hT hfl σ x1 h (fun r τ e => by cases e; rfl) (fun E τ e => by cases e))
theorem me_pf_P_burn_0 (l0 : Launch) (hfl : l0.stackTraces = false) {σ : kM} {x1 : Int} {E : String} {τ : kM} (h : pf_P_burn_0 σ x1 = some (.inl E, τ)) : kXet l0 ky_P_burn prog_1_method_10_code 3 (some .int) R0_pf_P_burn_0 kcl yC σ [kr 0, ki x1] (.inl E) τ 1 6 := kXet.of [some (kr 0), some (ki x1), none] (by decide) (Nat.le_of_ble_eq_true rfl) ⟨rfl, rfl, trivial⟩ (fun x C hT => bd_pf_P_burn_0 C hT hfl σ x1 h (fun r τ e => by cases e) (fun E τ e => by cases e; rfl))
def R0_pf_World_setDepth_30 : Room := ({ frames := 0, cells := 0, slots := 0, locals := 0 } : Room)
def pf_World_setDepth_30 (σ : kM) (x1 : Int) (x2 : Int) (x3 : Int) : Option (kM) :=
  if 6 ≤ x2 then
    some σ
  else
    kchk (0 ≤ (w32 ((w32 (61 + (w32 (x1 * 6)))) + x2)) ∧ (w32 ((w32 (61 + (w32 (x1 * 6)))) + x2)) < 85) <|
    klet (kst σ 31 (kup (σ 31) ((w32 ((w32 (61 + (w32 (x1 * 6)))) + x2)).toNat) x3)) fun σ_2 =>
    some σ_2
set_option maxHeartbeats 4000000 in
theorem bd_pf_World_setDepth_30 {x : kX} {l0 : Launch} {Q : State → Prop} (C : kCx x prog_12_method_5_code "PoetFines$World" none kcl yC 4 l0 R0_pf_World_setDepth_30) (σ : kM) (x1 : Int) (x2 : Int) (x3 : Int) {out : kM} (h : pf_World_setDepth_30 σ x1 x2 x3 = some out) (hR : ∀ (τ : kM), out = τ → Q = kQ x none τ 0 0) : KW x 0 0 Q σ 0 [some (kr 30), some (ki x1), some (ki x2), some (ki x3)] [] := by
  unfold pf_World_setDepth_30 at h
  refine kw_iload_n C (kdec dc_World_setDepth 0 rfl) rfl 1 rfl rfl ?_
  refine kw_bipush (v := 6) C (kdec dc_World_setDepth 1 rfl) 3 rfl (by decide) ⟨by decide, by decide⟩ ?_
  refine kw_icmp_ge C (kdec dc_World_setDepth 2 rfl) 21 6 (by decide) rfl (fun hc3 => ?_) (fun hc3 => ?_)
  · rw [if_pos hc3] at h
    obtain rfl := Option.some.inj h
    exact kw_Q (hR _ rfl) (kw_return C (kdec dc_World_setDepth 14 rfl))
  · rw [if_neg hc3] at h
    refine kw_aload_n C (kdec dc_World_setDepth 3 rfl) rfl 7 rfl rfl ?_
    refine kw_getR C (kdec dc_World_setDepth 4 rfl) 10 rfl fd_C_World_11_30 ?_
    refine kw_bipush (v := 61) C (kdec dc_World_setDepth 5 rfl) 12 rfl (by decide) ⟨by decide, by decide⟩ ?_
    refine kw_iload_n C (kdec dc_World_setDepth 6 rfl) rfl 13 rfl rfl ?_
    refine kw_bipush (v := 6) C (kdec dc_World_setDepth 7 rfl) 15 rfl (by decide) ⟨by decide, by decide⟩ ?_
    refine kw_imul C (kdec dc_World_setDepth 8 rfl) 16 rfl ?_
    refine kw_iadd C (kdec dc_World_setDepth 9 rfl) 17 rfl ?_
    refine kw_iload_n C (kdec dc_World_setDepth 10 rfl) rfl 18 rfl rfl ?_
    refine kw_iadd C (kdec dc_World_setDepth 11 rfl) 19 rfl ?_
    refine kw_iload_n C (kdec dc_World_setDepth 12 rfl) rfl 20 rfl rfl ?_
    obtain ⟨hc_1, h⟩ := kchk_h h
    obtain ⟨σ_2, eσ_2, h⟩ := klet_h h
    refine kw_iast C (kdec dc_World_setDepth 13 rfl) 21 rfl rfl hc_1.1 hc_1.2 ?_
    refine kw_sig eσ_2 ?_
    obtain rfl := Option.some.inj h
    exact kw_Q (hR _ rfl) (kw_return C (kdec dc_World_setDepth 14 rfl))
theorem mt_pf_World_setDepth_30 (l0 : Launch) {σ : kM} {x1 : Int} {x2 : Int} {x3 : Int} {τ : kM} (h : pf_World_setDepth_30 σ x1 x2 x3 = some τ) : kMet l0 ky_World_setDepth prog_12_method_5_code 4 none R0_pf_World_setDepth_30 kcl yC σ [kr 30, ki x1, ki x2, ki x3] none τ := kMet.of' [some (kr 30), some (ki x1), some (ki x2), some (ki x3)] (by decide) (Nat.le_of_ble_eq_true rfl) ⟨rfl, rfl, rfl, rfl, trivial⟩ (fun x C => bd_pf_World_setDepth_30 C σ x1 x2 x3 h (fun τ e => by subst e; rfl))
def R0_pf_P_rewrite_0 : Room := ({ frames := 8, cells := 2, slots := 12, locals := 143 } : Room)
def pf_P_rewrite_0_j36 (σ : kM) : Option ((String ⊕ Int) × kM) :=
  (pf_P_refusedAct_0 σ).bind fun (r_5, σ_6) =>
  some ((.inr r_5, σ_6))
set_option maxHeartbeats 4000000 in
theorem bd_pf_P_rewrite_0_j36 {x : kX} {l0 : Launch} {Q : State → Prop} (C : kCx x prog_1_method_11_code "PoetFines" (some .int) kcl yC 5 l0 R0_pf_P_rewrite_0) (hT : kTb x) (hfl : l0.stackTraces = false) (σ : kM) {out : (String ⊕ Int) × kM} (h : pf_P_rewrite_0_j36 σ = some out) (hR : ∀ (r : Int) (τ : kM), out = (.inr r, τ) → Q = kQX x (.inr (some (ki r))) τ 2 12) (hE : ∀ (E : String) (τ : kM), out = (.inl E, τ) → Q = kQX x (.inl E) τ 2 12) : KW x 2 12 Q σ 36 [some (kr 0), none, none, none, none] [] := by
  unfold pf_P_rewrite_0_j36 at h
  refine kw_aload_n C (kdec dc_P_rewrite 19 rfl) rfl 37 rfl rfl ?_
  obtain ⟨⟨r_5, σ_6⟩, hg_7, h⟩ := kbind_h h
  dsimp only at h
  refine kw_callV (As := []) C (kdec dc_P_rewrite 20 rfl) 40 rfl cv_P_189 rfl rfl (mt_pf_P_refusedAct_0 l0 hg_7) ⟨rfl, rfl⟩ ⟨Nat.le_of_ble_eq_true rfl, Nat.le_of_ble_eq_true rfl⟩ ⟨Nat.le_of_ble_eq_true rfl, Nat.le_of_ble_eq_true rfl⟩ rfl (Nat.le_of_ble_eq_true rfl) ?_
  change KW x 2 12 Q σ_6 40 [some (kr 0), none, none, none, none] [ki r_5]
  obtain rfl := Option.some.inj h
  exact kw_Q (hR _ _ rfl) (kw_xret (by decide) (by decide) (kw_ireturn C (kdec dc_P_rewrite 21 rfl)))
def pf_P_rewrite_0 (σ : kM) (x1 : Int) (x2 : Int) (x3 : Int) : Option ((String ⊕ Int) × kM) :=
  (pf_P_needLine_0 σ x1 x2).bind fun q_13 => match q_13 with
  | (.inl E_3, σ_1) => some (.inl E_3, σ_1)
  | (.inr _, σ_1) =>
    (pf_World_depthOf_30 σ_1 x1 x2).bind fun r_4 =>
    if x3 < 0 then
      pf_P_rewrite_0_j36 σ_1
    else
      if 9 < x3 then
        pf_P_rewrite_0_j36 σ_1
      else
        if x3 = r_4 then
          pf_P_rewrite_0_j36 σ_1
        else
          (pf_Chronicle_remember_29 σ_1).bind fun σ_8 =>
          (pf_World_setDepth_30 σ_8 x1 x2 x3).bind fun σ_9 =>
          some ((.inr r_4, σ_9))
set_option maxHeartbeats 4000000 in
theorem bd_pf_P_rewrite_0 {x : kX} {l0 : Launch} {Q : State → Prop} (C : kCx x prog_1_method_11_code "PoetFines" (some .int) kcl yC 5 l0 R0_pf_P_rewrite_0) (hT : kTb x) (hfl : l0.stackTraces = false) (σ : kM) (x1 : Int) (x2 : Int) (x3 : Int) {out : (String ⊕ Int) × kM} (h : pf_P_rewrite_0 σ x1 x2 x3 = some out) (hR : ∀ (r : Int) (τ : kM), out = (.inr r, τ) → Q = kQX x (.inr (some (ki r))) τ 2 12) (hE : ∀ (E : String) (τ : kM), out = (.inl E, τ) → Q = kQX x (.inl E) τ 2 12) : KW x 0 0 Q σ 0 [some (kr 0), some (ki x1), some (ki x2), some (ki x3), none] [] := by
  unfold pf_P_rewrite_0 at h
  refine kw_aload_n C (kdec dc_P_rewrite 0 rfl) rfl 1 rfl rfl ?_
  refine kw_iload_n C (kdec dc_P_rewrite 1 rfl) rfl 2 rfl rfl ?_
  refine kw_iload_n C (kdec dc_P_rewrite 2 rfl) rfl 3 rfl rfl ?_
  obtain ⟨⟨q_13, σ_1⟩, hg_2, h⟩ := kbind_h h
  rcases q_13 with E_3 | _
  · dsimp only at h
    obtain rfl := Option.some.inj h
    exact kw_Q (hE _ _ rfl) (kw_callVX_t (As := [ki x1, ki x2]) C hT (kdec dc_P_rewrite 3 rfl) cv_P_171 rfl rfl (me_pf_P_needLine_0 l0 hfl hg_2) ⟨rfl, rfl⟩ ⟨Nat.le_of_ble_eq_true rfl, Nat.le_of_ble_eq_true rfl⟩ ⟨Nat.le_of_ble_eq_true rfl, Nat.le_of_ble_eq_true rfl⟩ rfl (Nat.le_of_ble_eq_true rfl) (Nat.le_of_ble_eq_true rfl) (Nat.le_of_ble_eq_true rfl))
  · dsimp only at h
    refine kw_callVX (As := [ki x1, ki x2]) C (kdec dc_P_rewrite 3 rfl) 6 rfl cv_P_171 rfl rfl (mx_pf_P_needLine_0 l0 hfl hg_2) ⟨rfl, rfl⟩ ⟨Nat.le_of_ble_eq_true rfl, Nat.le_of_ble_eq_true rfl⟩ ⟨Nat.le_of_ble_eq_true rfl, Nat.le_of_ble_eq_true rfl⟩ rfl (Nat.le_of_ble_eq_true rfl) ?_
    change KW x 2 12 Q σ_1 6 [some (kr 0), some (ki x1), some (ki x2), some (ki x3), none] []
    refine kw_aload_n C (kdec dc_P_rewrite 4 rfl) rfl 7 rfl rfl ?_
    refine kw_getR C (kdec dc_P_rewrite 5 rfl) 10 rfl fd_C_P_43_0 ?_
    refine kw_getR C (kdec dc_P_rewrite 6 rfl) 13 rfl fd_C_P_56_29 ?_
    refine kw_iload_n C (kdec dc_P_rewrite 7 rfl) rfl 14 rfl rfl ?_
    refine kw_iload_n C (kdec dc_P_rewrite 8 rfl) rfl 15 rfl rfl ?_
    obtain ⟨r_4, hg_12, h⟩ := kbind_h h
    refine kw_callV (As := [ki x1, ki x2]) C (kdec dc_P_rewrite 9 rfl) 18 rfl cv_P_177 rfl rfl (mt_pf_World_depthOf_30 l0 hg_12) ⟨rfl, rfl⟩ ⟨Nat.le_of_ble_eq_true rfl, Nat.le_of_ble_eq_true rfl⟩ ⟨Nat.le_of_ble_eq_true rfl, Nat.le_of_ble_eq_true rfl⟩ rfl (Nat.le_of_ble_eq_true rfl) ?_
    change KW x 2 12 Q σ_1 18 [some (kr 0), some (ki x1), some (ki x2), some (ki x3), none] [ki r_4]
    refine kw_istore (L' := [some (kr 0), some (ki x1), some (ki x2), some (ki x3), some (ki r_4)]) C (kdec dc_P_rewrite 10 rfl) 20 rfl (by decide) rfl rfl ?_
    refine kw_iload_n C (kdec dc_P_rewrite 11 rfl) rfl 21 rfl rfl ?_
    refine kw_if_lt C (kdec dc_P_rewrite 12 rfl) 36 24 (by decide) rfl (fun hc21 => ?_) (fun hc21 => ?_)
    · rw [if_pos hc21] at h
      exact kw_sub (L' := [some (kr 0), none, none, none, none]) ⟨rfl, trivial⟩ (kw_widen (by decide) (by decide) (bd_pf_P_rewrite_0_j36 C hT hfl σ_1 h hR hE))
    · rw [if_neg hc21] at h
      refine kw_iload_n C (kdec dc_P_rewrite 13 rfl) rfl 25 rfl rfl ?_
      refine kw_bipush (v := 9) C (kdec dc_P_rewrite 14 rfl) 27 rfl (by decide) ⟨by decide, by decide⟩ ?_
      refine kw_icmp_gt C (kdec dc_P_rewrite 15 rfl) 36 30 (by decide) rfl (fun hc27 => ?_) (fun hc27 => ?_)
      · rw [if_pos hc27] at h
        exact kw_sub (L' := [some (kr 0), none, none, none, none]) ⟨rfl, trivial⟩ (kw_widen (by decide) (by decide) (bd_pf_P_rewrite_0_j36 C hT hfl σ_1 h hR hE))
      · rw [if_neg hc27] at h
        refine kw_iload_n C (kdec dc_P_rewrite 16 rfl) rfl 31 rfl rfl ?_
        refine kw_iload C (kdec dc_P_rewrite 17 rfl) 33 rfl rfl ?_
        refine kw_icmp_ne C (kdec dc_P_rewrite 18 rfl) 41 36 (by decide) rfl (fun hc33 => ?_) (fun hc33 => ?_)
        · rw [if_neg hc33] at h
          refine kw_aload_n C (kdec dc_P_rewrite 22 rfl) rfl 42 rfl rfl ?_
          refine kw_getR C (kdec dc_P_rewrite 23 rfl) 45 rfl fd_C_P_43_0 ?_
          obtain ⟨σ_8, hg_11, h⟩ := kbind_h h
          refine kw_callV (As := []) C (kdec dc_P_rewrite 24 rfl) 48 rfl cv_P_193 rfl rfl (mt_pf_Chronicle_remember_29 l0 hg_11) ⟨rfl, rfl⟩ ⟨Nat.le_of_ble_eq_true rfl, Nat.le_of_ble_eq_true rfl⟩ ⟨Nat.le_of_ble_eq_true rfl, Nat.le_of_ble_eq_true rfl⟩ rfl (Nat.le_of_ble_eq_true rfl) ?_
          change KW x 2 12 Q σ_8 48 [some (kr 0), some (ki x1), some (ki x2), some (ki x3), some (ki r_4)] []
          refine kw_aload_n C (kdec dc_P_rewrite 25 rfl) rfl 49 rfl rfl ?_
          refine kw_getR C (kdec dc_P_rewrite 26 rfl) 52 rfl fd_C_P_43_0 ?_
          refine kw_getR C (kdec dc_P_rewrite 27 rfl) 55 rfl fd_C_P_56_29 ?_
          refine kw_iload_n C (kdec dc_P_rewrite 28 rfl) rfl 56 rfl rfl ?_
          refine kw_iload_n C (kdec dc_P_rewrite 29 rfl) rfl 57 rfl rfl ?_
          refine kw_iload_n C (kdec dc_P_rewrite 30 rfl) rfl 58 rfl rfl ?_
          obtain ⟨σ_9, hg_10, h⟩ := kbind_h h
          refine kw_callV (As := [ki x1, ki x2, ki x3]) C (kdec dc_P_rewrite 31 rfl) 61 rfl cv_P_203 rfl rfl (mt_pf_World_setDepth_30 l0 hg_10) ⟨rfl, rfl⟩ ⟨Nat.le_of_ble_eq_true rfl, Nat.le_of_ble_eq_true rfl⟩ ⟨Nat.le_of_ble_eq_true rfl, Nat.le_of_ble_eq_true rfl⟩ rfl (Nat.le_of_ble_eq_true rfl) ?_
          change KW x 2 12 Q σ_9 61 [some (kr 0), some (ki x1), some (ki x2), some (ki x3), some (ki r_4)] []
          refine kw_iload C (kdec dc_P_rewrite 32 rfl) 63 rfl rfl ?_
          obtain rfl := Option.some.inj h
          exact kw_Q (hR _ _ rfl) (kw_xret (by decide) (by decide) (kw_ireturn C (kdec dc_P_rewrite 33 rfl)))
        · rw [if_pos hc33] at h
          exact kw_sub (L' := [some (kr 0), none, none, none, none]) ⟨rfl, trivial⟩ (kw_widen (by decide) (by decide) (bd_pf_P_rewrite_0_j36 C hT hfl σ_1 h hR hE))
theorem mx_pf_P_rewrite_0 (l0 : Launch) (hfl : l0.stackTraces = false) {σ : kM} {x1 : Int} {x2 : Int} {x3 : Int} {r : Int} {τ : kM} (h : pf_P_rewrite_0 σ x1 x2 x3 = some (.inr r, τ)) : kXet l0 ky_P_rewrite prog_1_method_11_code 5 (some .int) R0_pf_P_rewrite_0 kcl yC σ [kr 0, ki x1, ki x2, ki x3] (.inr (some (ki r))) τ 2 12 := kXet.of [some (kr 0), some (ki x1), some (ki x2), some (ki x3), none] (by decide) (Nat.le_of_ble_eq_true rfl) ⟨rfl, rfl, rfl, rfl, trivial⟩ (fun x C hT => bd_pf_P_rewrite_0 C hT hfl σ x1 x2 x3 h (fun r τ e => by cases e; rfl) (fun E τ e => by cases e))
theorem me_pf_P_rewrite_0 (l0 : Launch) (hfl : l0.stackTraces = false) {σ : kM} {x1 : Int} {x2 : Int} {x3 : Int} {E : String} {τ : kM} (h : pf_P_rewrite_0 σ x1 x2 x3 = some (.inl E, τ)) : kXet l0 ky_P_rewrite prog_1_method_11_code 5 (some .int) R0_pf_P_rewrite_0 kcl yC σ [kr 0, ki x1, ki x2, ki x3] (.inl E) τ 2 12 := kXet.of [some (kr 0), some (ki x1), some (ki x2), some (ki x3), none] (by decide) (Nat.le_of_ble_eq_true rfl) ⟨rfl, rfl, rfl, rfl, trivial⟩ (fun x C hT => bd_pf_P_rewrite_0 C hT hfl σ x1 x2 x3 h (fun r τ e => by cases e) (fun E τ e => by cases e; rfl))
def R0_pf_P_pardon_0 : Room := ({ frames := 7, cells := 1, slots := 6, locals := 121 } : Room)
def pf_P_pardon_0 (σ : kM) (x1 : Int) : Option ((String ⊕ Int) × kM) :=
  (pf_P_needPoet_0 σ x1).bind fun q_13 => match q_13 with
  | (.inl E_3, σ_1) => some (.inl E_3, σ_1)
  | (.inr _, σ_1) =>
    kchk (0 ≤ (w32 (57 + x1)) ∧ (w32 (57 + x1)) < 85) <|
    klet (σ_1 31 (w32 (57 + x1)).toNat) fun x2_5 =>
    if x2_5 = 0 then
      (pf_P_refusedAct_0 σ_1).bind fun (r_10, σ_11) =>
      some ((.inr r_10, σ_11))
    else
      (pf_Chronicle_remember_29 σ_1).bind fun σ_6 =>
      kchk (0 ≤ (w32 (57 + x1)) ∧ (w32 (57 + x1)) < 85) <|
      klet (kst σ_6 31 (kup (σ_6 31) ((w32 (57 + x1)).toNat) 0)) fun σ_8 =>
      some ((.inr x2_5, σ_8))
set_option maxHeartbeats 4000000 in
theorem bd_pf_P_pardon_0 {x : kX} {l0 : Launch} {Q : State → Prop} (C : kCx x prog_1_method_12_code "PoetFines" (some .int) kcl yC 3 l0 R0_pf_P_pardon_0) (hT : kTb x) (hfl : l0.stackTraces = false) (σ : kM) (x1 : Int) {out : (String ⊕ Int) × kM} (h : pf_P_pardon_0 σ x1 = some out) (hR : ∀ (r : Int) (τ : kM), out = (.inr r, τ) → Q = kQX x (.inr (some (ki r))) τ 1 6) (hE : ∀ (E : String) (τ : kM), out = (.inl E, τ) → Q = kQX x (.inl E) τ 1 6) : KW x 0 0 Q σ 0 [some (kr 0), some (ki x1), none] [] := by
  unfold pf_P_pardon_0 at h
  refine kw_aload_n C (kdec dc_P_pardon 0 rfl) rfl 1 rfl rfl ?_
  refine kw_iload_n C (kdec dc_P_pardon 1 rfl) rfl 2 rfl rfl ?_
  obtain ⟨⟨q_13, σ_1⟩, hg_2, h⟩ := kbind_h h
  rcases q_13 with E_3 | _
  · dsimp only at h
    obtain rfl := Option.some.inj h
    exact kw_Q (hE _ _ rfl) (kw_callVX_t (As := [ki x1]) C hT (kdec dc_P_pardon 2 rfl) cv_P_162 rfl rfl (me_pf_P_needPoet_0 l0 hfl hg_2) ⟨rfl, rfl⟩ ⟨Nat.le_of_ble_eq_true rfl, Nat.le_of_ble_eq_true rfl⟩ ⟨Nat.le_of_ble_eq_true rfl, Nat.le_of_ble_eq_true rfl⟩ rfl (Nat.le_of_ble_eq_true rfl) (Nat.le_of_ble_eq_true rfl) (Nat.le_of_ble_eq_true rfl))
  · dsimp only at h
    refine kw_callVX (As := [ki x1]) C (kdec dc_P_pardon 2 rfl) 5 rfl cv_P_162 rfl rfl (mx_pf_P_needPoet_0 l0 hfl hg_2) ⟨rfl, rfl⟩ ⟨Nat.le_of_ble_eq_true rfl, Nat.le_of_ble_eq_true rfl⟩ ⟨Nat.le_of_ble_eq_true rfl, Nat.le_of_ble_eq_true rfl⟩ rfl (Nat.le_of_ble_eq_true rfl) ?_
    change KW x 1 6 Q σ_1 5 [some (kr 0), some (ki x1), none] []
    refine kw_aload_n C (kdec dc_P_pardon 3 rfl) rfl 6 rfl rfl ?_
    refine kw_getR C (kdec dc_P_pardon 4 rfl) 9 rfl fd_C_P_43_0 ?_
    refine kw_getR C (kdec dc_P_pardon 5 rfl) 12 rfl fd_C_P_56_29 ?_
    refine kw_getR C (kdec dc_P_pardon 6 rfl) 15 rfl fd_C_P_122_30 ?_
    refine kw_bipush (v := 57) C (kdec dc_P_pardon 7 rfl) 17 rfl (by decide) ⟨by decide, by decide⟩ ?_
    refine kw_iload_n C (kdec dc_P_pardon 8 rfl) rfl 18 rfl rfl ?_
    refine kw_iadd C (kdec dc_P_pardon 9 rfl) 19 rfl ?_
    obtain ⟨hc_4, h⟩ := kchk_h h
    refine kw_iald C (kdec dc_P_pardon 10 rfl) 20 rfl rfl hc_4.1 hc_4.2 ?_
    obtain ⟨x2_5, ex2_5, h⟩ := klet_h h
    refine kw_top ex2_5 ?_
    refine kw_istore_n (L' := [some (kr 0), some (ki x1), some (ki x2_5)]) C (kdec dc_P_pardon 11 rfl) rfl 21 rfl (by decide) rfl rfl ?_
    refine kw_iload_n C (kdec dc_P_pardon 12 rfl) rfl 22 rfl rfl ?_
    refine kw_if_ne C (kdec dc_P_pardon 13 rfl) 30 25 (by decide) rfl (fun hc22 => ?_) (fun hc22 => ?_)
    · rw [if_neg hc22] at h
      refine kw_aload_n C (kdec dc_P_pardon 17 rfl) rfl 31 rfl rfl ?_
      refine kw_getR C (kdec dc_P_pardon 18 rfl) 34 rfl fd_C_P_43_0 ?_
      obtain ⟨σ_6, hg_9, h⟩ := kbind_h h
      refine kw_callV (As := []) C (kdec dc_P_pardon 19 rfl) 37 rfl cv_P_193 rfl rfl (mt_pf_Chronicle_remember_29 l0 hg_9) ⟨rfl, rfl⟩ ⟨Nat.le_of_ble_eq_true rfl, Nat.le_of_ble_eq_true rfl⟩ ⟨Nat.le_of_ble_eq_true rfl, Nat.le_of_ble_eq_true rfl⟩ rfl (Nat.le_of_ble_eq_true rfl) ?_
      change KW x 1 6 Q σ_6 37 [some (kr 0), some (ki x1), some (ki x2_5)] []
      refine kw_aload_n C (kdec dc_P_pardon 20 rfl) rfl 38 rfl rfl ?_
      refine kw_getR C (kdec dc_P_pardon 21 rfl) 41 rfl fd_C_P_43_0 ?_
      refine kw_getR C (kdec dc_P_pardon 22 rfl) 44 rfl fd_C_P_56_29 ?_
      refine kw_getR C (kdec dc_P_pardon 23 rfl) 47 rfl fd_C_P_122_30 ?_
      refine kw_bipush (v := 57) C (kdec dc_P_pardon 24 rfl) 49 rfl (by decide) ⟨by decide, by decide⟩ ?_
      refine kw_iload_n C (kdec dc_P_pardon 25 rfl) rfl 50 rfl rfl ?_
      refine kw_iadd C (kdec dc_P_pardon 26 rfl) 51 rfl ?_
      refine kw_iconst C (kdec dc_P_pardon 27 rfl) 52 rfl rfl ⟨by decide, by decide⟩ ?_
      obtain ⟨hc_7, h⟩ := kchk_h h
      obtain ⟨σ_8, eσ_8, h⟩ := klet_h h
      refine kw_iast C (kdec dc_P_pardon 28 rfl) 53 rfl rfl hc_7.1 hc_7.2 ?_
      refine kw_sig eσ_8 ?_
      refine kw_iload_n C (kdec dc_P_pardon 29 rfl) rfl 54 rfl rfl ?_
      obtain rfl := Option.some.inj h
      exact kw_Q (hR _ _ rfl) (kw_xret (by decide) (by decide) (kw_ireturn C (kdec dc_P_pardon 30 rfl)))
    · rw [if_pos hc22] at h
      refine kw_aload_n C (kdec dc_P_pardon 14 rfl) rfl 26 rfl rfl ?_
      obtain ⟨⟨r_10, σ_11⟩, hg_12, h⟩ := kbind_h h
      dsimp only at h
      refine kw_callV (As := []) C (kdec dc_P_pardon 15 rfl) 29 rfl cv_P_189 rfl rfl (mt_pf_P_refusedAct_0 l0 hg_12) ⟨rfl, rfl⟩ ⟨Nat.le_of_ble_eq_true rfl, Nat.le_of_ble_eq_true rfl⟩ ⟨Nat.le_of_ble_eq_true rfl, Nat.le_of_ble_eq_true rfl⟩ rfl (Nat.le_of_ble_eq_true rfl) ?_
      change KW x 1 6 Q σ_11 29 [some (kr 0), some (ki x1), some (ki x2_5)] [ki r_10]
      obtain rfl := Option.some.inj h
      exact kw_Q (hR _ _ rfl) (kw_xret (by decide) (by decide) (kw_ireturn C (kdec dc_P_pardon 16 rfl)))
theorem mx_pf_P_pardon_0 (l0 : Launch) (hfl : l0.stackTraces = false) {σ : kM} {x1 : Int} {r : Int} {τ : kM} (h : pf_P_pardon_0 σ x1 = some (.inr r, τ)) : kXet l0 ky_P_pardon prog_1_method_12_code 3 (some .int) R0_pf_P_pardon_0 kcl yC σ [kr 0, ki x1] (.inr (some (ki r))) τ 1 6 := kXet.of [some (kr 0), some (ki x1), none] (by decide) (Nat.le_of_ble_eq_true rfl) ⟨rfl, rfl, trivial⟩ (fun x C hT => bd_pf_P_pardon_0 C hT hfl σ x1 h (fun r τ e => by cases e; rfl) (fun E τ e => by cases e))
theorem me_pf_P_pardon_0 (l0 : Launch) (hfl : l0.stackTraces = false) {σ : kM} {x1 : Int} {E : String} {τ : kM} (h : pf_P_pardon_0 σ x1 = some (.inl E, τ)) : kXet l0 ky_P_pardon prog_1_method_12_code 3 (some .int) R0_pf_P_pardon_0 kcl yC σ [kr 0, ki x1] (.inl E) τ 1 6 := kXet.of [some (kr 0), some (ki x1), none] (by decide) (Nat.le_of_ble_eq_true rfl) ⟨rfl, rfl, trivial⟩ (fun x C hT => bd_pf_P_pardon_0 C hT hfl σ x1 h (fun r τ e => by cases e) (fun E τ e => by cases e; rfl))
def R0_pf_P_fill_0 : Room := ({ frames := 7, cells := 1, slots := 6, locals := 121 } : Room)
def pf_P_fill_0_j35 (σ : kM) : Option ((String ⊕ Int) × kM) :=
  (pf_P_refusedAct_0 σ).bind fun (r_6, σ_7) =>
  some ((.inr r_6, σ_7))
set_option maxHeartbeats 4000000 in
theorem bd_pf_P_fill_0_j35 {x : kX} {l0 : Launch} {Q : State → Prop} (C : kCx x prog_1_method_13_code "PoetFines" (some .int) kcl yC 4 l0 R0_pf_P_fill_0) (hT : kTb x) (hfl : l0.stackTraces = false) (σ : kM) {out : (String ⊕ Int) × kM} (h : pf_P_fill_0_j35 σ = some out) (hR : ∀ (r : Int) (τ : kM), out = (.inr r, τ) → Q = kQX x (.inr (some (ki r))) τ 1 6) (hE : ∀ (E : String) (τ : kM), out = (.inl E, τ) → Q = kQX x (.inl E) τ 1 6) : KW x 1 6 Q σ 35 [some (kr 0), none, none, none] [] := by
  unfold pf_P_fill_0_j35 at h
  refine kw_aload_n C (kdec dc_P_fill 20 rfl) rfl 36 rfl rfl ?_
  obtain ⟨⟨r_6, σ_7⟩, hg_8, h⟩ := kbind_h h
  dsimp only at h
  refine kw_callV (As := []) C (kdec dc_P_fill 21 rfl) 39 rfl cv_P_189 rfl rfl (mt_pf_P_refusedAct_0 l0 hg_8) ⟨rfl, rfl⟩ ⟨Nat.le_of_ble_eq_true rfl, Nat.le_of_ble_eq_true rfl⟩ ⟨Nat.le_of_ble_eq_true rfl, Nat.le_of_ble_eq_true rfl⟩ rfl (Nat.le_of_ble_eq_true rfl) ?_
  change KW x 1 6 Q σ_7 39 [some (kr 0), none, none, none] [ki r_6]
  obtain rfl := Option.some.inj h
  exact kw_Q (hR _ _ rfl) (kw_xret (by decide) (by decide) (kw_ireturn C (kdec dc_P_fill 22 rfl)))
def pf_P_fill_0 (σ : kM) (x1 : Int) (x2 : Int) : Option ((String ⊕ Int) × kM) :=
  (pf_P_needPerson_0 σ x1).bind fun q_13 => match q_13 with
  | (.inl E_3, σ_1) => some (.inl E_3, σ_1)
  | (.inr _, σ_1) =>
    kchk (0 ≤ (w32 (1 + x1)) ∧ (w32 (1 + x1)) < 85) <|
    klet (σ_1 31 (w32 (1 + x1)).toNat) fun x3_5 =>
    if x2 < 0 then
      pf_P_fill_0_j35 σ_1
    else
      if 99 < x2 then
        pf_P_fill_0_j35 σ_1
      else
        if x2 = x3_5 then
          pf_P_fill_0_j35 σ_1
        else
          (pf_Chronicle_remember_29 σ_1).bind fun σ_9 =>
          kchk (0 ≤ (w32 (1 + x1)) ∧ (w32 (1 + x1)) < 85) <|
          klet (kst σ_9 31 (kup (σ_9 31) ((w32 (1 + x1)).toNat) x2)) fun σ_11 =>
          some ((.inr x3_5, σ_11))
set_option maxHeartbeats 4000000 in
theorem bd_pf_P_fill_0 {x : kX} {l0 : Launch} {Q : State → Prop} (C : kCx x prog_1_method_13_code "PoetFines" (some .int) kcl yC 4 l0 R0_pf_P_fill_0) (hT : kTb x) (hfl : l0.stackTraces = false) (σ : kM) (x1 : Int) (x2 : Int) {out : (String ⊕ Int) × kM} (h : pf_P_fill_0 σ x1 x2 = some out) (hR : ∀ (r : Int) (τ : kM), out = (.inr r, τ) → Q = kQX x (.inr (some (ki r))) τ 1 6) (hE : ∀ (E : String) (τ : kM), out = (.inl E, τ) → Q = kQX x (.inl E) τ 1 6) : KW x 0 0 Q σ 0 [some (kr 0), some (ki x1), some (ki x2), none] [] := by
  unfold pf_P_fill_0 at h
  refine kw_aload_n C (kdec dc_P_fill 0 rfl) rfl 1 rfl rfl ?_
  refine kw_iload_n C (kdec dc_P_fill 1 rfl) rfl 2 rfl rfl ?_
  obtain ⟨⟨q_13, σ_1⟩, hg_2, h⟩ := kbind_h h
  rcases q_13 with E_3 | _
  · dsimp only at h
    obtain rfl := Option.some.inj h
    exact kw_Q (hE _ _ rfl) (kw_callVX_t (As := [ki x1]) C hT (kdec dc_P_fill 2 rfl) cv_P_148 rfl rfl (me_pf_P_needPerson_0 l0 hfl hg_2) ⟨rfl, rfl⟩ ⟨Nat.le_of_ble_eq_true rfl, Nat.le_of_ble_eq_true rfl⟩ ⟨Nat.le_of_ble_eq_true rfl, Nat.le_of_ble_eq_true rfl⟩ rfl (Nat.le_of_ble_eq_true rfl) (Nat.le_of_ble_eq_true rfl) (Nat.le_of_ble_eq_true rfl))
  · dsimp only at h
    refine kw_callVX (As := [ki x1]) C (kdec dc_P_fill 2 rfl) 5 rfl cv_P_148 rfl rfl (mx_pf_P_needPerson_0 l0 hfl hg_2) ⟨rfl, rfl⟩ ⟨Nat.le_of_ble_eq_true rfl, Nat.le_of_ble_eq_true rfl⟩ ⟨Nat.le_of_ble_eq_true rfl, Nat.le_of_ble_eq_true rfl⟩ rfl (Nat.le_of_ble_eq_true rfl) ?_
    change KW x 1 6 Q σ_1 5 [some (kr 0), some (ki x1), some (ki x2), none] []
    refine kw_aload_n C (kdec dc_P_fill 3 rfl) rfl 6 rfl rfl ?_
    refine kw_getR C (kdec dc_P_fill 4 rfl) 9 rfl fd_C_P_43_0 ?_
    refine kw_getR C (kdec dc_P_fill 5 rfl) 12 rfl fd_C_P_56_29 ?_
    refine kw_getR C (kdec dc_P_fill 6 rfl) 15 rfl fd_C_P_122_30 ?_
    refine kw_iconst C (kdec dc_P_fill 7 rfl) 16 rfl rfl ⟨by decide, by decide⟩ ?_
    refine kw_iload_n C (kdec dc_P_fill 8 rfl) rfl 17 rfl rfl ?_
    refine kw_iadd C (kdec dc_P_fill 9 rfl) 18 rfl ?_
    obtain ⟨hc_4, h⟩ := kchk_h h
    refine kw_iald C (kdec dc_P_fill 10 rfl) 19 rfl rfl hc_4.1 hc_4.2 ?_
    obtain ⟨x3_5, ex3_5, h⟩ := klet_h h
    refine kw_top ex3_5 ?_
    refine kw_istore_n (L' := [some (kr 0), some (ki x1), some (ki x2), some (ki x3_5)]) C (kdec dc_P_fill 11 rfl) rfl 20 rfl (by decide) rfl rfl ?_
    refine kw_iload_n C (kdec dc_P_fill 12 rfl) rfl 21 rfl rfl ?_
    refine kw_if_lt C (kdec dc_P_fill 13 rfl) 35 24 (by decide) rfl (fun hc21 => ?_) (fun hc21 => ?_)
    · rw [if_pos hc21] at h
      exact kw_sub (L' := [some (kr 0), none, none, none]) ⟨rfl, trivial⟩ (kw_widen (by decide) (by decide) (bd_pf_P_fill_0_j35 C hT hfl σ_1 h hR hE))
    · rw [if_neg hc21] at h
      refine kw_iload_n C (kdec dc_P_fill 14 rfl) rfl 25 rfl rfl ?_
      refine kw_bipush (v := 99) C (kdec dc_P_fill 15 rfl) 27 rfl (by decide) ⟨by decide, by decide⟩ ?_
      refine kw_icmp_gt C (kdec dc_P_fill 16 rfl) 35 30 (by decide) rfl (fun hc27 => ?_) (fun hc27 => ?_)
      · rw [if_pos hc27] at h
        exact kw_sub (L' := [some (kr 0), none, none, none]) ⟨rfl, trivial⟩ (kw_widen (by decide) (by decide) (bd_pf_P_fill_0_j35 C hT hfl σ_1 h hR hE))
      · rw [if_neg hc27] at h
        refine kw_iload_n C (kdec dc_P_fill 17 rfl) rfl 31 rfl rfl ?_
        refine kw_iload_n C (kdec dc_P_fill 18 rfl) rfl 32 rfl rfl ?_
        refine kw_icmp_ne C (kdec dc_P_fill 19 rfl) 40 35 (by decide) rfl (fun hc32 => ?_) (fun hc32 => ?_)
        · rw [if_neg hc32] at h
          refine kw_aload_n C (kdec dc_P_fill 23 rfl) rfl 41 rfl rfl ?_
          refine kw_getR C (kdec dc_P_fill 24 rfl) 44 rfl fd_C_P_43_0 ?_
          obtain ⟨σ_9, hg_12, h⟩ := kbind_h h
          refine kw_callV (As := []) C (kdec dc_P_fill 25 rfl) 47 rfl cv_P_193 rfl rfl (mt_pf_Chronicle_remember_29 l0 hg_12) ⟨rfl, rfl⟩ ⟨Nat.le_of_ble_eq_true rfl, Nat.le_of_ble_eq_true rfl⟩ ⟨Nat.le_of_ble_eq_true rfl, Nat.le_of_ble_eq_true rfl⟩ rfl (Nat.le_of_ble_eq_true rfl) ?_
          change KW x 1 6 Q σ_9 47 [some (kr 0), some (ki x1), some (ki x2), some (ki x3_5)] []
          refine kw_aload_n C (kdec dc_P_fill 26 rfl) rfl 48 rfl rfl ?_
          refine kw_getR C (kdec dc_P_fill 27 rfl) 51 rfl fd_C_P_43_0 ?_
          refine kw_getR C (kdec dc_P_fill 28 rfl) 54 rfl fd_C_P_56_29 ?_
          refine kw_getR C (kdec dc_P_fill 29 rfl) 57 rfl fd_C_P_122_30 ?_
          refine kw_iconst C (kdec dc_P_fill 30 rfl) 58 rfl rfl ⟨by decide, by decide⟩ ?_
          refine kw_iload_n C (kdec dc_P_fill 31 rfl) rfl 59 rfl rfl ?_
          refine kw_iadd C (kdec dc_P_fill 32 rfl) 60 rfl ?_
          refine kw_iload_n C (kdec dc_P_fill 33 rfl) rfl 61 rfl rfl ?_
          obtain ⟨hc_10, h⟩ := kchk_h h
          obtain ⟨σ_11, eσ_11, h⟩ := klet_h h
          refine kw_iast C (kdec dc_P_fill 34 rfl) 62 rfl rfl hc_10.1 hc_10.2 ?_
          refine kw_sig eσ_11 ?_
          refine kw_iload_n C (kdec dc_P_fill 35 rfl) rfl 63 rfl rfl ?_
          obtain rfl := Option.some.inj h
          exact kw_Q (hR _ _ rfl) (kw_xret (by decide) (by decide) (kw_ireturn C (kdec dc_P_fill 36 rfl)))
        · rw [if_pos hc32] at h
          exact kw_sub (L' := [some (kr 0), none, none, none]) ⟨rfl, trivial⟩ (kw_widen (by decide) (by decide) (bd_pf_P_fill_0_j35 C hT hfl σ_1 h hR hE))
theorem mx_pf_P_fill_0 (l0 : Launch) (hfl : l0.stackTraces = false) {σ : kM} {x1 : Int} {x2 : Int} {r : Int} {τ : kM} (h : pf_P_fill_0 σ x1 x2 = some (.inr r, τ)) : kXet l0 ky_P_fill prog_1_method_13_code 4 (some .int) R0_pf_P_fill_0 kcl yC σ [kr 0, ki x1, ki x2] (.inr (some (ki r))) τ 1 6 := kXet.of [some (kr 0), some (ki x1), some (ki x2), none] (by decide) (Nat.le_of_ble_eq_true rfl) ⟨rfl, rfl, rfl, trivial⟩ (fun x C hT => bd_pf_P_fill_0 C hT hfl σ x1 x2 h (fun r τ e => by cases e; rfl) (fun E τ e => by cases e))
theorem me_pf_P_fill_0 (l0 : Launch) (hfl : l0.stackTraces = false) {σ : kM} {x1 : Int} {x2 : Int} {E : String} {τ : kM} (h : pf_P_fill_0 σ x1 x2 = some (.inl E, τ)) : kXet l0 ky_P_fill prog_1_method_13_code 4 (some .int) R0_pf_P_fill_0 kcl yC σ [kr 0, ki x1, ki x2] (.inl E) τ 1 6 := kXet.of [some (kr 0), some (ki x1), some (ki x2), none] (by decide) (Nat.le_of_ble_eq_true rfl) ⟨rfl, rfl, rfl, trivial⟩ (fun x C hT => bd_pf_P_fill_0 C hT hfl σ x1 x2 h (fun r τ e => by cases e) (fun E τ e => by cases e; rfl))
def R0_pf_P_heal_0 : Room := ({ frames := 7, cells := 1, slots := 6, locals := 121 } : Room)
def pf_P_heal_0 (σ : kM) (x1 : Int) : Option ((String ⊕ Int) × kM) :=
  (pf_P_needPerson_0 σ x1).bind fun q_13 => match q_13 with
  | (.inl E_3, σ_1) => some (.inl E_3, σ_1)
  | (.inr _, σ_1) =>
    kchk (0 ≤ (w32 (9 + x1)) ∧ (w32 (9 + x1)) < 85) <|
    klet (σ_1 31 (w32 (9 + x1)).toNat) fun x2_5 =>
    if x2_5 = 0 then
      (pf_P_refusedAct_0 σ_1).bind fun (r_10, σ_11) =>
      some ((.inr r_10, σ_11))
    else
      (pf_Chronicle_remember_29 σ_1).bind fun σ_6 =>
      kchk (0 ≤ (w32 (9 + x1)) ∧ (w32 (9 + x1)) < 85) <|
      klet (kst σ_6 31 (kup (σ_6 31) ((w32 (9 + x1)).toNat) 0)) fun σ_8 =>
      some ((.inr x2_5, σ_8))
set_option maxHeartbeats 4000000 in
theorem bd_pf_P_heal_0 {x : kX} {l0 : Launch} {Q : State → Prop} (C : kCx x prog_1_method_14_code "PoetFines" (some .int) kcl yC 3 l0 R0_pf_P_heal_0) (hT : kTb x) (hfl : l0.stackTraces = false) (σ : kM) (x1 : Int) {out : (String ⊕ Int) × kM} (h : pf_P_heal_0 σ x1 = some out) (hR : ∀ (r : Int) (τ : kM), out = (.inr r, τ) → Q = kQX x (.inr (some (ki r))) τ 1 6) (hE : ∀ (E : String) (τ : kM), out = (.inl E, τ) → Q = kQX x (.inl E) τ 1 6) : KW x 0 0 Q σ 0 [some (kr 0), some (ki x1), none] [] := by
  unfold pf_P_heal_0 at h
  refine kw_aload_n C (kdec dc_P_heal 0 rfl) rfl 1 rfl rfl ?_
  refine kw_iload_n C (kdec dc_P_heal 1 rfl) rfl 2 rfl rfl ?_
  obtain ⟨⟨q_13, σ_1⟩, hg_2, h⟩ := kbind_h h
  rcases q_13 with E_3 | _
  · dsimp only at h
    obtain rfl := Option.some.inj h
    exact kw_Q (hE _ _ rfl) (kw_callVX_t (As := [ki x1]) C hT (kdec dc_P_heal 2 rfl) cv_P_148 rfl rfl (me_pf_P_needPerson_0 l0 hfl hg_2) ⟨rfl, rfl⟩ ⟨Nat.le_of_ble_eq_true rfl, Nat.le_of_ble_eq_true rfl⟩ ⟨Nat.le_of_ble_eq_true rfl, Nat.le_of_ble_eq_true rfl⟩ rfl (Nat.le_of_ble_eq_true rfl) (Nat.le_of_ble_eq_true rfl) (Nat.le_of_ble_eq_true rfl))
  · dsimp only at h
    refine kw_callVX (As := [ki x1]) C (kdec dc_P_heal 2 rfl) 5 rfl cv_P_148 rfl rfl (mx_pf_P_needPerson_0 l0 hfl hg_2) ⟨rfl, rfl⟩ ⟨Nat.le_of_ble_eq_true rfl, Nat.le_of_ble_eq_true rfl⟩ ⟨Nat.le_of_ble_eq_true rfl, Nat.le_of_ble_eq_true rfl⟩ rfl (Nat.le_of_ble_eq_true rfl) ?_
    change KW x 1 6 Q σ_1 5 [some (kr 0), some (ki x1), none] []
    refine kw_aload_n C (kdec dc_P_heal 3 rfl) rfl 6 rfl rfl ?_
    refine kw_getR C (kdec dc_P_heal 4 rfl) 9 rfl fd_C_P_43_0 ?_
    refine kw_getR C (kdec dc_P_heal 5 rfl) 12 rfl fd_C_P_56_29 ?_
    refine kw_getR C (kdec dc_P_heal 6 rfl) 15 rfl fd_C_P_122_30 ?_
    refine kw_bipush (v := 9) C (kdec dc_P_heal 7 rfl) 17 rfl (by decide) ⟨by decide, by decide⟩ ?_
    refine kw_iload_n C (kdec dc_P_heal 8 rfl) rfl 18 rfl rfl ?_
    refine kw_iadd C (kdec dc_P_heal 9 rfl) 19 rfl ?_
    obtain ⟨hc_4, h⟩ := kchk_h h
    refine kw_iald C (kdec dc_P_heal 10 rfl) 20 rfl rfl hc_4.1 hc_4.2 ?_
    obtain ⟨x2_5, ex2_5, h⟩ := klet_h h
    refine kw_top ex2_5 ?_
    refine kw_istore_n (L' := [some (kr 0), some (ki x1), some (ki x2_5)]) C (kdec dc_P_heal 11 rfl) rfl 21 rfl (by decide) rfl rfl ?_
    refine kw_iload_n C (kdec dc_P_heal 12 rfl) rfl 22 rfl rfl ?_
    refine kw_if_ne C (kdec dc_P_heal 13 rfl) 30 25 (by decide) rfl (fun hc22 => ?_) (fun hc22 => ?_)
    · rw [if_neg hc22] at h
      refine kw_aload_n C (kdec dc_P_heal 17 rfl) rfl 31 rfl rfl ?_
      refine kw_getR C (kdec dc_P_heal 18 rfl) 34 rfl fd_C_P_43_0 ?_
      obtain ⟨σ_6, hg_9, h⟩ := kbind_h h
      refine kw_callV (As := []) C (kdec dc_P_heal 19 rfl) 37 rfl cv_P_193 rfl rfl (mt_pf_Chronicle_remember_29 l0 hg_9) ⟨rfl, rfl⟩ ⟨Nat.le_of_ble_eq_true rfl, Nat.le_of_ble_eq_true rfl⟩ ⟨Nat.le_of_ble_eq_true rfl, Nat.le_of_ble_eq_true rfl⟩ rfl (Nat.le_of_ble_eq_true rfl) ?_
      change KW x 1 6 Q σ_6 37 [some (kr 0), some (ki x1), some (ki x2_5)] []
      refine kw_aload_n C (kdec dc_P_heal 20 rfl) rfl 38 rfl rfl ?_
      refine kw_getR C (kdec dc_P_heal 21 rfl) 41 rfl fd_C_P_43_0 ?_
      refine kw_getR C (kdec dc_P_heal 22 rfl) 44 rfl fd_C_P_56_29 ?_
      refine kw_getR C (kdec dc_P_heal 23 rfl) 47 rfl fd_C_P_122_30 ?_
      refine kw_bipush (v := 9) C (kdec dc_P_heal 24 rfl) 49 rfl (by decide) ⟨by decide, by decide⟩ ?_
      refine kw_iload_n C (kdec dc_P_heal 25 rfl) rfl 50 rfl rfl ?_
      refine kw_iadd C (kdec dc_P_heal 26 rfl) 51 rfl ?_
      refine kw_iconst C (kdec dc_P_heal 27 rfl) 52 rfl rfl ⟨by decide, by decide⟩ ?_
      obtain ⟨hc_7, h⟩ := kchk_h h
      obtain ⟨σ_8, eσ_8, h⟩ := klet_h h
      refine kw_iast C (kdec dc_P_heal 28 rfl) 53 rfl rfl hc_7.1 hc_7.2 ?_
      refine kw_sig eσ_8 ?_
      refine kw_iload_n C (kdec dc_P_heal 29 rfl) rfl 54 rfl rfl ?_
      obtain rfl := Option.some.inj h
      exact kw_Q (hR _ _ rfl) (kw_xret (by decide) (by decide) (kw_ireturn C (kdec dc_P_heal 30 rfl)))
    · rw [if_pos hc22] at h
      refine kw_aload_n C (kdec dc_P_heal 14 rfl) rfl 26 rfl rfl ?_
      obtain ⟨⟨r_10, σ_11⟩, hg_12, h⟩ := kbind_h h
      dsimp only at h
      refine kw_callV (As := []) C (kdec dc_P_heal 15 rfl) 29 rfl cv_P_189 rfl rfl (mt_pf_P_refusedAct_0 l0 hg_12) ⟨rfl, rfl⟩ ⟨Nat.le_of_ble_eq_true rfl, Nat.le_of_ble_eq_true rfl⟩ ⟨Nat.le_of_ble_eq_true rfl, Nat.le_of_ble_eq_true rfl⟩ rfl (Nat.le_of_ble_eq_true rfl) ?_
      change KW x 1 6 Q σ_11 29 [some (kr 0), some (ki x1), some (ki x2_5)] [ki r_10]
      obtain rfl := Option.some.inj h
      exact kw_Q (hR _ _ rfl) (kw_xret (by decide) (by decide) (kw_ireturn C (kdec dc_P_heal 16 rfl)))
theorem mx_pf_P_heal_0 (l0 : Launch) (hfl : l0.stackTraces = false) {σ : kM} {x1 : Int} {r : Int} {τ : kM} (h : pf_P_heal_0 σ x1 = some (.inr r, τ)) : kXet l0 ky_P_heal prog_1_method_14_code 3 (some .int) R0_pf_P_heal_0 kcl yC σ [kr 0, ki x1] (.inr (some (ki r))) τ 1 6 := kXet.of [some (kr 0), some (ki x1), none] (by decide) (Nat.le_of_ble_eq_true rfl) ⟨rfl, rfl, trivial⟩ (fun x C hT => bd_pf_P_heal_0 C hT hfl σ x1 h (fun r τ e => by cases e; rfl) (fun E τ e => by cases e))
theorem me_pf_P_heal_0 (l0 : Launch) (hfl : l0.stackTraces = false) {σ : kM} {x1 : Int} {E : String} {τ : kM} (h : pf_P_heal_0 σ x1 = some (.inl E, τ)) : kXet l0 ky_P_heal prog_1_method_14_code 3 (some .int) R0_pf_P_heal_0 kcl yC σ [kr 0, ki x1] (.inl E) τ 1 6 := kXet.of [some (kr 0), some (ki x1), none] (by decide) (Nat.le_of_ble_eq_true rfl) ⟨rfl, rfl, trivial⟩ (fun x C hT => bd_pf_P_heal_0 C hT hfl σ x1 h (fun r τ e => by cases e) (fun E τ e => by cases e; rfl))

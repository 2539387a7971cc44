def R0_pf_Chronicle_recall_29 : Room := ({ frames := 1, cells := 0, slots := 0, locals := 60 } : Room)
def pf_Chronicle_recall_29 (σ : kM) : Option (kM) :=
  if (σ 29 1) ≤ 0 then
    some σ
  else
    klet (kst σ 29 (kup (σ 29) 1 (w32 ((σ 29 1) - 1)))) fun σ_1 =>
    klet (krem (w32 ((σ_1 29 3) + (σ_1 29 1))) 40) fun x1_2 =>
    kchk ((0 : Int) ≤ (w32 (x1_2 * 85)) ∧ (0 : Int) ≤ 0 ∧ (0 : Int) ≤ 85 ∧ (w32 (x1_2 * 85)) + 85 ≤ (3400 : Int) ∧ 0 + 85 ≤ (85 : Int)) <|
    klet (kst σ_1 31 (va_cpy (σ_1 32) (σ_1 31) (w32 (x1_2 * 85)).toNat (0 : Int).toNat (85 : Int).toNat)) fun σ_4 =>
    some σ_4
set_option maxHeartbeats 4000000 in
theorem bd_pf_Chronicle_recall_29 {x : kX} {l0 : Launch} {Q : State → Prop} (C : kCx x prog_2_method_5_code "PoetFines$Chronicle" none kcl yC 2 l0 R0_pf_Chronicle_recall_29) (σ : kM) {out : kM} (h : pf_Chronicle_recall_29 σ = some out) (hR : ∀ (τ : kM), out = τ → Q = kQ x none τ 0 0) : KW x 0 0 Q σ 0 [some (kr 29), none] [] := by
  unfold pf_Chronicle_recall_29 at h
  refine kw_aload_n C (kdec dc_Chronicle_recall 0 rfl) rfl 1 rfl rfl ?_
  refine kw_getI C (kdec dc_Chronicle_recall 1 rfl) 4 rfl fd_C_Chronicle_18_29 ?_
  refine kw_if_le C (kdec dc_Chronicle_recall 2 rfl) 51 7 (by decide) rfl (fun hc4 => ?_) (fun hc4 => ?_)
  · rw [if_pos hc4] at h
    obtain rfl := Option.some.inj h
    exact kw_Q (hR _ rfl) (kw_return C (kdec dc_Chronicle_recall 28 rfl))
  · rw [if_neg hc4] at h
    refine kw_aload_n C (kdec dc_Chronicle_recall 3 rfl) rfl 8 rfl rfl ?_
    refine kw_dup C (kdec dc_Chronicle_recall 4 rfl) 9 rfl rfl ?_
    refine kw_getI C (kdec dc_Chronicle_recall 5 rfl) 12 rfl fd_C_Chronicle_18_29 ?_
    refine kw_iconst C (kdec dc_Chronicle_recall 6 rfl) 13 rfl rfl ⟨by decide, by decide⟩ ?_
    refine kw_isub C (kdec dc_Chronicle_recall 7 rfl) 14 rfl ?_
    obtain ⟨σ_1, eσ_1, h⟩ := klet_h h
    refine kw_putI C (kdec dc_Chronicle_recall 8 rfl) 17 rfl fp_C_Chronicle_18_29 ?_
    refine kw_sig eσ_1 ?_
    refine kw_aload_n C (kdec dc_Chronicle_recall 9 rfl) rfl 18 rfl rfl ?_
    refine kw_getI C (kdec dc_Chronicle_recall 10 rfl) 21 rfl fd_C_Chronicle_26_29 ?_
    refine kw_aload_n C (kdec dc_Chronicle_recall 11 rfl) rfl 22 rfl rfl ?_
    refine kw_getI C (kdec dc_Chronicle_recall 12 rfl) 25 rfl fd_C_Chronicle_18_29 ?_
    refine kw_iadd C (kdec dc_Chronicle_recall 13 rfl) 26 rfl ?_
    refine kw_bipush (v := 40) C (kdec dc_Chronicle_recall 14 rfl) 28 rfl (by decide) ⟨by decide, by decide⟩ ?_
    refine kw_irem C (kdec dc_Chronicle_recall 15 rfl) 29 rfl (by decide) ?_
    obtain ⟨x1_2, ex1_2, h⟩ := klet_h h
    refine kw_top ex1_2 ?_
    refine kw_istore_n (L' := [some (kr 29), some (ki x1_2)]) C (kdec dc_Chronicle_recall 16 rfl) rfl 30 rfl (by decide) rfl rfl ?_
    refine kw_aload_n C (kdec dc_Chronicle_recall 17 rfl) rfl 31 rfl rfl ?_
    refine kw_getR C (kdec dc_Chronicle_recall 18 rfl) 34 rfl fd_C_Chronicle_22_29 ?_
    refine kw_iload_n C (kdec dc_Chronicle_recall 19 rfl) rfl 35 rfl rfl ?_
    refine kw_bipush (v := 85) C (kdec dc_Chronicle_recall 20 rfl) 37 rfl (by decide) ⟨by decide, by decide⟩ ?_
    refine kw_imul C (kdec dc_Chronicle_recall 21 rfl) 38 rfl ?_
    refine kw_aload_n C (kdec dc_Chronicle_recall 22 rfl) rfl 39 rfl rfl ?_
    refine kw_getR C (kdec dc_Chronicle_recall 23 rfl) 42 rfl fd_C_Chronicle_12_29 ?_
    refine kw_getR C (kdec dc_Chronicle_recall 24 rfl) 45 rfl fd_C_Chronicle_51_30 ?_
    refine kw_iconst C (kdec dc_Chronicle_recall 25 rfl) 46 rfl rfl ⟨by decide, by decide⟩ ?_
    refine kw_bipush (v := 85) C (kdec dc_Chronicle_recall 26 rfl) 48 rfl (by decide) ⟨by decide, by decide⟩ ?_
    obtain ⟨hc_3, h⟩ := kchk_h h
    obtain ⟨σ_4, eσ_4, h⟩ := klet_h h
    refine kw_copy C (kdec dc_Chronicle_recall 27 rfl) 51 rfl ca_Chronicle_45 rfl rfl hc_3.1 hc_3.2.1 hc_3.2.2.1 hc_3.2.2.2.1 hc_3.2.2.2.2 ⟨Nat.le_of_ble_eq_true rfl, by decide⟩ (Nat.le_of_ble_eq_true rfl) ?_
    refine kw_sig eσ_4 ?_
    obtain rfl := Option.some.inj h
    exact kw_Q (hR _ rfl) (kw_return C (kdec dc_Chronicle_recall 28 rfl))
theorem mt_pf_Chronicle_recall_29 (l0 : Launch) {σ : kM} {τ : kM} (h : pf_Chronicle_recall_29 σ = some τ) : kMet l0 ky_Chronicle_recall prog_2_method_5_code 2 none R0_pf_Chronicle_recall_29 kcl yC σ [kr 29] none τ := kMet.of' [some (kr 29), none] (by decide) (Nat.le_of_ble_eq_true rfl) ⟨rfl, trivial⟩ (fun x C => bd_pf_Chronicle_recall_29 C σ h (fun τ e => by subst e; rfl))
def R0_pf_P_undo_0 : Room := ({ frames := 2, cells := 0, slots := 0, locals := 81 } : Room)
def pf_P_undo_0 (σ : kM) : Option (Int × kM) :=
  if (σ 29 1) = 0 then
    some (((-1), σ))
  else
    (pf_Chronicle_recall_29 σ).bind fun σ_1 =>
    some ((σ_1 29 1, σ_1))
set_option maxHeartbeats 4000000 in
theorem bd_pf_P_undo_0 {x : kX} {l0 : Launch} {Q : State → Prop} (C : kCx x prog_1_method_15_code "PoetFines" (some .int) kcl yC 1 l0 R0_pf_P_undo_0) (σ : kM) {out : Int × kM} (h : pf_P_undo_0 σ = some out) (hR : ∀ (r : Int) (τ : kM), out = (r, τ) → Q = kQ x (some (ki r)) τ 0 0) : KW x 0 0 Q σ 0 [some (kr 0)] [] := by
  unfold pf_P_undo_0 at h
  refine kw_aload_n C (kdec dc_P_undo 0 rfl) rfl 1 rfl rfl ?_
  refine kw_getR C (kdec dc_P_undo 1 rfl) 4 rfl fd_C_P_43_0 ?_
  refine kw_getI C (kdec dc_P_undo 2 rfl) 7 rfl fd_C_P_137_29 ?_
  refine kw_if_ne C (kdec dc_P_undo 3 rfl) 12 10 (by decide) rfl (fun hc7 => ?_) (fun hc7 => ?_)
  · rw [if_neg hc7] at h
    refine kw_aload_n C (kdec dc_P_undo 6 rfl) rfl 13 rfl rfl ?_
    refine kw_getR C (kdec dc_P_undo 7 rfl) 16 rfl fd_C_P_43_0 ?_
    obtain ⟨σ_1, hg_2, h⟩ := kbind_h h
    refine kw_callV (As := []) C (kdec dc_P_undo 8 rfl) 19 rfl cv_P_207 rfl rfl (mt_pf_Chronicle_recall_29 l0 hg_2) ⟨rfl, rfl⟩ ⟨Nat.le_of_ble_eq_true rfl, Nat.le_of_ble_eq_true rfl⟩ ⟨Nat.zero_le _, Nat.zero_le _⟩ rfl (Nat.le_of_ble_eq_true rfl) ?_
    change KW x 0 0 Q σ_1 19 [some (kr 0)] []
    refine kw_aload_n C (kdec dc_P_undo 9 rfl) rfl 20 rfl rfl ?_
    refine kw_getR C (kdec dc_P_undo 10 rfl) 23 rfl fd_C_P_43_0 ?_
    refine kw_getI C (kdec dc_P_undo 11 rfl) 26 rfl fd_C_P_137_29 ?_
    obtain rfl := Option.some.inj h
    exact kw_Q (hR _ _ rfl) (kw_ireturn C (kdec dc_P_undo 12 rfl))
  · rw [if_pos hc7] at h
    refine kw_iconst C (kdec dc_P_undo 4 rfl) 11 rfl rfl ⟨by decide, by decide⟩ ?_
    obtain rfl := Option.some.inj h
    exact kw_Q (hR _ _ rfl) (kw_ireturn C (kdec dc_P_undo 5 rfl))
theorem mt_pf_P_undo_0 (l0 : Launch) {σ : kM} {r : Int} {τ : kM} (h : pf_P_undo_0 σ = some (r, τ)) : kMet l0 ky_P_undo prog_1_method_15_code 1 (some .int) R0_pf_P_undo_0 kcl yC σ [kr 0] (some (ki r)) τ := kMet.of' [some (kr 0)] (by decide) (Nat.le_of_ble_eq_true rfl) ⟨rfl, trivial⟩ (fun x C => bd_pf_P_undo_0 C σ h (fun r τ e => by cases e; rfl))
def R0_pf_P_needWithin_0 : Room := ({ frames := 6, cells := 1, slots := 6, locals := 100 } : Room)
def pf_P_needWithin_0 (σ : kM) (x1 : Int) (x2 : Int) (x3 : Int) : Option ((String ⊕ Unit) × kM) :=
  if x1 < x2 then
    some (.inl "java/lang/IllegalArgumentException", σ)
  else
    if x1 ≤ x3 then
      some ((.inr (), σ))
    else
      some (.inl "java/lang/IllegalArgumentException", σ)
set_option maxHeartbeats 4000000 in
theorem bd_pf_P_needWithin_0 {x : kX} {l0 : Launch} {Q : State → Prop} (C : kCx x prog_1_method_46_code "PoetFines" none kcl yC 4 l0 R0_pf_P_needWithin_0) (hT : kTb x) (hfl : l0.stackTraces = false) (σ : kM) (x1 : Int) (x2 : Int) (x3 : Int) {out : (String ⊕ Unit) × kM} (h : pf_P_needWithin_0 σ x1 x2 x3 = some out) (hR : ∀ (τ : kM), out = (.inr (), τ) → Q = kQX x (.inr none) τ 1 6) (hE : ∀ (E : String) (τ : kM), out = (.inl E, τ) → Q = kQX x (.inl E) τ 1 6) : KW x 0 0 Q σ 0 [some (kr 0), some (ki x1), some (ki x2), some (ki x3)] [] := by
  unfold pf_P_needWithin_0 at h
  refine kw_iload_n C (kdec dc_P_needWithin 0 rfl) rfl 1 rfl rfl ?_
  refine kw_iload_n C (kdec dc_P_needWithin 1 rfl) rfl 2 rfl rfl ?_
  refine kw_icmp_lt C (kdec dc_P_needWithin 2 rfl) 10 5 (by decide) rfl (fun hc2 => ?_) (fun hc2 => ?_)
  · rw [if_pos hc2] at h
    obtain rfl := Option.some.inj h
    exact kw_Q (hE _ _ rfl) (kw_throwW C hT hfl th_P_348_93 (kdec dc_P_needWithin 6 rfl) (kdec dc_P_needWithin 7 rfl) (kdec dc_P_needWithin 8 rfl) (kdec dc_P_needWithin 9 rfl) (kdec dc_P_needWithin 10 rfl) (Nat.le_of_ble_eq_true rfl) ⟨Nat.le_of_ble_eq_true rfl, Nat.le_of_ble_eq_true rfl, Nat.le_of_ble_eq_true rfl, Nat.le_of_ble_eq_true rfl⟩ (Nat.le_of_ble_eq_true rfl) (Nat.le_of_ble_eq_true rfl))
  · rw [if_neg hc2] at h
    refine kw_iload_n C (kdec dc_P_needWithin 3 rfl) rfl 6 rfl rfl ?_
    refine kw_iload_n C (kdec dc_P_needWithin 4 rfl) rfl 7 rfl rfl ?_
    refine kw_icmp_le C (kdec dc_P_needWithin 5 rfl) 21 10 (by decide) rfl (fun hc7 => ?_) (fun hc7 => ?_)
    · rw [if_pos hc7] at h
      obtain rfl := Option.some.inj h
      exact kw_Q (hR _ rfl) (kw_xret (by decide) (by decide) (kw_return C (kdec dc_P_needWithin 11 rfl)))
    · rw [if_neg hc7] at h
      obtain rfl := Option.some.inj h
      exact kw_Q (hE _ _ rfl) (kw_throwW C hT hfl th_P_348_93 (kdec dc_P_needWithin 6 rfl) (kdec dc_P_needWithin 7 rfl) (kdec dc_P_needWithin 8 rfl) (kdec dc_P_needWithin 9 rfl) (kdec dc_P_needWithin 10 rfl) (Nat.le_of_ble_eq_true rfl) ⟨Nat.le_of_ble_eq_true rfl, Nat.le_of_ble_eq_true rfl, Nat.le_of_ble_eq_true rfl, Nat.le_of_ble_eq_true rfl⟩ (Nat.le_of_ble_eq_true rfl) (Nat.le_of_ble_eq_true rfl))
theorem mx_pf_P_needWithin_0 (l0 : Launch) (hfl : l0.stackTraces = false) {σ : kM} {x1 : Int} {x2 : Int} {x3 : Int} {τ : kM} (h : pf_P_needWithin_0 σ x1 x2 x3 = some (.inr (), τ)) : kXet l0 ky_P_needWithin prog_1_method_46_code 4 none R0_pf_P_needWithin_0 kcl yC σ [kr 0, ki x1, ki x2, ki x3] (.inr none) τ 1 6 := kXet.of [some (kr 0), some (ki x1), some (ki x2), some (ki x3)] (by decide) (Nat.le_of_ble_eq_true rfl) ⟨rfl, rfl, rfl, rfl, trivial⟩ (fun x C hT => bd_pf_P_needWithin_0 C hT hfl σ x1 x2 x3 h (fun τ e => by cases e; rfl) (fun E τ e => by cases e))
theorem me_pf_P_needWithin_0 (l0 : Launch) (hfl : l0.stackTraces = false) {σ : kM} {x1 : Int} {x2 : Int} {x3 : Int} {E : String} {τ : kM} (h : pf_P_needWithin_0 σ x1 x2 x3 = some (.inl E, τ)) : kXet l0 ky_P_needWithin prog_1_method_46_code 4 none R0_pf_P_needWithin_0 kcl yC σ [kr 0, ki x1, ki x2, ki x3] (.inl E) τ 1 6 := kXet.of [some (kr 0), some (ki x1), some (ki x2), some (ki x3)] (by decide) (Nat.le_of_ble_eq_true rfl) ⟨rfl, rfl, rfl, rfl, trivial⟩ (fun x C hT => bd_pf_P_needWithin_0 C hT hfl σ x1 x2 x3 h (fun τ e => by cases e) (fun E τ e => by cases e; rfl))
def R0_pf_World_copyFrom_58_30 : Room := ({ frames := 1, cells := 0, slots := 0, locals := 60 } : Room)
def pf_World_copyFrom_58_30 (σ : kM) : Option (kM) :=
  klet (kst σ 59 (va_cpy (σ 31) (σ 59) (0 : Int).toNat (0 : Int).toNat (85 : Int).toNat)) fun σ_2 =>
  some σ_2
set_option maxHeartbeats 4000000 in
theorem bd_pf_World_copyFrom_58_30 {x : kX} {l0 : Launch} {Q : State → Prop} (C : kCx x prog_12_method_3_code "PoetFines$World" none kcl yC 2 l0 R0_pf_World_copyFrom_58_30) (σ : kM) {out : kM} (h : pf_World_copyFrom_58_30 σ = some out) (hR : ∀ (τ : kM), out = τ → Q = kQ x none τ 0 0) : KW x 0 0 Q σ 0 [some (kr 58), some (kr 30)] [] := by
  unfold pf_World_copyFrom_58_30 at h
  refine kw_aload_n C (kdec dc_World_copyFrom 0 rfl) rfl 1 rfl rfl ?_
  refine kw_getR C (kdec dc_World_copyFrom 1 rfl) 4 rfl fd_C_World_11_30 ?_
  refine kw_iconst C (kdec dc_World_copyFrom 2 rfl) 5 rfl rfl ⟨by decide, by decide⟩ ?_
  refine kw_aload_n C (kdec dc_World_copyFrom 3 rfl) rfl 6 rfl rfl ?_
  refine kw_getR C (kdec dc_World_copyFrom 4 rfl) 9 rfl fd_C_World_11_58 ?_
  refine kw_iconst C (kdec dc_World_copyFrom 5 rfl) 10 rfl rfl ⟨by decide, by decide⟩ ?_
  refine kw_bipush (v := 85) C (kdec dc_World_copyFrom 6 rfl) 12 rfl (by decide) ⟨by decide, by decide⟩ ?_
  obtain ⟨σ_2, eσ_2, h⟩ := klet_h h
  refine kw_copy C (kdec dc_World_copyFrom 7 rfl) 15 rfl ca_World_15 rfl rfl (by decide) (by decide) (by decide) (by decide) (by decide) ⟨Nat.le_of_ble_eq_true rfl, by decide⟩ (Nat.le_of_ble_eq_true rfl) ?_
  refine kw_sig eσ_2 ?_
  obtain rfl := Option.some.inj h
  exact kw_Q (hR _ rfl) (kw_return C (kdec dc_World_copyFrom 8 rfl))
theorem mt_pf_World_copyFrom_58_30 (l0 : Launch) {σ : kM} {τ : kM} (h : pf_World_copyFrom_58_30 σ = some τ) : kMet l0 ky_World_copyFrom prog_12_method_3_code 2 none R0_pf_World_copyFrom_58_30 kcl yC σ [kr 58, kr 30] none τ := kMet.of' [some (kr 58), some (kr 30)] (by decide) (Nat.le_of_ble_eq_true rfl) ⟨rfl, rfl, trivial⟩ (fun x C => bd_pf_World_copyFrom_58_30 C σ h (fun τ e => by subst e; rfl))
def R0_pf_Tally_clear_65 : Room := ({ frames := 0, cells := 0, slots := 0, locals := 0 } : Room)
def pf_Tally_clear_65_l2 (σ : kM) (x1 : Int) : Option ((kM × Int) ⊕ ((kM))) :=
  if 4 ≤ x1 then
    some (Sum.inr σ)
  else
    kchk (0 ≤ x1 ∧ x1 < 4) <|
    klet (kst σ 66 (kup (σ 66) x1.toNat 0)) fun σ_2 =>
    kchk (0 ≤ x1 ∧ x1 < 4) <|
    klet (kst σ_2 67 (kup (σ_2 67) x1.toNat 0)) fun σ_4 =>
    kchk (0 ≤ x1 ∧ x1 < 4) <|
    klet (kst σ_4 68 (kup (σ_4 68) x1.toNat 0)) fun σ_6 =>
    klet (w32 (x1 + 1)) fun x1_7 =>
    some (Sum.inl (σ_6, x1_7))
set_option maxHeartbeats 4000000 in
theorem bd_pf_Tally_clear_65_l2 {x : kX} {l0 : Launch} {Q : State → Prop} (C : kCx x prog_9_method_2_code "PoetFines$Tally" none kcl yC 2 l0 R0_pf_Tally_clear_65) (σ : kM) (x1 : Int) {out : (kM × Int) ⊕ ((kM))} (h : pf_Tally_clear_65_l2 σ x1 = some out) (hC : ∀ (σ' : kM) (x1' : Int), out = Sum.inl (σ', x1') → KW x 0 0 Q σ' 2 [some (kr 65), some (ki x1')] []) (hX34 : ∀ (σ' : kM), out = Sum.inr σ' → KW x 0 0 Q σ' 34 [some (kr 65), none] []) : KW x 0 0 Q σ 2 [some (kr 65), some (ki x1)] [] := by
  unfold pf_Tally_clear_65_l2 at h
  refine kw_iload_n C (kdec dc_Tally_clear 2 rfl) rfl 3 rfl rfl ?_
  refine kw_iconst C (kdec dc_Tally_clear 3 rfl) 4 rfl rfl ⟨by decide, by decide⟩ ?_
  refine kw_icmp_ge C (kdec dc_Tally_clear 4 rfl) 34 7 (by decide) rfl (fun hc4 => ?_) (fun hc4 => ?_)
  · rw [if_pos hc4] at h
    obtain rfl := Option.some.inj h
    exact kw_sub (L' := [some (kr 65), none]) ⟨rfl, trivial⟩ (hX34 _ rfl)
  · rw [if_neg hc4] at h
    refine kw_aload_n C (kdec dc_Tally_clear 5 rfl) rfl 8 rfl rfl ?_
    refine kw_getR C (kdec dc_Tally_clear 6 rfl) 11 rfl fd_C_Tally_9_65 ?_
    refine kw_iload_n C (kdec dc_Tally_clear 7 rfl) rfl 12 rfl rfl ?_
    refine kw_iconst C (kdec dc_Tally_clear 8 rfl) 13 rfl rfl ⟨by decide, by decide⟩ ?_
    obtain ⟨hc_1, h⟩ := kchk_h h
    obtain ⟨σ_2, eσ_2, h⟩ := klet_h h
    refine kw_iast C (kdec dc_Tally_clear 9 rfl) 14 rfl rfl hc_1.1 hc_1.2 ?_
    refine kw_sig eσ_2 ?_
    refine kw_aload_n C (kdec dc_Tally_clear 10 rfl) rfl 15 rfl rfl ?_
    refine kw_getR C (kdec dc_Tally_clear 11 rfl) 18 rfl fd_C_Tally_15_65 ?_
    refine kw_iload_n C (kdec dc_Tally_clear 12 rfl) rfl 19 rfl rfl ?_
    refine kw_iconst C (kdec dc_Tally_clear 13 rfl) 20 rfl rfl ⟨by decide, by decide⟩ ?_
    obtain ⟨hc_3, h⟩ := kchk_h h
    obtain ⟨σ_4, eσ_4, h⟩ := klet_h h
    refine kw_iast C (kdec dc_Tally_clear 14 rfl) 21 rfl rfl hc_3.1 hc_3.2 ?_
    refine kw_sig eσ_4 ?_
    refine kw_aload_n C (kdec dc_Tally_clear 15 rfl) rfl 22 rfl rfl ?_
    refine kw_getR C (kdec dc_Tally_clear 16 rfl) 25 rfl fd_C_Tally_18_65 ?_
    refine kw_iload_n C (kdec dc_Tally_clear 17 rfl) rfl 26 rfl rfl ?_
    refine kw_iconst C (kdec dc_Tally_clear 18 rfl) 27 rfl rfl ⟨by decide, by decide⟩ ?_
    obtain ⟨hc_5, h⟩ := kchk_h h
    obtain ⟨σ_6, eσ_6, h⟩ := klet_h h
    refine kw_iast C (kdec dc_Tally_clear 19 rfl) 28 rfl rfl hc_5.1 hc_5.2 ?_
    refine kw_sig eσ_6 ?_
    obtain ⟨x1_7, ex1_7, h⟩ := klet_h h
    refine kw_iinc (L' := [some (kr 65), some (ki x1_7)]) C (kdec dc_Tally_clear 20 rfl) 31 rfl rfl (by decide) rfl (by rw [ex1_7]; rfl) ?_
    refine kw_goto C (kdec dc_Tally_clear 21 rfl) 2 (by decide) ?_
    obtain rfl := Option.some.inj h
    exact (hC _ _ rfl)
theorem lp_pf_Tally_clear_65_l2 {x : kX} {l0 : Launch} {Q : State → Prop} (C : kCx x prog_9_method_2_code "PoetFines$Tally" none kcl yC 2 l0 R0_pf_Tally_clear_65) {ex : (kM)} (hX34 : ∀ (σ' : kM), ex = σ' → KW x 0 0 Q σ' 34 [some (kr 65), none] []) (n : Nat) (σ : kM) (x1 : Int) (h : kloop (fun st => pf_Tally_clear_65_l2 st.1 st.2) n (σ, x1) = some ex) : KW x 0 0 Q σ 2 [some (kr 65), some (ki x1)] [] :=
  kloop_ind (P := (fun st : kM × Int => KW x 0 0 Q st.1 2 [some (kr 65), some (ki (st.2))] [])) (fun st out hb hc hx => bd_pf_Tally_clear_65_l2 C st.1 st.2 hb (fun a0 a1 e => hc _ e) (fun a0 e => hX34 _ ((hx _ e).symm))) n (σ, x1) h
def pf_Tally_clear_65_l36 (σ : kM) (x1 : Int) : Option ((kM × Int) ⊕ ((kM))) :=
  if 32 ≤ x1 then
    some (Sum.inr σ)
  else
    kchk (0 ≤ x1 ∧ x1 < 32) <|
    klet (kst σ 69 (kup (σ 69) x1.toNat 0)) fun σ_12 =>
    klet (w32 (x1 + 1)) fun x1_13 =>
    some (Sum.inl (σ_12, x1_13))
set_option maxHeartbeats 4000000 in
theorem bd_pf_Tally_clear_65_l36 {x : kX} {l0 : Launch} {Q : State → Prop} (C : kCx x prog_9_method_2_code "PoetFines$Tally" none kcl yC 2 l0 R0_pf_Tally_clear_65) (σ : kM) (x1 : Int) {out : (kM × Int) ⊕ ((kM))} (h : pf_Tally_clear_65_l36 σ x1 = some out) (hC : ∀ (σ' : kM) (x1' : Int), out = Sum.inl (σ', x1') → KW x 0 0 Q σ' 36 [some (kr 65), some (ki x1')] []) (hX58 : ∀ (σ' : kM), out = Sum.inr σ' → KW x 0 0 Q σ' 58 [some (kr 65), none] []) : KW x 0 0 Q σ 36 [some (kr 65), some (ki x1)] [] := by
  unfold pf_Tally_clear_65_l36 at h
  refine kw_iload_n C (kdec dc_Tally_clear 24 rfl) rfl 37 rfl rfl ?_
  refine kw_aload_n C (kdec dc_Tally_clear 25 rfl) rfl 38 rfl rfl ?_
  refine kw_getR C (kdec dc_Tally_clear 26 rfl) 41 rfl fd_C_Tally_21_65 ?_
  refine kw_alen (v := 32) C (kdec dc_Tally_clear 27 rfl) 42 rfl rfl (by decide) rfl ⟨by decide, by decide⟩ ?_
  refine kw_icmp_ge C (kdec dc_Tally_clear 28 rfl) 58 45 (by decide) rfl (fun hc42 => ?_) (fun hc42 => ?_)
  · rw [if_pos hc42] at h
    obtain rfl := Option.some.inj h
    exact kw_sub (L' := [some (kr 65), none]) ⟨rfl, trivial⟩ (hX58 _ rfl)
  · rw [if_neg hc42] at h
    refine kw_aload_n C (kdec dc_Tally_clear 29 rfl) rfl 46 rfl rfl ?_
    refine kw_getR C (kdec dc_Tally_clear 30 rfl) 49 rfl fd_C_Tally_21_65 ?_
    refine kw_iload_n C (kdec dc_Tally_clear 31 rfl) rfl 50 rfl rfl ?_
    refine kw_iconst C (kdec dc_Tally_clear 32 rfl) 51 rfl rfl ⟨by decide, by decide⟩ ?_
    obtain ⟨hc_11, h⟩ := kchk_h h
    obtain ⟨σ_12, eσ_12, h⟩ := klet_h h
    refine kw_iast C (kdec dc_Tally_clear 33 rfl) 52 rfl rfl hc_11.1 hc_11.2 ?_
    refine kw_sig eσ_12 ?_
    obtain ⟨x1_13, ex1_13, h⟩ := klet_h h
    refine kw_iinc (L' := [some (kr 65), some (ki x1_13)]) C (kdec dc_Tally_clear 34 rfl) 55 rfl rfl (by decide) rfl (by rw [ex1_13]; rfl) ?_
    refine kw_goto C (kdec dc_Tally_clear 35 rfl) 36 (by decide) ?_
    obtain rfl := Option.some.inj h
    exact (hC _ _ rfl)
theorem lp_pf_Tally_clear_65_l36 {x : kX} {l0 : Launch} {Q : State → Prop} (C : kCx x prog_9_method_2_code "PoetFines$Tally" none kcl yC 2 l0 R0_pf_Tally_clear_65) {ex : (kM)} (hX58 : ∀ (σ' : kM), ex = σ' → KW x 0 0 Q σ' 58 [some (kr 65), none] []) (n : Nat) (σ : kM) (x1 : Int) (h : kloop (fun st => pf_Tally_clear_65_l36 st.1 st.2) n (σ, x1) = some ex) : KW x 0 0 Q σ 36 [some (kr 65), some (ki x1)] [] :=
  kloop_ind (P := (fun st : kM × Int => KW x 0 0 Q st.1 36 [some (kr 65), some (ki (st.2))] [])) (fun st out hb hc hx => bd_pf_Tally_clear_65_l36 C st.1 st.2 hb (fun a0 a1 e => hc _ e) (fun a0 e => hX58 _ ((hx _ e).symm))) n (σ, x1) h
def pf_Tally_clear_65 (σ : kM) : Option (kM) :=
  (kloop (fun st => pf_Tally_clear_65_l2 st.1 st.2) kFuel (σ, 0)).bind fun σ_10 =>
  (kloop (fun st => pf_Tally_clear_65_l36 st.1 st.2) kFuel (σ_10, 0)).bind fun σ_16 =>
  klet (kst σ_16 65 (kup (σ_16 65) 4 0)) fun σ_17 =>
  klet (kst σ_17 65 (kup (σ_17 65) 5 0)) fun σ_18 =>
  klet (kst σ_18 65 (kup (σ_18 65) 6 0)) fun σ_19 =>
  klet (kst σ_19 65 (kup (σ_19 65) 7 0)) fun σ_20 =>
  klet (kst σ_20 65 (kup (σ_20 65) 8 0)) fun σ_21 =>
  klet (kst σ_21 65 (kup (σ_21 65) 9 0)) fun σ_22 =>
  some σ_22
set_option maxHeartbeats 4000000 in
theorem bd_pf_Tally_clear_65 {x : kX} {l0 : Launch} {Q : State → Prop} (C : kCx x prog_9_method_2_code "PoetFines$Tally" none kcl yC 2 l0 R0_pf_Tally_clear_65) (σ : kM) {out : kM} (h : pf_Tally_clear_65 σ = some out) (hR : ∀ (τ : kM), out = τ → Q = kQ x none τ 0 0) : KW x 0 0 Q σ 0 [some (kr 65), none] [] := by
  unfold pf_Tally_clear_65 at h
  refine kw_iconst C (kdec dc_Tally_clear 0 rfl) 1 rfl rfl ⟨by decide, by decide⟩ ?_
  refine kw_istore_n (L' := [some (kr 65), some (ki 0)]) C (kdec dc_Tally_clear 1 rfl) rfl 2 rfl (by decide) rfl rfl ?_
  obtain ⟨ex_8, hl_9, h⟩ := kbind_h h
  refine lp_pf_Tally_clear_65_l2 C ?_ kFuel σ 0 hl_9
  · intro σ_10 e
    subst ex_8
    try dsimp only at h
    refine kw_iconst C (kdec dc_Tally_clear 22 rfl) 35 rfl rfl ⟨by decide, by decide⟩ ?_
    refine kw_istore_n (L' := [some (kr 65), some (ki 0)]) C (kdec dc_Tally_clear 23 rfl) rfl 36 rfl (by decide) rfl rfl ?_
    obtain ⟨ex_14, hl_15, h⟩ := kbind_h h
    refine lp_pf_Tally_clear_65_l36 C ?_ kFuel σ_10 0 hl_15
    · intro σ_16 e
      subst ex_14
      try dsimp only at h
      refine kw_aload_n C (kdec dc_Tally_clear 36 rfl) rfl 59 rfl rfl ?_
      refine kw_iconst C (kdec dc_Tally_clear 37 rfl) 60 rfl rfl ⟨by decide, by decide⟩ ?_
      obtain ⟨σ_17, eσ_17, h⟩ := klet_h h
      refine kw_putI C (kdec dc_Tally_clear 38 rfl) 63 rfl fp_C_Tally_24_65 ?_
      refine kw_sig eσ_17 ?_
      refine kw_aload_n C (kdec dc_Tally_clear 39 rfl) rfl 64 rfl rfl ?_
      refine kw_iconst C (kdec dc_Tally_clear 40 rfl) 65 rfl rfl ⟨by decide, by decide⟩ ?_
      obtain ⟨σ_18, eσ_18, h⟩ := klet_h h
      refine kw_putI C (kdec dc_Tally_clear 41 rfl) 68 rfl fp_C_Tally_28_65 ?_
      refine kw_sig eσ_18 ?_
      refine kw_aload_n C (kdec dc_Tally_clear 42 rfl) rfl 69 rfl rfl ?_
      refine kw_iconst C (kdec dc_Tally_clear 43 rfl) 70 rfl rfl ⟨by decide, by decide⟩ ?_
      obtain ⟨σ_19, eσ_19, h⟩ := klet_h h
      refine kw_putI C (kdec dc_Tally_clear 44 rfl) 73 rfl fp_C_Tally_31_65 ?_
      refine kw_sig eσ_19 ?_
      refine kw_aload_n C (kdec dc_Tally_clear 45 rfl) rfl 74 rfl rfl ?_
      refine kw_iconst C (kdec dc_Tally_clear 46 rfl) 75 rfl rfl ⟨by decide, by decide⟩ ?_
      obtain ⟨σ_20, eσ_20, h⟩ := klet_h h
      refine kw_putI C (kdec dc_Tally_clear 47 rfl) 78 rfl fp_C_Tally_34_65 ?_
      refine kw_sig eσ_20 ?_
      refine kw_aload_n C (kdec dc_Tally_clear 48 rfl) rfl 79 rfl rfl ?_
      refine kw_iconst C (kdec dc_Tally_clear 49 rfl) 80 rfl rfl ⟨by decide, by decide⟩ ?_
      obtain ⟨σ_21, eσ_21, h⟩ := klet_h h
      refine kw_putI C (kdec dc_Tally_clear 50 rfl) 83 rfl fp_C_Tally_37_65 ?_
      refine kw_sig eσ_21 ?_
      refine kw_aload_n C (kdec dc_Tally_clear 51 rfl) rfl 84 rfl rfl ?_
      refine kw_iconst C (kdec dc_Tally_clear 52 rfl) 85 rfl rfl ⟨by decide, by decide⟩ ?_
      obtain ⟨σ_22, eσ_22, h⟩ := klet_h h
      refine kw_putI C (kdec dc_Tally_clear 53 rfl) 88 rfl fp_C_Tally_40_65 ?_
      refine kw_sig eσ_22 ?_
      obtain rfl := Option.some.inj h
      exact kw_Q (hR _ rfl) (kw_return C (kdec dc_Tally_clear 54 rfl))
theorem mt_pf_Tally_clear_65 (l0 : Launch) {σ : kM} {τ : kM} (h : pf_Tally_clear_65 σ = some τ) : kMet l0 ky_Tally_clear prog_9_method_2_code 2 none R0_pf_Tally_clear_65 kcl yC σ [kr 65] none τ := kMet.of' [some (kr 65), none] (by decide) (Nat.le_of_ble_eq_true rfl) ⟨rfl, trivial⟩ (fun x C => bd_pf_Tally_clear_65 C σ h (fun τ e => by subst e; rfl))
def R0_pf_Oracle_begin_57 : Room := ({ frames := 2, cells := 0, slots := 0, locals := 81 } : Room)
def pf_Oracle_begin_57 (σ : kM) : Option (kM) :=
  (pf_World_copyFrom_58_30 σ).bind fun σ_1 =>
  (pf_Tally_clear_65 σ_1).bind fun σ_2 =>
  some σ_2
set_option maxHeartbeats 4000000 in
theorem bd_pf_Oracle_begin_57 {x : kX} {l0 : Launch} {Q : State → Prop} (C : kCx x prog_5_method_22_code "PoetFines$Oracle" none kcl yC 1 l0 R0_pf_Oracle_begin_57) (σ : kM) {out : kM} (h : pf_Oracle_begin_57 σ = some out) (hR : ∀ (τ : kM), out = τ → Q = kQ x none τ 0 0) : KW x 0 0 Q σ 0 [some (kr 57)] [] := by
  unfold pf_Oracle_begin_57 at h
  refine kw_aload_n C (kdec dc_Oracle_begin 0 rfl) rfl 1 rfl rfl ?_
  refine kw_getR C (kdec dc_Oracle_begin 1 rfl) 4 rfl fd_C_Oracle_12_57 ?_
  refine kw_aload_n C (kdec dc_Oracle_begin 2 rfl) rfl 5 rfl rfl ?_
  refine kw_getR C (kdec dc_Oracle_begin 3 rfl) 8 rfl fd_C_Oracle_46_57 ?_
  refine kw_getR C (kdec dc_Oracle_begin 4 rfl) 11 rfl fd_C_Oracle_98_29 ?_
  obtain ⟨σ_1, hg_4, h⟩ := kbind_h h
  refine kw_callV (As := [kr 30]) C (kdec dc_Oracle_begin 5 rfl) 14 rfl cv_Oracle_175 rfl rfl (mt_pf_World_copyFrom_58_30 l0 hg_4) ⟨rfl, rfl⟩ ⟨Nat.le_of_ble_eq_true rfl, Nat.le_of_ble_eq_true rfl⟩ ⟨Nat.zero_le _, Nat.zero_le _⟩ rfl (Nat.le_of_ble_eq_true rfl) ?_
  change KW x 0 0 Q σ_1 14 [some (kr 57)] []
  refine kw_aload_n C (kdec dc_Oracle_begin 6 rfl) rfl 15 rfl rfl ?_
  refine kw_getR C (kdec dc_Oracle_begin 7 rfl) 18 rfl fd_C_Oracle_63_57 ?_
  obtain ⟨σ_2, hg_3, h⟩ := kbind_h h
  refine kw_callV (As := []) C (kdec dc_Oracle_begin 8 rfl) 21 rfl cv_Oracle_179 rfl rfl (mt_pf_Tally_clear_65 l0 hg_3) ⟨rfl, rfl⟩ ⟨Nat.le_of_ble_eq_true rfl, Nat.le_of_ble_eq_true rfl⟩ ⟨Nat.zero_le _, Nat.zero_le _⟩ rfl (Nat.le_of_ble_eq_true rfl) ?_
  change KW x 0 0 Q σ_2 21 [some (kr 57)] []
  obtain rfl := Option.some.inj h
  exact kw_Q (hR _ rfl) (kw_return C (kdec dc_Oracle_begin 9 rfl))
theorem mt_pf_Oracle_begin_57 (l0 : Launch) {σ : kM} {τ : kM} (h : pf_Oracle_begin_57 σ = some τ) : kMet l0 ky_Oracle_begin prog_5_method_22_code 1 none R0_pf_Oracle_begin_57 kcl yC σ [kr 57] none τ := kMet.of' [some (kr 57)] (by decide) (Nat.le_of_ble_eq_true rfl) ⟨rfl, trivial⟩ (fun x C => bd_pf_Oracle_begin_57 C σ h (fun τ e => by subst e; rfl))
def R0_pf_World_hitsBy_58 : Room := ({ frames := 0, cells := 0, slots := 0, locals := 0 } : Room)
def pf_World_hitsBy_58 (σ : kM) (x1 : Int) (x2 : Int) : Option (Int) :=
  kchk (0 ≤ (w32 ((w32 (17 + (w32 (x1 * 8)))) + x2)) ∧ (w32 ((w32 (17 + (w32 (x1 * 8)))) + x2)) < 85) <|
  some (σ 59 (w32 ((w32 (17 + (w32 (x1 * 8)))) + x2)).toNat)
set_option maxHeartbeats 4000000 in
theorem bd_pf_World_hitsBy_58 {x : kX} {l0 : Launch} {Q : State → Prop} (C : kCx x prog_12_method_6_code "PoetFines$World" (some .int) kcl yC 3 l0 R0_pf_World_hitsBy_58) (σ : kM) (x1 : Int) (x2 : Int) {out : Int} (h : pf_World_hitsBy_58 σ x1 x2 = some out) (hR : ∀ (r : Int), out = r → Q = kQ x (some (ki r)) σ 0 0) : KW x 0 0 Q σ 0 [some (kr 58), some (ki x1), some (ki x2)] [] := by
  unfold pf_World_hitsBy_58 at h
  refine kw_aload_n C (kdec dc_World_hitsBy 0 rfl) rfl 1 rfl rfl ?_
  refine kw_getR C (kdec dc_World_hitsBy 1 rfl) 4 rfl fd_C_World_11_58 ?_
  refine kw_bipush (v := 17) C (kdec dc_World_hitsBy 2 rfl) 6 rfl (by decide) ⟨by decide, by decide⟩ ?_
  refine kw_iload_n C (kdec dc_World_hitsBy 3 rfl) rfl 7 rfl rfl ?_
  refine kw_bipush (v := 8) C (kdec dc_World_hitsBy 4 rfl) 9 rfl (by decide) ⟨by decide, by decide⟩ ?_
  refine kw_imul C (kdec dc_World_hitsBy 5 rfl) 10 rfl ?_
  refine kw_iadd C (kdec dc_World_hitsBy 6 rfl) 11 rfl ?_
  refine kw_iload_n C (kdec dc_World_hitsBy 7 rfl) rfl 12 rfl rfl ?_
  refine kw_iadd C (kdec dc_World_hitsBy 8 rfl) 13 rfl ?_
  obtain ⟨hc_1, h⟩ := kchk_h h
  refine kw_iald C (kdec dc_World_hitsBy 9 rfl) 14 rfl rfl hc_1.1 hc_1.2 ?_
  obtain rfl := Option.some.inj h
  exact kw_Q (hR _ rfl) (kw_ireturn C (kdec dc_World_hitsBy 10 rfl))
theorem mt_pf_World_hitsBy_58 (l0 : Launch) {σ : kM} {x1 : Int} {x2 : Int} {r : Int} (h : pf_World_hitsBy_58 σ x1 x2 = some r) : kMet l0 ky_World_hitsBy prog_12_method_6_code 3 (some .int) R0_pf_World_hitsBy_58 kcl yC σ [kr 58, ki x1, ki x2] (some (ki r)) σ := kMet.of' [some (kr 58), some (ki x1), some (ki x2)] (by decide) (Nat.le_of_ble_eq_true rfl) ⟨rfl, rfl, rfl, trivial⟩ (fun x C => bd_pf_World_hitsBy_58 C σ x1 x2 h (fun r e => by subst e; rfl))
def R0_pf_Stage_setValues_64 : Room := ({ frames := 1, cells := 0, slots := 0, locals := 22 } : Room)
def pf_Stage_setValues_64 (σ : kM) (x1 : Int) (x2 : Int) (x3 : Int) : Option (kM) :=
  kchk (0 ≤ (w32 (9 + x2)) ∧ (w32 (9 + x2)) < 85) <|
  klet (kst σ 70 (kup (σ 70) ((0 : Int).toNat) (σ 59 (w32 (9 + x2)).toNat))) fun σ_2 =>
  klet (kst σ_2 70 (kup (σ_2 70) ((1 : Int).toNat) x3)) fun σ_3 =>
  (pf_World_hitsBy_58 σ_3 x1 x2).bind fun r_4 =>
  klet (kst σ_3 70 (kup (σ_3 70) ((2 : Int).toNat) r_4)) fun σ_5 =>
  klet (kst σ_5 70 (kup (σ_5 70) ((3 : Int).toNat) (σ_5 59 (0 : Int).toNat))) fun σ_6 =>
  some σ_6
set_option maxHeartbeats 4000000 in
theorem bd_pf_Stage_setValues_64 {x : kX} {l0 : Launch} {Q : State → Prop} (C : kCx x prog_8_method_11_code "PoetFines$Stage" none kcl yC 4 l0 R0_pf_Stage_setValues_64) (σ : kM) (x1 : Int) (x2 : Int) (x3 : Int) {out : kM} (h : pf_Stage_setValues_64 σ x1 x2 x3 = some out) (hR : ∀ (τ : kM), out = τ → Q = kQ x none τ 0 0) : KW x 0 0 Q σ 0 [some (kr 64), some (ki x1), some (ki x2), some (ki x3)] [] := by
  unfold pf_Stage_setValues_64 at h
  refine kw_aload_n C (kdec dc_Stage_setValues 0 rfl) rfl 1 rfl rfl ?_
  refine kw_getR C (kdec dc_Stage_setValues 1 rfl) 4 rfl fd_C_Stage_20_64 ?_
  refine kw_iconst C (kdec dc_Stage_setValues 2 rfl) 5 rfl rfl ⟨by decide, by decide⟩ ?_
  refine kw_aload_n C (kdec dc_Stage_setValues 3 rfl) rfl 6 rfl rfl ?_
  refine kw_getR C (kdec dc_Stage_setValues 4 rfl) 9 rfl fd_C_Stage_28_64 ?_
  refine kw_getR C (kdec dc_Stage_setValues 5 rfl) 12 rfl fd_C_Stage_51_58 ?_
  refine kw_bipush (v := 9) C (kdec dc_Stage_setValues 6 rfl) 14 rfl (by decide) ⟨by decide, by decide⟩ ?_
  refine kw_iload_n C (kdec dc_Stage_setValues 7 rfl) rfl 15 rfl rfl ?_
  refine kw_iadd C (kdec dc_Stage_setValues 8 rfl) 16 rfl ?_
  obtain ⟨hc_1, h⟩ := kchk_h h
  refine kw_iald C (kdec dc_Stage_setValues 9 rfl) 17 rfl rfl hc_1.1 hc_1.2 ?_
  obtain ⟨σ_2, eσ_2, h⟩ := klet_h h
  refine kw_iast C (kdec dc_Stage_setValues 10 rfl) 18 rfl rfl (by decide) (by decide) ?_
  refine kw_sig eσ_2 ?_
  refine kw_aload_n C (kdec dc_Stage_setValues 11 rfl) rfl 19 rfl rfl ?_
  refine kw_getR C (kdec dc_Stage_setValues 12 rfl) 22 rfl fd_C_Stage_20_64 ?_
  refine kw_iconst C (kdec dc_Stage_setValues 13 rfl) 23 rfl rfl ⟨by decide, by decide⟩ ?_
  refine kw_iload_n C (kdec dc_Stage_setValues 14 rfl) rfl 24 rfl rfl ?_
  obtain ⟨σ_3, eσ_3, h⟩ := klet_h h
  refine kw_iast C (kdec dc_Stage_setValues 15 rfl) 25 rfl rfl (by decide) (by decide) ?_
  refine kw_sig eσ_3 ?_
  refine kw_aload_n C (kdec dc_Stage_setValues 16 rfl) rfl 26 rfl rfl ?_
  refine kw_getR C (kdec dc_Stage_setValues 17 rfl) 29 rfl fd_C_Stage_20_64 ?_
  refine kw_iconst C (kdec dc_Stage_setValues 18 rfl) 30 rfl rfl ⟨by decide, by decide⟩ ?_
  refine kw_aload_n C (kdec dc_Stage_setValues 19 rfl) rfl 31 rfl rfl ?_
  refine kw_getR C (kdec dc_Stage_setValues 20 rfl) 34 rfl fd_C_Stage_28_64 ?_
  refine kw_iload_n C (kdec dc_Stage_setValues 21 rfl) rfl 35 rfl rfl ?_
  refine kw_iload_n C (kdec dc_Stage_setValues 22 rfl) rfl 36 rfl rfl ?_
  obtain ⟨r_4, hg_7, h⟩ := kbind_h h
  refine kw_callV (As := [ki x1, ki x2]) C (kdec dc_Stage_setValues 23 rfl) 39 rfl cv_Stage_136 rfl rfl (mt_pf_World_hitsBy_58 l0 hg_7) ⟨rfl, rfl⟩ ⟨Nat.le_of_ble_eq_true rfl, Nat.le_of_ble_eq_true rfl⟩ ⟨Nat.zero_le _, Nat.zero_le _⟩ rfl (Nat.le_of_ble_eq_true rfl) ?_
  change KW x 0 0 Q σ_3 39 [some (kr 64), some (ki x1), some (ki x2), some (ki x3)] [ki r_4, ki 2, kr 70]
  obtain ⟨σ_5, eσ_5, h⟩ := klet_h h
  refine kw_iast C (kdec dc_Stage_setValues 24 rfl) 40 rfl rfl (by decide) (by decide) ?_
  refine kw_sig eσ_5 ?_
  refine kw_aload_n C (kdec dc_Stage_setValues 25 rfl) rfl 41 rfl rfl ?_
  refine kw_getR C (kdec dc_Stage_setValues 26 rfl) 44 rfl fd_C_Stage_20_64 ?_
  refine kw_iconst C (kdec dc_Stage_setValues 27 rfl) 45 rfl rfl ⟨by decide, by decide⟩ ?_
  refine kw_aload_n C (kdec dc_Stage_setValues 28 rfl) rfl 46 rfl rfl ?_
  refine kw_getR C (kdec dc_Stage_setValues 29 rfl) 49 rfl fd_C_Stage_28_64 ?_
  refine kw_getR C (kdec dc_Stage_setValues 30 rfl) 52 rfl fd_C_Stage_51_58 ?_
  refine kw_iconst C (kdec dc_Stage_setValues 31 rfl) 53 rfl rfl ⟨by decide, by decide⟩ ?_
  refine kw_iald C (kdec dc_Stage_setValues 32 rfl) 54 rfl rfl (by decide) (by decide) ?_
  obtain ⟨σ_6, eσ_6, h⟩ := klet_h h
  refine kw_iast C (kdec dc_Stage_setValues 33 rfl) 55 rfl rfl (by decide) (by decide) ?_
  refine kw_sig eσ_6 ?_
  obtain rfl := Option.some.inj h
  exact kw_Q (hR _ rfl) (kw_return C (kdec dc_Stage_setValues 34 rfl))
theorem mt_pf_Stage_setValues_64 (l0 : Launch) {σ : kM} {x1 : Int} {x2 : Int} {x3 : Int} {τ : kM} (h : pf_Stage_setValues_64 σ x1 x2 x3 = some τ) : kMet l0 ky_Stage_setValues prog_8_method_11_code 4 none R0_pf_Stage_setValues_64 kcl yC σ [kr 64, ki x1, ki x2, ki x3] none τ := kMet.of' [some (kr 64), some (ki x1), some (ki x2), some (ki x3)] (by decide) (Nat.le_of_ble_eq_true rfl) ⟨rfl, rfl, rfl, rfl, trivial⟩ (fun x C => bd_pf_Stage_setValues_64 C σ x1 x2 x3 h (fun τ e => by subst e; rfl))
def R0_pf_Rules_worth_7_70 : Room := ({ frames := 1, cells := 0, slots := 0, locals := 22 } : Room)
def pf_Rules_worth_7_70_l10_j144 (σ : kM) (x1 : Int) (x3 : Int) (x4 : Int) : Option ((kM × Int × Int) ⊕ ((kM × Int))) :=
  klet (w32 (x4 + 1)) fun x4_6 =>
  some (Sum.inl (σ, x3, x4_6))
set_option maxHeartbeats 4000000 in
theorem bd_pf_Rules_worth_7_70_l10_j144 {x : kX} {l0 : Launch} {Q : State → Prop} (C : kCx x prog_7_method_9_code "PoetFines$Rules" (some .int) kcl yC 6 l0 R0_pf_Rules_worth_7_70) (σ : kM) (x1 : Int) (x3 : Int) (x4 : Int) {out : (kM × Int × Int) ⊕ ((kM × Int))} (h : pf_Rules_worth_7_70_l10_j144 σ x1 x3 x4 = some out) (hC : ∀ (σ' : kM) (x3' : Int) (x4' : Int), out = Sum.inl (σ', x3', x4') → KW x 0 0 Q σ' 10 [some (kr 7), some (ki x1), some (kr 70), some (ki x3'), some (ki x4'), none] []) (hX150 : ∀ (σ' : kM) (x3' : Int), out = Sum.inr (σ', x3') → KW x 0 0 Q σ' 150 [some (kr 7), none, none, some (ki x3'), none, none] []) : KW x 0 0 Q σ 144 [some (kr 7), some (ki x1), some (kr 70), some (ki x3), some (ki x4), none] [] := by
  unfold pf_Rules_worth_7_70_l10_j144 at h
  obtain ⟨x4_6, ex4_6, h⟩ := klet_h h
  refine kw_iinc (L' := [some (kr 7), some (ki x1), some (kr 70), some (ki x3), some (ki x4_6), none]) C (kdec dc_Rules_worth 83 rfl) 147 rfl rfl (by decide) rfl (by rw [ex4_6]; rfl) ?_
  refine kw_goto C (kdec dc_Rules_worth 84 rfl) 10 (by decide) ?_
  obtain rfl := Option.some.inj h
  exact (hC _ _ _ rfl)
def pf_Rules_worth_7_70_l10_j105 (σ : kM) (x1 : Int) (x3 : Int) (x4 : Int) (s0 : Int) (s1 : Int) : Option ((kM × Int × Int) ⊕ ((kM × Int))) :=
  kchk (0 ≤ s1 ∧ s1 < 64) <|
  klet (kst σ 11 (kup (σ 11) s1.toNat s0)) fun σ_16 =>
  pf_Rules_worth_7_70_l10_j144 σ_16 x1 x3 x4
set_option maxHeartbeats 4000000 in
theorem bd_pf_Rules_worth_7_70_l10_j105 {x : kX} {l0 : Launch} {Q : State → Prop} (C : kCx x prog_7_method_9_code "PoetFines$Rules" (some .int) kcl yC 6 l0 R0_pf_Rules_worth_7_70) (σ : kM) (x1 : Int) (x3 : Int) (x4 : Int) (s0 : Int) (s1 : Int) {out : (kM × Int × Int) ⊕ ((kM × Int))} (h : pf_Rules_worth_7_70_l10_j105 σ x1 x3 x4 s0 s1 = some out) (hC : ∀ (σ' : kM) (x3' : Int) (x4' : Int), out = Sum.inl (σ', x3', x4') → KW x 0 0 Q σ' 10 [some (kr 7), some (ki x1), some (kr 70), some (ki x3'), some (ki x4'), none] []) (hX150 : ∀ (σ' : kM) (x3' : Int), out = Sum.inr (σ', x3') → KW x 0 0 Q σ' 150 [some (kr 7), none, none, some (ki x3'), none, none] []) : KW x 0 0 Q σ 105 [some (kr 7), some (ki x1), some (kr 70), some (ki x3), some (ki x4), none] [ki s0, ki s1, kr 11] := by
  unfold pf_Rules_worth_7_70_l10_j105 at h
  obtain ⟨hc_15, h⟩ := kchk_h h
  obtain ⟨σ_16, eσ_16, h⟩ := klet_h h
  refine kw_iast C (kdec dc_Rules_worth 59 rfl) 106 rfl rfl hc_15.1 hc_15.2 ?_
  refine kw_sig eσ_16 ?_
  refine kw_goto C (kdec dc_Rules_worth 60 rfl) 144 (by decide) ?_
  exact bd_pf_Rules_worth_7_70_l10_j144 C σ_16 x1 x3 x4 h hC hX150
def pf_Rules_worth_7_70_l10_j64 (σ : kM) (x1 : Int) (x3 : Int) (x4 : Int) (s0 : Int) (s1 : Int) : Option ((kM × Int × Int) ⊕ ((kM × Int))) :=
  kchk (0 ≤ s1 ∧ s1 < 64) <|
  klet (kst σ 11 (kup (σ 11) s1.toNat s0)) fun σ_19 =>
  klet (w32 (x3 + 1)) fun x3_20 =>
  pf_Rules_worth_7_70_l10_j144 σ_19 x1 x3_20 x4
set_option maxHeartbeats 4000000 in
theorem bd_pf_Rules_worth_7_70_l10_j64 {x : kX} {l0 : Launch} {Q : State → Prop} (C : kCx x prog_7_method_9_code "PoetFines$Rules" (some .int) kcl yC 6 l0 R0_pf_Rules_worth_7_70) (σ : kM) (x1 : Int) (x3 : Int) (x4 : Int) (s0 : Int) (s1 : Int) {out : (kM × Int × Int) ⊕ ((kM × Int))} (h : pf_Rules_worth_7_70_l10_j64 σ x1 x3 x4 s0 s1 = some out) (hC : ∀ (σ' : kM) (x3' : Int) (x4' : Int), out = Sum.inl (σ', x3', x4') → KW x 0 0 Q σ' 10 [some (kr 7), some (ki x1), some (kr 70), some (ki x3'), some (ki x4'), none] []) (hX150 : ∀ (σ' : kM) (x3' : Int), out = Sum.inr (σ', x3') → KW x 0 0 Q σ' 150 [some (kr 7), none, none, some (ki x3'), none, none] []) : KW x 0 0 Q σ 64 [some (kr 7), some (ki x1), some (kr 70), some (ki x3), some (ki x4), none] [ki s0, ki s1, kr 11] := by
  unfold pf_Rules_worth_7_70_l10_j64 at h
  obtain ⟨hc_18, h⟩ := kchk_h h
  obtain ⟨σ_19, eσ_19, h⟩ := klet_h h
  refine kw_iast C (kdec dc_Rules_worth 36 rfl) 65 rfl rfl hc_18.1 hc_18.2 ?_
  refine kw_sig eσ_19 ?_
  obtain ⟨x3_20, ex3_20, h⟩ := klet_h h
  refine kw_iinc (L' := [some (kr 7), some (ki x1), some (kr 70), some (ki x3_20), some (ki x4), none]) C (kdec dc_Rules_worth 37 rfl) 68 rfl rfl (by decide) rfl (by rw [ex3_20]; rfl) ?_
  refine kw_goto C (kdec dc_Rules_worth 38 rfl) 144 (by decide) ?_
  exact bd_pf_Rules_worth_7_70_l10_j144 C σ_19 x1 x3_20 x4 h hC hX150
def pf_Rules_worth_7_70_l10 (σ : kM) (x1 : Int) (x3 : Int) (x4 : Int) : Option ((kM × Int × Int) ⊕ ((kM × Int))) :=
  kchk (0 ≤ x1 ∧ x1 < 3) <|
  if (σ 10 x1.toNat) ≤ x4 then
    some (Sum.inr (σ, x3))
  else
    kchk (0 ≤ x4 ∧ x4 < 700) <|
    klet (σ 8 x4.toNat) fun x5_5 =>
    if x5_5 ≤ ((-9)) then
      if x5_5 = ((-9)) then
        if x3 ≤ 0 then
          pf_Rules_worth_7_70_l10_j144 σ x1 x3 x4
        else
          kchk (0 ≤ (w32 (x3 - 1)) ∧ (w32 (x3 - 1)) < 64) <|
          if (σ 11 (w32 (x3 - 1)).toNat) = 0 then
            pf_Rules_worth_7_70_l10_j105 σ x1 x3 x4 1 (w32 (x3 - 1))
          else
            pf_Rules_worth_7_70_l10_j105 σ x1 x3 x4 0 (w32 (x3 - 1))
      else
        if x3 ≤ 1 then
          pf_Rules_worth_7_70_l10_j144 σ x1 x3 x4
        else
          klet (w32 (x3 + (-1))) fun x3_7 =>
          kchk (0 ≤ (w32 (x3_7 - 1)) ∧ (w32 (x3_7 - 1)) < 64) <|
          kchk (0 ≤ x3_7 ∧ x3_7 < 64) <|
          (pf_Rules_combined σ x5_5 (σ 11 (w32 (x3_7 - 1)).toNat) (σ 11 x3_7.toNat)).bind fun r_10 =>
          kchk (0 ≤ (w32 (x3_7 - 1)) ∧ (w32 (x3_7 - 1)) < 64) <|
          klet (kst σ 11 (kup (σ 11) ((w32 (x3_7 - 1)).toNat) r_10)) fun σ_12 =>
          pf_Rules_worth_7_70_l10_j144 σ_12 x1 x3_7 x4
    else
      if 64 ≤ x3 then
        pf_Rules_worth_7_70_l10_j144 σ x1 x3 x4
      else
        if x5_5 < 0 then
          kchk (0 ≤ (w32 (((-1)) - x5_5)) ∧ (w32 (((-1)) - x5_5)) < 8) <|
          pf_Rules_worth_7_70_l10_j64 σ x1 x3 x4 (σ 70 (w32 (((-1)) - x5_5)).toNat) x3
        else
          pf_Rules_worth_7_70_l10_j64 σ x1 x3 x4 x5_5 x3
set_option maxHeartbeats 4000000 in
theorem bd_pf_Rules_worth_7_70_l10 {x : kX} {l0 : Launch} {Q : State → Prop} (C : kCx x prog_7_method_9_code "PoetFines$Rules" (some .int) kcl yC 6 l0 R0_pf_Rules_worth_7_70) (σ : kM) (x1 : Int) (x3 : Int) (x4 : Int) {out : (kM × Int × Int) ⊕ ((kM × Int))} (h : pf_Rules_worth_7_70_l10 σ x1 x3 x4 = some out) (hC : ∀ (σ' : kM) (x3' : Int) (x4' : Int), out = Sum.inl (σ', x3', x4') → KW x 0 0 Q σ' 10 [some (kr 7), some (ki x1), some (kr 70), some (ki x3'), some (ki x4'), none] []) (hX150 : ∀ (σ' : kM) (x3' : Int), out = Sum.inr (σ', x3') → KW x 0 0 Q σ' 150 [some (kr 7), none, none, some (ki x3'), none, none] []) : KW x 0 0 Q σ 10 [some (kr 7), some (ki x1), some (kr 70), some (ki x3), some (ki x4), none] [] := by
  unfold pf_Rules_worth_7_70_l10 at h
  refine kw_iload C (kdec dc_Rules_worth 7 rfl) 12 rfl rfl ?_
  refine kw_aload_n C (kdec dc_Rules_worth 8 rfl) rfl 13 rfl rfl ?_
  refine kw_getR C (kdec dc_Rules_worth 9 rfl) 16 rfl fd_C_Rules_22_7 ?_
  refine kw_iload_n C (kdec dc_Rules_worth 10 rfl) rfl 17 rfl rfl ?_
  obtain ⟨hc_3, h⟩ := kchk_h h
  refine kw_iald C (kdec dc_Rules_worth 11 rfl) 18 rfl rfl hc_3.1 hc_3.2 ?_
  refine kw_icmp_ge C (kdec dc_Rules_worth 12 rfl) 150 21 (by decide) rfl (fun hc18 => ?_) (fun hc18 => ?_)
  · rw [if_pos hc18] at h
    obtain rfl := Option.some.inj h
    exact kw_sub (L' := [some (kr 7), none, none, some (ki x3), none, none]) ⟨rfl, rfl, trivial⟩ (hX150 _ _ rfl)
  · rw [if_neg hc18] at h
    refine kw_aload_n C (kdec dc_Rules_worth 13 rfl) rfl 22 rfl rfl ?_
    refine kw_getR C (kdec dc_Rules_worth 14 rfl) 25 rfl fd_C_Rules_11_7 ?_
    refine kw_iload C (kdec dc_Rules_worth 15 rfl) 27 rfl rfl ?_
    obtain ⟨hc_4, h⟩ := kchk_h h
    refine kw_iald C (kdec dc_Rules_worth 16 rfl) 28 rfl rfl hc_4.1 hc_4.2 ?_
    obtain ⟨x5_5, ex5_5, h⟩ := klet_h h
    refine kw_top ex5_5 ?_
    refine kw_istore (L' := [some (kr 7), some (ki x1), some (kr 70), some (ki x3), some (ki x4), some (ki x5_5)]) C (kdec dc_Rules_worth 17 rfl) 30 rfl (by decide) rfl rfl ?_
    refine kw_iload C (kdec dc_Rules_worth 18 rfl) 32 rfl rfl ?_
    refine kw_bipush (v := -9) C (kdec dc_Rules_worth 19 rfl) 34 rfl (by decide) ⟨by decide, by decide⟩ ?_
    refine kw_icmp_le C (kdec dc_Rules_worth 20 rfl) 71 37 (by decide) rfl (fun hc34 => ?_) (fun hc34 => ?_)
    · rw [if_pos hc34] at h
      refine kw_iload C (kdec dc_Rules_worth 39 rfl) 73 rfl rfl ?_
      refine kw_bipush (v := -9) C (kdec dc_Rules_worth 40 rfl) 75 rfl (by decide) ⟨by decide, by decide⟩ ?_
      refine kw_icmp_ne C (kdec dc_Rules_worth 41 rfl) 109 78 (by decide) rfl (fun hc75 => ?_) (fun hc75 => ?_)
      · rw [if_neg hc75] at h
        refine kw_iload_n C (kdec dc_Rules_worth 61 rfl) rfl 110 rfl rfl ?_
        refine kw_iconst C (kdec dc_Rules_worth 62 rfl) 111 rfl rfl ⟨by decide, by decide⟩ ?_
        refine kw_icmp_le C (kdec dc_Rules_worth 63 rfl) 144 114 (by decide) rfl (fun hc111 => ?_) (fun hc111 => ?_)
        · rw [if_pos hc111] at h
          exact kw_sub (L' := [some (kr 7), some (ki x1), some (kr 70), some (ki x3), some (ki x4), none]) ⟨rfl, rfl, rfl, rfl, rfl, trivial⟩ (bd_pf_Rules_worth_7_70_l10_j144 C σ x1 x3 x4 h hC hX150)
        · rw [if_neg hc111] at h
          obtain ⟨x3_7, ex3_7, h⟩ := klet_h h
          refine kw_iinc (L' := [some (kr 7), some (ki x1), some (kr 70), some (ki x3_7), some (ki x4), some (ki x5_5)]) C (kdec dc_Rules_worth 64 rfl) 117 rfl rfl (by decide) rfl (by rw [ex3_7]; rfl) ?_
          refine kw_aload_n C (kdec dc_Rules_worth 65 rfl) rfl 118 rfl rfl ?_
          refine kw_getR C (kdec dc_Rules_worth 66 rfl) 121 rfl fd_C_Rules_25_7 ?_
          refine kw_iload_n C (kdec dc_Rules_worth 67 rfl) rfl 122 rfl rfl ?_
          refine kw_iconst C (kdec dc_Rules_worth 68 rfl) 123 rfl rfl ⟨by decide, by decide⟩ ?_
          refine kw_isub C (kdec dc_Rules_worth 69 rfl) 124 rfl ?_
          refine kw_iload C (kdec dc_Rules_worth 70 rfl) 126 rfl rfl ?_
          refine kw_aload_n C (kdec dc_Rules_worth 71 rfl) rfl 127 rfl rfl ?_
          refine kw_getR C (kdec dc_Rules_worth 72 rfl) 130 rfl fd_C_Rules_25_7 ?_
          refine kw_iload_n C (kdec dc_Rules_worth 73 rfl) rfl 131 rfl rfl ?_
          refine kw_iconst C (kdec dc_Rules_worth 74 rfl) 132 rfl rfl ⟨by decide, by decide⟩ ?_
          refine kw_isub C (kdec dc_Rules_worth 75 rfl) 133 rfl ?_
          obtain ⟨hc_8, h⟩ := kchk_h h
          refine kw_iald C (kdec dc_Rules_worth 76 rfl) 134 rfl rfl hc_8.1 hc_8.2 ?_
          refine kw_aload_n C (kdec dc_Rules_worth 77 rfl) rfl 135 rfl rfl ?_
          refine kw_getR C (kdec dc_Rules_worth 78 rfl) 138 rfl fd_C_Rules_25_7 ?_
          refine kw_iload_n C (kdec dc_Rules_worth 79 rfl) rfl 139 rfl rfl ?_
          obtain ⟨hc_9, h⟩ := kchk_h h
          refine kw_iald C (kdec dc_Rules_worth 80 rfl) 140 rfl rfl hc_9.1 hc_9.2 ?_
          obtain ⟨r_10, hg_13, h⟩ := kbind_h h
          refine kw_callS (As := [ki x5_5, ki (σ 11 (w32 (x3_7 - 1)).toNat), ki (σ 11 x3_7.toNat)]) C (kdec dc_Rules_worth 81 rfl) 143 rfl cs_Rules_34 (mt_pf_Rules_combined l0 hg_13) ⟨rfl, rfl⟩ ⟨Nat.le_of_ble_eq_true rfl, Nat.le_of_ble_eq_true rfl⟩ ⟨Nat.zero_le _, Nat.zero_le _⟩ rfl (Nat.le_of_ble_eq_true rfl) ?_
          change KW x 0 0 Q σ 143 [some (kr 7), some (ki x1), some (kr 70), some (ki x3_7), some (ki x4), some (ki x5_5)] [ki r_10, ki (w32 (x3_7 - 1)), kr 11]
          obtain ⟨hc_11, h⟩ := kchk_h h
          obtain ⟨σ_12, eσ_12, h⟩ := klet_h h
          refine kw_iast C (kdec dc_Rules_worth 82 rfl) 144 rfl rfl hc_11.1 hc_11.2 ?_
          refine kw_sig eσ_12 ?_
          exact kw_sub (L' := [some (kr 7), some (ki x1), some (kr 70), some (ki x3_7), some (ki x4), none]) ⟨rfl, rfl, rfl, rfl, rfl, trivial⟩ (bd_pf_Rules_worth_7_70_l10_j144 C σ_12 x1 x3_7 x4 h hC hX150)
      · rw [if_pos hc75] at h
        refine kw_iload_n C (kdec dc_Rules_worth 42 rfl) rfl 79 rfl rfl ?_
        refine kw_if_le C (kdec dc_Rules_worth 43 rfl) 144 82 (by decide) rfl (fun hc79 => ?_) (fun hc79 => ?_)
        · rw [if_pos hc79] at h
          exact kw_sub (L' := [some (kr 7), some (ki x1), some (kr 70), some (ki x3), some (ki x4), none]) ⟨rfl, rfl, rfl, rfl, rfl, trivial⟩ (bd_pf_Rules_worth_7_70_l10_j144 C σ x1 x3 x4 h hC hX150)
        · rw [if_neg hc79] at h
          refine kw_aload_n C (kdec dc_Rules_worth 44 rfl) rfl 83 rfl rfl ?_
          refine kw_getR C (kdec dc_Rules_worth 45 rfl) 86 rfl fd_C_Rules_25_7 ?_
          refine kw_iload_n C (kdec dc_Rules_worth 46 rfl) rfl 87 rfl rfl ?_
          refine kw_iconst C (kdec dc_Rules_worth 47 rfl) 88 rfl rfl ⟨by decide, by decide⟩ ?_
          refine kw_isub C (kdec dc_Rules_worth 48 rfl) 89 rfl ?_
          refine kw_aload_n C (kdec dc_Rules_worth 49 rfl) rfl 90 rfl rfl ?_
          refine kw_getR C (kdec dc_Rules_worth 50 rfl) 93 rfl fd_C_Rules_25_7 ?_
          refine kw_iload_n C (kdec dc_Rules_worth 51 rfl) rfl 94 rfl rfl ?_
          refine kw_iconst C (kdec dc_Rules_worth 52 rfl) 95 rfl rfl ⟨by decide, by decide⟩ ?_
          refine kw_isub C (kdec dc_Rules_worth 53 rfl) 96 rfl ?_
          obtain ⟨hc_14, h⟩ := kchk_h h
          refine kw_iald C (kdec dc_Rules_worth 54 rfl) 97 rfl rfl hc_14.1 hc_14.2 ?_
          refine kw_if_ne C (kdec dc_Rules_worth 55 rfl) 104 100 (by decide) rfl (fun hc97 => ?_) (fun hc97 => ?_)
          · rw [if_neg hc97] at h
            refine kw_iconst C (kdec dc_Rules_worth 58 rfl) 105 rfl rfl ⟨by decide, by decide⟩ ?_
            exact kw_sub (L' := [some (kr 7), some (ki x1), some (kr 70), some (ki x3), some (ki x4), none]) ⟨rfl, rfl, rfl, rfl, rfl, trivial⟩ (bd_pf_Rules_worth_7_70_l10_j105 C σ x1 x3 x4 0 (w32 (x3 - 1)) h hC hX150)
          · rw [if_pos hc97] at h
            refine kw_iconst C (kdec dc_Rules_worth 56 rfl) 101 rfl rfl ⟨by decide, by decide⟩ ?_
            refine kw_goto C (kdec dc_Rules_worth 57 rfl) 105 (by decide) ?_
            exact kw_sub (L' := [some (kr 7), some (ki x1), some (kr 70), some (ki x3), some (ki x4), none]) ⟨rfl, rfl, rfl, rfl, rfl, trivial⟩ (bd_pf_Rules_worth_7_70_l10_j105 C σ x1 x3 x4 1 (w32 (x3 - 1)) h hC hX150)
    · rw [if_neg hc34] at h
      refine kw_iload_n C (kdec dc_Rules_worth 21 rfl) rfl 38 rfl rfl ?_
      refine kw_bipush (v := 64) C (kdec dc_Rules_worth 22 rfl) 40 rfl (by decide) ⟨by decide, by decide⟩ ?_
      refine kw_icmp_ge C (kdec dc_Rules_worth 23 rfl) 144 43 (by decide) rfl (fun hc40 => ?_) (fun hc40 => ?_)
      · rw [if_pos hc40] at h
        exact kw_sub (L' := [some (kr 7), some (ki x1), some (kr 70), some (ki x3), some (ki x4), none]) ⟨rfl, rfl, rfl, rfl, rfl, trivial⟩ (bd_pf_Rules_worth_7_70_l10_j144 C σ x1 x3 x4 h hC hX150)
      · rw [if_neg hc40] at h
        refine kw_aload_n C (kdec dc_Rules_worth 24 rfl) rfl 44 rfl rfl ?_
        refine kw_getR C (kdec dc_Rules_worth 25 rfl) 47 rfl fd_C_Rules_25_7 ?_
        refine kw_iload_n C (kdec dc_Rules_worth 26 rfl) rfl 48 rfl rfl ?_
        refine kw_iload C (kdec dc_Rules_worth 27 rfl) 50 rfl rfl ?_
        refine kw_if_lt C (kdec dc_Rules_worth 28 rfl) 58 53 (by decide) rfl (fun hc50 => ?_) (fun hc50 => ?_)
        · rw [if_pos hc50] at h
          refine kw_aload_n C (kdec dc_Rules_worth 31 rfl) rfl 59 rfl rfl ?_
          refine kw_iconst C (kdec dc_Rules_worth 32 rfl) 60 rfl rfl ⟨by decide, by decide⟩ ?_
          refine kw_iload C (kdec dc_Rules_worth 33 rfl) 62 rfl rfl ?_
          refine kw_isub C (kdec dc_Rules_worth 34 rfl) 63 rfl ?_
          obtain ⟨hc_17, h⟩ := kchk_h h
          refine kw_iald C (kdec dc_Rules_worth 35 rfl) 64 rfl rfl hc_17.1 hc_17.2 ?_
          exact kw_sub (L' := [some (kr 7), some (ki x1), some (kr 70), some (ki x3), some (ki x4), none]) ⟨rfl, rfl, rfl, rfl, rfl, trivial⟩ (bd_pf_Rules_worth_7_70_l10_j64 C σ x1 x3 x4 (σ 70 (w32 (((-1)) - x5_5)).toNat) x3 h hC hX150)
        · rw [if_neg hc50] at h
          refine kw_iload C (kdec dc_Rules_worth 29 rfl) 55 rfl rfl ?_
          refine kw_goto C (kdec dc_Rules_worth 30 rfl) 64 (by decide) ?_
          exact kw_sub (L' := [some (kr 7), some (ki x1), some (kr 70), some (ki x3), some (ki x4), none]) ⟨rfl, rfl, rfl, rfl, rfl, trivial⟩ (bd_pf_Rules_worth_7_70_l10_j64 C σ x1 x3 x4 x5_5 x3 h hC hX150)
theorem lp_pf_Rules_worth_7_70_l10 {x : kX} {l0 : Launch} {Q : State → Prop} (C : kCx x prog_7_method_9_code "PoetFines$Rules" (some .int) kcl yC 6 l0 R0_pf_Rules_worth_7_70) (x1 : Int) {ex : (kM × Int)} (hX150 : ∀ (σ' : kM) (x3' : Int), ex = (σ', x3') → KW x 0 0 Q σ' 150 [some (kr 7), none, none, some (ki x3'), none, none] []) (n : Nat) (σ : kM) (x3 : Int) (x4 : Int) (h : kloop (fun st => pf_Rules_worth_7_70_l10 st.1 x1 st.2.1 st.2.2) n (σ, x3, x4) = some ex) : KW x 0 0 Q σ 10 [some (kr 7), some (ki x1), some (kr 70), some (ki x3), some (ki x4), none] [] :=
  kloop_ind (P := (fun st : kM × Int × Int => KW x 0 0 Q st.1 10 [some (kr 7), some (ki x1), some (kr 70), some (ki (st.2.1)), some (ki (st.2.2)), none] [])) (fun st out hb hc hx => bd_pf_Rules_worth_7_70_l10 C st.1 x1 st.2.1 st.2.2 hb (fun a0 a1 a2 e => hc _ e) (fun a0 a1 e => hX150 _ _ ((hx _ e).symm))) n (σ, x3, x4) h
def pf_Rules_worth_7_70 (σ : kM) (x1 : Int) : Option (Int × kM) :=
  kchk (0 ≤ x1 ∧ x1 < 3) <|
  klet (σ 9 x1.toNat) fun x4_2 =>
  (kloop (fun st => pf_Rules_worth_7_70_l10 st.1 x1 st.2.1 st.2.2) kFuel (σ, 0, x4_2)).bind fun (σ_23, x3_24) =>
  if x3_24 ≤ 0 then
    some ((0, σ_23))
  else
    kchk (0 ≤ (w32 (x3_24 - 1)) ∧ (w32 (x3_24 - 1)) < 64) <|
    some ((σ_23 11 (w32 (x3_24 - 1)).toNat, σ_23))
set_option maxHeartbeats 4000000 in
theorem bd_pf_Rules_worth_7_70 {x : kX} {l0 : Launch} {Q : State → Prop} (C : kCx x prog_7_method_9_code "PoetFines$Rules" (some .int) kcl yC 6 l0 R0_pf_Rules_worth_7_70) (σ : kM) (x1 : Int) {out : Int × kM} (h : pf_Rules_worth_7_70 σ x1 = some out) (hR : ∀ (r : Int) (τ : kM), out = (r, τ) → Q = kQ x (some (ki r)) τ 0 0) : KW x 0 0 Q σ 0 [some (kr 7), some (ki x1), some (kr 70), none, none, none] [] := by
  unfold pf_Rules_worth_7_70 at h
  refine kw_iconst C (kdec dc_Rules_worth 0 rfl) 1 rfl rfl ⟨by decide, by decide⟩ ?_
  refine kw_istore_n (L' := [some (kr 7), some (ki x1), some (kr 70), some (ki 0), none, none]) C (kdec dc_Rules_worth 1 rfl) rfl 2 rfl (by decide) rfl rfl ?_
  refine kw_aload_n C (kdec dc_Rules_worth 2 rfl) rfl 3 rfl rfl ?_
  refine kw_getR C (kdec dc_Rules_worth 3 rfl) 6 rfl fd_C_Rules_19_7 ?_
  refine kw_iload_n C (kdec dc_Rules_worth 4 rfl) rfl 7 rfl rfl ?_
  obtain ⟨hc_1, h⟩ := kchk_h h
  refine kw_iald C (kdec dc_Rules_worth 5 rfl) 8 rfl rfl hc_1.1 hc_1.2 ?_
  obtain ⟨x4_2, ex4_2, h⟩ := klet_h h
  refine kw_top ex4_2 ?_
  refine kw_istore (L' := [some (kr 7), some (ki x1), some (kr 70), some (ki 0), some (ki x4_2), none]) C (kdec dc_Rules_worth 6 rfl) 10 rfl (by decide) rfl rfl ?_
  obtain ⟨ex_21, hl_22, h⟩ := kbind_h h
  refine lp_pf_Rules_worth_7_70_l10 C x1 ?_ kFuel σ 0 x4_2 hl_22
  · intro σ_23 x3_24 e
    subst ex_21
    try dsimp only at h
    refine kw_iload_n C (kdec dc_Rules_worth 85 rfl) rfl 151 rfl rfl ?_
    refine kw_if_le C (kdec dc_Rules_worth 86 rfl) 165 154 (by decide) rfl (fun hc151 => ?_) (fun hc151 => ?_)
    · rw [if_pos hc151] at h
      refine kw_iconst C (kdec dc_Rules_worth 94 rfl) 166 rfl rfl ⟨by decide, by decide⟩ ?_
      obtain rfl := Option.some.inj h
      exact kw_Q (hR _ _ rfl) (kw_ireturn C (kdec dc_Rules_worth 95 rfl))
    · rw [if_neg hc151] at h
      refine kw_aload_n C (kdec dc_Rules_worth 87 rfl) rfl 155 rfl rfl ?_
      refine kw_getR C (kdec dc_Rules_worth 88 rfl) 158 rfl fd_C_Rules_25_7 ?_
      refine kw_iload_n C (kdec dc_Rules_worth 89 rfl) rfl 159 rfl rfl ?_
      refine kw_iconst C (kdec dc_Rules_worth 90 rfl) 160 rfl rfl ⟨by decide, by decide⟩ ?_
      refine kw_isub C (kdec dc_Rules_worth 91 rfl) 161 rfl ?_
      obtain ⟨hc_25, h⟩ := kchk_h h
      refine kw_iald C (kdec dc_Rules_worth 92 rfl) 162 rfl rfl hc_25.1 hc_25.2 ?_
      refine kw_goto C (kdec dc_Rules_worth 93 rfl) 166 (by decide) ?_
      obtain rfl := Option.some.inj h
      exact kw_Q (hR _ _ rfl) (kw_ireturn C (kdec dc_Rules_worth 95 rfl))
theorem mt_pf_Rules_worth_7_70 (l0 : Launch) {σ : kM} {x1 : Int} {r : Int} {τ : kM} (h : pf_Rules_worth_7_70 σ x1 = some (r, τ)) : kMet l0 ky_Rules_worth prog_7_method_9_code 6 (some .int) R0_pf_Rules_worth_7_70 kcl yC σ [kr 7, ki x1, kr 70] (some (ki r)) τ := kMet.of' [some (kr 7), some (ki x1), some (kr 70), none, none, none] (by decide) (Nat.le_of_ble_eq_true rfl) ⟨rfl, rfl, rfl, trivial⟩ (fun x C => bd_pf_Rules_worth_7_70 C σ x1 h (fun r τ e => by cases e; rfl))
def R0_pf_Stage_wouldBuy_64 : Room := ({ frames := 2, cells := 0, slots := 0, locals := 47 } : Room)
def pf_Stage_wouldBuy_64 (σ : kM) (x1 : Int) (x2 : Int) : Option (Int × kM) :=
  (pf_Rules_has_7 σ 2).bind fun r_1 =>
  if r_1 = 0 then
    some ((1, σ))
  else
    kchk (0 ≤ (w32 (1 + x2)) ∧ (w32 (1 + x2)) < 85) <|
    (pf_Stage_setValues_64 σ x1 x2 (σ 59 (w32 (1 + x2)).toNat)).bind fun σ_3 =>
    (pf_Rules_worth_7_70 σ_3 2).bind fun (r_4, σ_5) =>
    if r_4 ≤ 0 then
      some ((0, σ_5))
    else
      some ((1, σ_5))
set_option maxHeartbeats 4000000 in
theorem bd_pf_Stage_wouldBuy_64 {x : kX} {l0 : Launch} {Q : State → Prop} (C : kCx x prog_8_method_7_code "PoetFines$Stage" (some .boolean) kcl yC 3 l0 R0_pf_Stage_wouldBuy_64) (σ : kM) (x1 : Int) (x2 : Int) {out : Int × kM} (h : pf_Stage_wouldBuy_64 σ x1 x2 = some out) (hR : ∀ (r : Int) (τ : kM), out = (r, τ) → Q = kQ x (some (ki r)) τ 0 0) : KW x 0 0 Q σ 0 [some (kr 64), some (ki x1), some (ki x2)] [] := by
  unfold pf_Stage_wouldBuy_64 at h
  refine kw_aload_n C (kdec dc_Stage_wouldBuy 0 rfl) rfl 1 rfl rfl ?_
  refine kw_getR C (kdec dc_Stage_wouldBuy 1 rfl) 4 rfl fd_C_Stage_24_64 ?_
  refine kw_getR C (kdec dc_Stage_wouldBuy 2 rfl) 7 rfl fd_C_Stage_38_3 ?_
  refine kw_iconst C (kdec dc_Stage_wouldBuy 3 rfl) 8 rfl rfl ⟨by decide, by decide⟩ ?_
  obtain ⟨r_1, hg_8, h⟩ := kbind_h h
  refine kw_callV (As := [ki 2]) C (kdec dc_Stage_wouldBuy 4 rfl) 11 rfl cv_Stage_42 rfl rfl (mt_pf_Rules_has_7 l0 hg_8) ⟨rfl, rfl⟩ ⟨Nat.le_of_ble_eq_true rfl, Nat.le_of_ble_eq_true rfl⟩ ⟨Nat.zero_le _, Nat.zero_le _⟩ rfl (Nat.le_of_ble_eq_true rfl) ?_
  change KW x 0 0 Q σ 11 [some (kr 64), some (ki x1), some (ki x2)] [ki r_1]
  refine kw_if_ne C (kdec dc_Stage_wouldBuy 5 rfl) 16 14 (by decide) rfl (fun hc11 => ?_) (fun hc11 => ?_)
  · rw [if_neg hc11] at h
    refine kw_aload_n C (kdec dc_Stage_wouldBuy 8 rfl) rfl 17 rfl rfl ?_
    refine kw_iload_n C (kdec dc_Stage_wouldBuy 9 rfl) rfl 18 rfl rfl ?_
    refine kw_iload_n C (kdec dc_Stage_wouldBuy 10 rfl) rfl 19 rfl rfl ?_
    refine kw_aload_n C (kdec dc_Stage_wouldBuy 11 rfl) rfl 20 rfl rfl ?_
    refine kw_getR C (kdec dc_Stage_wouldBuy 12 rfl) 23 rfl fd_C_Stage_28_64 ?_
    refine kw_getR C (kdec dc_Stage_wouldBuy 13 rfl) 26 rfl fd_C_Stage_51_58 ?_
    refine kw_iconst C (kdec dc_Stage_wouldBuy 14 rfl) 27 rfl rfl ⟨by decide, by decide⟩ ?_
    refine kw_iload_n C (kdec dc_Stage_wouldBuy 15 rfl) rfl 28 rfl rfl ?_
    refine kw_iadd C (kdec dc_Stage_wouldBuy 16 rfl) 29 rfl ?_
    obtain ⟨hc_2, h⟩ := kchk_h h
    refine kw_iald C (kdec dc_Stage_wouldBuy 17 rfl) 30 rfl rfl hc_2.1 hc_2.2 ?_
    obtain ⟨σ_3, hg_7, h⟩ := kbind_h h
    refine kw_callV (As := [ki x1, ki x2, ki (σ 59 (w32 (1 + x2)).toNat)]) C (kdec dc_Stage_wouldBuy 18 rfl) 33 rfl cv_Stage_56 rfl rfl (mt_pf_Stage_setValues_64 l0 hg_7) ⟨rfl, rfl⟩ ⟨Nat.le_of_ble_eq_true rfl, Nat.le_of_ble_eq_true rfl⟩ ⟨Nat.zero_le _, Nat.zero_le _⟩ rfl (Nat.le_of_ble_eq_true rfl) ?_
    change KW x 0 0 Q σ_3 33 [some (kr 64), some (ki x1), some (ki x2)] []
    refine kw_aload_n C (kdec dc_Stage_wouldBuy 19 rfl) rfl 34 rfl rfl ?_
    refine kw_getR C (kdec dc_Stage_wouldBuy 20 rfl) 37 rfl fd_C_Stage_24_64 ?_
    refine kw_getR C (kdec dc_Stage_wouldBuy 21 rfl) 40 rfl fd_C_Stage_38_3 ?_
    refine kw_iconst C (kdec dc_Stage_wouldBuy 22 rfl) 41 rfl rfl ⟨by decide, by decide⟩ ?_
    refine kw_aload_n C (kdec dc_Stage_wouldBuy 23 rfl) rfl 42 rfl rfl ?_
    refine kw_getR C (kdec dc_Stage_wouldBuy 24 rfl) 45 rfl fd_C_Stage_20_64 ?_
    obtain ⟨⟨r_4, σ_5⟩, hg_6, h⟩ := kbind_h h
    dsimp only at h
    refine kw_callV (As := [ki 2, kr 70]) C (kdec dc_Stage_wouldBuy 25 rfl) 48 rfl cv_Stage_60 rfl rfl (mt_pf_Rules_worth_7_70 l0 hg_6) ⟨rfl, rfl⟩ ⟨Nat.le_of_ble_eq_true rfl, Nat.le_of_ble_eq_true rfl⟩ ⟨Nat.zero_le _, Nat.zero_le _⟩ rfl (Nat.le_of_ble_eq_true rfl) ?_
    change KW x 0 0 Q σ_5 48 [some (kr 64), some (ki x1), some (ki x2)] [ki r_4]
    refine kw_if_le C (kdec dc_Stage_wouldBuy 26 rfl) 55 51 (by decide) rfl (fun hc48 => ?_) (fun hc48 => ?_)
    · rw [if_pos hc48] at h
      refine kw_iconst C (kdec dc_Stage_wouldBuy 29 rfl) 56 rfl rfl ⟨by decide, by decide⟩ ?_
      obtain rfl := Option.some.inj h
      exact kw_Q (hR _ _ rfl) (kw_zreturn C (kdec dc_Stage_wouldBuy 30 rfl) (by decide))
    · rw [if_neg hc48] at h
      refine kw_iconst C (kdec dc_Stage_wouldBuy 27 rfl) 52 rfl rfl ⟨by decide, by decide⟩ ?_
      refine kw_goto C (kdec dc_Stage_wouldBuy 28 rfl) 56 (by decide) ?_
      obtain rfl := Option.some.inj h
      exact kw_Q (hR _ _ rfl) (kw_zreturn C (kdec dc_Stage_wouldBuy 30 rfl) (by decide))
  · rw [if_pos hc11] at h
    refine kw_iconst C (kdec dc_Stage_wouldBuy 6 rfl) 15 rfl rfl ⟨by decide, by decide⟩ ?_
    obtain rfl := Option.some.inj h
    exact kw_Q (hR _ _ rfl) (kw_zreturn C (kdec dc_Stage_wouldBuy 7 rfl) (by decide))
theorem mt_pf_Stage_wouldBuy_64 (l0 : Launch) {σ : kM} {x1 : Int} {x2 : Int} {r : Int} {τ : kM} (h : pf_Stage_wouldBuy_64 σ x1 x2 = some (r, τ)) : kMet l0 ky_Stage_wouldBuy prog_8_method_7_code 3 (some .boolean) R0_pf_Stage_wouldBuy_64 kcl yC σ [kr 64, ki x1, ki x2] (some (ki r)) τ := kMet.of' [some (kr 64), some (ki x1), some (ki x2)] (by decide) (Nat.le_of_ble_eq_true rfl) ⟨rfl, rfl, rfl, trivial⟩ (fun x C => bd_pf_Stage_wouldBuy_64 C σ x1 x2 h (fun r τ e => by cases e; rfl))
def R0_pf_Stage_sellVolumes_64 : Room := ({ frames := 3, cells := 0, slots := 0, locals := 69 } : Room)
def pf_Stage_sellVolumes_64_l10_j82 (σ : kM) (x1 : Int) (x3 : Int) : Option ((kM × Int) ⊕ ((kM))) :=
  klet (w32 (x3 + 1)) fun x3_2 =>
  some (Sum.inl (σ, x3_2))
set_option maxHeartbeats 4000000 in
theorem bd_pf_Stage_sellVolumes_64_l10_j82 {x : kX} {l0 : Launch} {Q : State → Prop} (C : kCx x prog_8_method_6_code "PoetFines$Stage" none kcl yC 4 l0 R0_pf_Stage_sellVolumes_64) (σ : kM) (x1 : Int) (x3 : Int) {out : (kM × Int) ⊕ ((kM))} (h : pf_Stage_sellVolumes_64_l10_j82 σ x1 x3 = some out) (hC : ∀ (σ' : kM) (x3' : Int), out = Sum.inl (σ', x3') → KW x 0 0 Q σ' 10 [some (kr 64), some (ki x1), some (kr 59), some (ki x3')] []) (hX88 : ∀ (σ' : kM), out = Sum.inr σ' → KW x 0 0 Q σ' 88 [none, none, none, none] []) : KW x 0 0 Q σ 82 [some (kr 64), some (ki x1), some (kr 59), some (ki x3)] [] := by
  unfold pf_Stage_sellVolumes_64_l10_j82 at h
  obtain ⟨x3_2, ex3_2, h⟩ := klet_h h
  refine kw_iinc (L' := [some (kr 64), some (ki x1), some (kr 59), some (ki x3_2)]) C (kdec dc_Stage_sellVolumes 56 rfl) 85 rfl rfl (by decide) rfl (by rw [ex3_2]; rfl) ?_
  refine kw_goto C (kdec dc_Stage_sellVolumes 57 rfl) 10 (by decide) ?_
  obtain rfl := Option.some.inj h
  exact (hC _ _ rfl)
def pf_Stage_sellVolumes_64_l10 (σ : kM) (x1 : Int) (x3 : Int) : Option ((kM × Int) ⊕ ((kM))) :=
  if (σ 3 1) ≤ x3 then
    some (Sum.inr σ)
  else
    kchk (0 ≤ (w32 (1 + x3)) ∧ (w32 (1 + x3)) < 85) <|
    if (σ 59 (w32 (1 + x3)).toNat) ≤ 0 then
      pf_Stage_sellVolumes_64_l10_j82 σ x1 x3
    else
      (pf_Stage_wouldBuy_64 σ x1 x3).bind fun (r_3, σ_4) =>
      if r_3 = 0 then
        pf_Stage_sellVolumes_64_l10_j82 σ_4 x1 x3
      else
        klet (w32 (1 + x3)) fun y_5 =>
        kchk (0 ≤ y_5 ∧ y_5 < 85) <|
        kchk (0 ≤ y_5 ∧ y_5 < 85) <|
        klet (kst σ_4 59 (kup (σ_4 59) y_5.toNat (w32 ((σ_4 59 y_5.toNat) - 1)))) fun σ_8 =>
        kchk (0 ≤ (w32 (49 + x1)) ∧ (w32 (49 + x1)) < 85) <|
        if 999 ≤ (σ_8 59 (w32 (49 + x1)).toNat) then
          pf_Stage_sellVolumes_64_l10_j82 σ_8 x1 x3
        else
          klet (w32 (49 + x1)) fun y_10 =>
          kchk (0 ≤ y_10 ∧ y_10 < 85) <|
          kchk (0 ≤ y_10 ∧ y_10 < 85) <|
          klet (kst σ_8 59 (kup (σ_8 59) y_10.toNat (w32 ((σ_8 59 y_10.toNat) + 1)))) fun σ_13 =>
          kchk (0 ≤ x1 ∧ x1 < 4) <|
          kchk (0 ≤ x1 ∧ x1 < 4) <|
          klet (kst σ_13 67 (kup (σ_13 67) x1.toNat (w32 ((σ_13 67 x1.toNat) + 1)))) fun σ_16 =>
          pf_Stage_sellVolumes_64_l10_j82 σ_16 x1 x3
set_option maxHeartbeats 4000000 in
theorem bd_pf_Stage_sellVolumes_64_l10 {x : kX} {l0 : Launch} {Q : State → Prop} (C : kCx x prog_8_method_6_code "PoetFines$Stage" none kcl yC 4 l0 R0_pf_Stage_sellVolumes_64) (σ : kM) (x1 : Int) (x3 : Int) {out : (kM × Int) ⊕ ((kM))} (h : pf_Stage_sellVolumes_64_l10 σ x1 x3 = some out) (hC : ∀ (σ' : kM) (x3' : Int), out = Sum.inl (σ', x3') → KW x 0 0 Q σ' 10 [some (kr 64), some (ki x1), some (kr 59), some (ki x3')] []) (hX88 : ∀ (σ' : kM), out = Sum.inr σ' → KW x 0 0 Q σ' 88 [none, none, none, none] []) : KW x 0 0 Q σ 10 [some (kr 64), some (ki x1), some (kr 59), some (ki x3)] [] := by
  unfold pf_Stage_sellVolumes_64_l10 at h
  refine kw_iload_n C (kdec dc_Stage_sellVolumes 6 rfl) rfl 11 rfl rfl ?_
  refine kw_aload_n C (kdec dc_Stage_sellVolumes 7 rfl) rfl 12 rfl rfl ?_
  refine kw_getR C (kdec dc_Stage_sellVolumes 8 rfl) 15 rfl fd_C_Stage_24_64 ?_
  refine kw_getI C (kdec dc_Stage_sellVolumes 9 rfl) 18 rfl fd_C_Stage_91_3 ?_
  refine kw_icmp_ge C (kdec dc_Stage_sellVolumes 10 rfl) 88 21 (by decide) rfl (fun hc18 => ?_) (fun hc18 => ?_)
  · rw [if_pos hc18] at h
    obtain rfl := Option.some.inj h
    exact kw_sub (L' := [none, none, none, none]) trivial (hX88 _ rfl)
  · rw [if_neg hc18] at h
    refine kw_aload_n C (kdec dc_Stage_sellVolumes 11 rfl) rfl 22 rfl rfl ?_
    refine kw_iconst C (kdec dc_Stage_sellVolumes 12 rfl) 23 rfl rfl ⟨by decide, by decide⟩ ?_
    refine kw_iload_n C (kdec dc_Stage_sellVolumes 13 rfl) rfl 24 rfl rfl ?_
    refine kw_iadd C (kdec dc_Stage_sellVolumes 14 rfl) 25 rfl ?_
    obtain ⟨hc_1, h⟩ := kchk_h h
    refine kw_iald C (kdec dc_Stage_sellVolumes 15 rfl) 26 rfl rfl hc_1.1 hc_1.2 ?_
    refine kw_if_le C (kdec dc_Stage_sellVolumes 16 rfl) 82 29 (by decide) rfl (fun hc26 => ?_) (fun hc26 => ?_)
    · rw [if_pos hc26] at h
      exact bd_pf_Stage_sellVolumes_64_l10_j82 C σ x1 x3 h hC hX88
    · rw [if_neg hc26] at h
      refine kw_aload_n C (kdec dc_Stage_sellVolumes 17 rfl) rfl 30 rfl rfl ?_
      refine kw_iload_n C (kdec dc_Stage_sellVolumes 18 rfl) rfl 31 rfl rfl ?_
      refine kw_iload_n C (kdec dc_Stage_sellVolumes 19 rfl) rfl 32 rfl rfl ?_
      obtain ⟨⟨r_3, σ_4⟩, hg_17, h⟩ := kbind_h h
      dsimp only at h
      refine kw_callV (As := [ki x1, ki x3]) C (kdec dc_Stage_sellVolumes 20 rfl) 35 rfl cv_Stage_94 rfl rfl (mt_pf_Stage_wouldBuy_64 l0 hg_17) ⟨rfl, rfl⟩ ⟨Nat.le_of_ble_eq_true rfl, Nat.le_of_ble_eq_true rfl⟩ ⟨Nat.zero_le _, Nat.zero_le _⟩ rfl (Nat.le_of_ble_eq_true rfl) ?_
      change KW x 0 0 Q σ_4 35 [some (kr 64), some (ki x1), some (kr 59), some (ki x3)] [ki r_3]
      refine kw_if_eq C (kdec dc_Stage_sellVolumes 21 rfl) 82 38 (by decide) rfl (fun hc35 => ?_) (fun hc35 => ?_)
      · rw [if_pos hc35] at h
        exact bd_pf_Stage_sellVolumes_64_l10_j82 C σ_4 x1 x3 h hC hX88
      · rw [if_neg hc35] at h
        refine kw_aload_n C (kdec dc_Stage_sellVolumes 22 rfl) rfl 39 rfl rfl ?_
        refine kw_iconst C (kdec dc_Stage_sellVolumes 23 rfl) 40 rfl rfl ⟨by decide, by decide⟩ ?_
        refine kw_iload_n C (kdec dc_Stage_sellVolumes 24 rfl) rfl 41 rfl rfl ?_
        refine kw_iadd C (kdec dc_Stage_sellVolumes 25 rfl) 42 rfl ?_
        obtain ⟨y_5, ey_5, h⟩ := klet_h h
        refine kw_top ey_5 ?_
        refine kw_dup2 C (kdec dc_Stage_sellVolumes 26 rfl) 43 rfl rfl rfl ?_
        obtain ⟨hc_6, h⟩ := kchk_h h
        refine kw_iald C (kdec dc_Stage_sellVolumes 27 rfl) 44 rfl rfl hc_6.1 hc_6.2 ?_
        refine kw_iconst C (kdec dc_Stage_sellVolumes 28 rfl) 45 rfl rfl ⟨by decide, by decide⟩ ?_
        refine kw_isub C (kdec dc_Stage_sellVolumes 29 rfl) 46 rfl ?_
        obtain ⟨hc_7, h⟩ := kchk_h h
        obtain ⟨σ_8, eσ_8, h⟩ := klet_h h
        refine kw_iast C (kdec dc_Stage_sellVolumes 30 rfl) 47 rfl rfl hc_7.1 hc_7.2 ?_
        refine kw_sig eσ_8 ?_
        refine kw_aload_n C (kdec dc_Stage_sellVolumes 31 rfl) rfl 48 rfl rfl ?_
        refine kw_bipush (v := 49) C (kdec dc_Stage_sellVolumes 32 rfl) 50 rfl (by decide) ⟨by decide, by decide⟩ ?_
        refine kw_iload_n C (kdec dc_Stage_sellVolumes 33 rfl) rfl 51 rfl rfl ?_
        refine kw_iadd C (kdec dc_Stage_sellVolumes 34 rfl) 52 rfl ?_
        obtain ⟨hc_9, h⟩ := kchk_h h
        refine kw_iald C (kdec dc_Stage_sellVolumes 35 rfl) 53 rfl rfl hc_9.1 hc_9.2 ?_
        refine kw_sipush (v := 999) C (kdec dc_Stage_sellVolumes 36 rfl) 56 rfl (by decide) ⟨by decide, by decide⟩ ?_
        refine kw_icmp_ge C (kdec dc_Stage_sellVolumes 37 rfl) 82 59 (by decide) rfl (fun hc56 => ?_) (fun hc56 => ?_)
        · rw [if_pos hc56] at h
          exact bd_pf_Stage_sellVolumes_64_l10_j82 C σ_8 x1 x3 h hC hX88
        · rw [if_neg hc56] at h
          refine kw_aload_n C (kdec dc_Stage_sellVolumes 38 rfl) rfl 60 rfl rfl ?_
          refine kw_bipush (v := 49) C (kdec dc_Stage_sellVolumes 39 rfl) 62 rfl (by decide) ⟨by decide, by decide⟩ ?_
          refine kw_iload_n C (kdec dc_Stage_sellVolumes 40 rfl) rfl 63 rfl rfl ?_
          refine kw_iadd C (kdec dc_Stage_sellVolumes 41 rfl) 64 rfl ?_
          obtain ⟨y_10, ey_10, h⟩ := klet_h h
          refine kw_top ey_10 ?_
          refine kw_dup2 C (kdec dc_Stage_sellVolumes 42 rfl) 65 rfl rfl rfl ?_
          obtain ⟨hc_11, h⟩ := kchk_h h
          refine kw_iald C (kdec dc_Stage_sellVolumes 43 rfl) 66 rfl rfl hc_11.1 hc_11.2 ?_
          refine kw_iconst C (kdec dc_Stage_sellVolumes 44 rfl) 67 rfl rfl ⟨by decide, by decide⟩ ?_
          refine kw_iadd C (kdec dc_Stage_sellVolumes 45 rfl) 68 rfl ?_
          obtain ⟨hc_12, h⟩ := kchk_h h
          obtain ⟨σ_13, eσ_13, h⟩ := klet_h h
          refine kw_iast C (kdec dc_Stage_sellVolumes 46 rfl) 69 rfl rfl hc_12.1 hc_12.2 ?_
          refine kw_sig eσ_13 ?_
          refine kw_aload_n C (kdec dc_Stage_sellVolumes 47 rfl) rfl 70 rfl rfl ?_
          refine kw_getR C (kdec dc_Stage_sellVolumes 48 rfl) 73 rfl fd_C_Stage_12_64 ?_
          refine kw_getR C (kdec dc_Stage_sellVolumes 49 rfl) 76 rfl fd_C_Stage_98_65 ?_
          refine kw_iload_n C (kdec dc_Stage_sellVolumes 50 rfl) rfl 77 rfl rfl ?_
          refine kw_dup2 C (kdec dc_Stage_sellVolumes 51 rfl) 78 rfl rfl rfl ?_
          obtain ⟨hc_14, h⟩ := kchk_h h
          refine kw_iald C (kdec dc_Stage_sellVolumes 52 rfl) 79 rfl rfl hc_14.1 hc_14.2 ?_
          refine kw_iconst C (kdec dc_Stage_sellVolumes 53 rfl) 80 rfl rfl ⟨by decide, by decide⟩ ?_
          refine kw_iadd C (kdec dc_Stage_sellVolumes 54 rfl) 81 rfl ?_
          obtain ⟨hc_15, h⟩ := kchk_h h
          obtain ⟨σ_16, eσ_16, h⟩ := klet_h h
          refine kw_iast C (kdec dc_Stage_sellVolumes 55 rfl) 82 rfl rfl hc_15.1 hc_15.2 ?_
          refine kw_sig eσ_16 ?_
          exact bd_pf_Stage_sellVolumes_64_l10_j82 C σ_16 x1 x3 h hC hX88
theorem lp_pf_Stage_sellVolumes_64_l10 {x : kX} {l0 : Launch} {Q : State → Prop} (C : kCx x prog_8_method_6_code "PoetFines$Stage" none kcl yC 4 l0 R0_pf_Stage_sellVolumes_64) (x1 : Int) {ex : (kM)} (hX88 : ∀ (σ' : kM), ex = σ' → KW x 0 0 Q σ' 88 [none, none, none, none] []) (n : Nat) (σ : kM) (x3 : Int) (h : kloop (fun st => pf_Stage_sellVolumes_64_l10 st.1 x1 st.2) n (σ, x3) = some ex) : KW x 0 0 Q σ 10 [some (kr 64), some (ki x1), some (kr 59), some (ki x3)] [] :=
  kloop_ind (P := (fun st : kM × Int => KW x 0 0 Q st.1 10 [some (kr 64), some (ki x1), some (kr 59), some (ki (st.2))] [])) (fun st out hb hc hx => bd_pf_Stage_sellVolumes_64_l10 C st.1 x1 st.2 hb (fun a0 a1 e => hc _ e) (fun a0 e => hX88 _ ((hx _ e).symm))) n (σ, x3) h
def pf_Stage_sellVolumes_64 (σ : kM) (x1 : Int) : Option (kM) :=
  (kloop (fun st => pf_Stage_sellVolumes_64_l10 st.1 x1 st.2) kFuel (σ, 0)).bind fun σ_20 =>
  some σ_20
set_option maxHeartbeats 4000000 in
theorem bd_pf_Stage_sellVolumes_64 {x : kX} {l0 : Launch} {Q : State → Prop} (C : kCx x prog_8_method_6_code "PoetFines$Stage" none kcl yC 4 l0 R0_pf_Stage_sellVolumes_64) (σ : kM) (x1 : Int) {out : kM} (h : pf_Stage_sellVolumes_64 σ x1 = some out) (hR : ∀ (τ : kM), out = τ → Q = kQ x none τ 0 0) : KW x 0 0 Q σ 0 [some (kr 64), some (ki x1), none, none] [] := by
  unfold pf_Stage_sellVolumes_64 at h
  refine kw_aload_n C (kdec dc_Stage_sellVolumes 0 rfl) rfl 1 rfl rfl ?_
  refine kw_getR C (kdec dc_Stage_sellVolumes 1 rfl) 4 rfl fd_C_Stage_28_64 ?_
  refine kw_getR C (kdec dc_Stage_sellVolumes 2 rfl) 7 rfl fd_C_Stage_51_58 ?_
  refine kw_astore_n (L' := [some (kr 64), some (ki x1), some (kr 59), none]) C (kdec dc_Stage_sellVolumes 3 rfl) rfl 8 rfl (by decide) rfl rfl ?_
  refine kw_iconst C (kdec dc_Stage_sellVolumes 4 rfl) 9 rfl rfl ⟨by decide, by decide⟩ ?_
  refine kw_istore_n (L' := [some (kr 64), some (ki x1), some (kr 59), some (ki 0)]) C (kdec dc_Stage_sellVolumes 5 rfl) rfl 10 rfl (by decide) rfl rfl ?_
  obtain ⟨ex_18, hl_19, h⟩ := kbind_h h
  refine lp_pf_Stage_sellVolumes_64_l10 C x1 ?_ kFuel σ 0 hl_19
  · intro σ_20 e
    subst ex_18
    try dsimp only at h
    obtain rfl := Option.some.inj h
    exact kw_Q (hR _ rfl) (kw_return C (kdec dc_Stage_sellVolumes 58 rfl))
theorem mt_pf_Stage_sellVolumes_64 (l0 : Launch) {σ : kM} {x1 : Int} {τ : kM} (h : pf_Stage_sellVolumes_64 σ x1 = some τ) : kMet l0 ky_Stage_sellVolumes prog_8_method_6_code 4 none R0_pf_Stage_sellVolumes_64 kcl yC σ [kr 64, ki x1] none τ := kMet.of' [some (kr 64), some (ki x1), none, none] (by decide) (Nat.le_of_ble_eq_true rfl) ⟨rfl, rfl, trivial⟩ (fun x C => bd_pf_Stage_sellVolumes_64 C σ x1 h (fun τ e => by subst e; rfl))
def R0_pf_World_depthOf_58 : Room := ({ frames := 0, cells := 0, slots := 0, locals := 0 } : Room)
def pf_World_depthOf_58 (σ : kM) (x1 : Int) (x2 : Int) : Option (Int) :=
  kchk (0 ≤ (w32 ((w32 (61 + (w32 (x1 * 6)))) + x2)) ∧ (w32 ((w32 (61 + (w32 (x1 * 6)))) + x2)) < 85) <|
  some (σ 59 (w32 ((w32 (61 + (w32 (x1 * 6)))) + x2)).toNat)
set_option maxHeartbeats 4000000 in
theorem bd_pf_World_depthOf_58 {x : kX} {l0 : Launch} {Q : State → Prop} (C : kCx x prog_12_method_4_code "PoetFines$World" (some .int) kcl yC 3 l0 R0_pf_World_depthOf_58) (σ : kM) (x1 : Int) (x2 : Int) {out : Int} (h : pf_World_depthOf_58 σ x1 x2 = some out) (hR : ∀ (r : Int), out = r → Q = kQ x (some (ki r)) σ 0 0) : KW x 0 0 Q σ 0 [some (kr 58), some (ki x1), some (ki x2)] [] := by
  unfold pf_World_depthOf_58 at h
  refine kw_aload_n C (kdec dc_World_depthOf 0 rfl) rfl 1 rfl rfl ?_
  refine kw_getR C (kdec dc_World_depthOf 1 rfl) 4 rfl fd_C_World_11_58 ?_
  refine kw_bipush (v := 61) C (kdec dc_World_depthOf 2 rfl) 6 rfl (by decide) ⟨by decide, by decide⟩ ?_
  refine kw_iload_n C (kdec dc_World_depthOf 3 rfl) rfl 7 rfl rfl ?_
  refine kw_bipush (v := 6) C (kdec dc_World_depthOf 4 rfl) 9 rfl (by decide) ⟨by decide, by decide⟩ ?_
  refine kw_imul C (kdec dc_World_depthOf 5 rfl) 10 rfl ?_
  refine kw_iadd C (kdec dc_World_depthOf 6 rfl) 11 rfl ?_
  refine kw_iload_n C (kdec dc_World_depthOf 7 rfl) rfl 12 rfl rfl ?_
  refine kw_iadd C (kdec dc_World_depthOf 8 rfl) 13 rfl ?_
  obtain ⟨hc_1, h⟩ := kchk_h h
  refine kw_iald C (kdec dc_World_depthOf 9 rfl) 14 rfl rfl hc_1.1 hc_1.2 ?_
  obtain rfl := Option.some.inj h
  exact kw_Q (hR _ rfl) (kw_ireturn C (kdec dc_World_depthOf 10 rfl))
theorem mt_pf_World_depthOf_58 (l0 : Launch) {σ : kM} {x1 : Int} {x2 : Int} {r : Int} (h : pf_World_depthOf_58 σ x1 x2 = some r) : kMet l0 ky_World_depthOf prog_12_method_4_code 3 (some .int) R0_pf_World_depthOf_58 kcl yC σ [kr 58, ki x1, ki x2] (some (ki r)) σ := kMet.of' [some (kr 58), some (ki x1), some (ki x2)] (by decide) (Nat.le_of_ble_eq_true rfl) ⟨rfl, rfl, rfl, trivial⟩ (fun x C => bd_pf_World_depthOf_58 C σ x1 x2 h (fun r e => by subst e; rfl))
def R0_pf_Stage_inchesInto_64 : Room := ({ frames := 2, cells := 0, slots := 0, locals := 47 } : Room)
def pf_Stage_inchesInto_64 (σ : kM) (x1 : Int) (x2 : Int) (x3 : Int) (x4 : Int) : Option (Int × kM) :=
  (pf_Law_truthOf_3 σ x2 x3).bind fun r_1 =>
  (pf_Rules_has_7 σ 0).bind fun r_2 =>
  if r_2 = 0 then
    some ((min x4 r_1, σ))
  else
    kchk (0 ≤ (w32 (49 + x1)) ∧ (w32 (49 + x1)) < 85) <|
    (pf_Stage_setValues_64 σ x1 x2 (σ 59 (w32 (49 + x1)).toNat)).bind fun σ_4 =>
    klet (kst σ_4 70 (kup (σ_4 70) ((4 : Int).toNat) x4)) fun σ_5 =>
    klet (kst σ_5 70 (kup (σ_5 70) ((5 : Int).toNat) r_1)) fun σ_6 =>
    (pf_Rules_worth_7_70 σ_6 0).bind fun (r_7, σ_8) =>
    (pf_Stage_within σ_8 r_7 9).bind fun r_9 =>
    some ((r_9, σ_8))
set_option maxHeartbeats 4000000 in
theorem bd_pf_Stage_inchesInto_64 {x : kX} {l0 : Launch} {Q : State → Prop} (C : kCx x prog_8_method_2_code "PoetFines$Stage" (some .int) kcl yC 6 l0 R0_pf_Stage_inchesInto_64) (σ : kM) (x1 : Int) (x2 : Int) (x3 : Int) (x4 : Int) {out : Int × kM} (h : pf_Stage_inchesInto_64 σ x1 x2 x3 x4 = some out) (hR : ∀ (r : Int) (τ : kM), out = (r, τ) → Q = kQ x (some (ki r)) τ 0 0) : KW x 0 0 Q σ 0 [some (kr 64), some (ki x1), some (ki x2), some (ki x3), some (ki x4), none] [] := by
  unfold pf_Stage_inchesInto_64 at h
  refine kw_aload_n C (kdec dc_Stage_inchesInto 0 rfl) rfl 1 rfl rfl ?_
  refine kw_getR C (kdec dc_Stage_inchesInto 1 rfl) 4 rfl fd_C_Stage_24_64 ?_
  refine kw_iload_n C (kdec dc_Stage_inchesInto 2 rfl) rfl 5 rfl rfl ?_
  refine kw_iload_n C (kdec dc_Stage_inchesInto 3 rfl) rfl 6 rfl rfl ?_
  obtain ⟨r_1, hg_14, h⟩ := kbind_h h
  refine kw_callV (As := [ki x2, ki x3]) C (kdec dc_Stage_inchesInto 4 rfl) 9 rfl cv_Stage_32 rfl rfl (mt_pf_Law_truthOf_3 l0 hg_14) ⟨rfl, rfl⟩ ⟨Nat.le_of_ble_eq_true rfl, Nat.le_of_ble_eq_true rfl⟩ ⟨Nat.zero_le _, Nat.zero_le _⟩ rfl (Nat.le_of_ble_eq_true rfl) ?_
  change KW x 0 0 Q σ 9 [some (kr 64), some (ki x1), some (ki x2), some (ki x3), some (ki x4), none] [ki r_1]
  refine kw_istore (L' := [some (kr 64), some (ki x1), some (ki x2), some (ki x3), some (ki x4), some (ki r_1)]) C (kdec dc_Stage_inchesInto 5 rfl) 11 rfl (by decide) rfl rfl ?_
  refine kw_aload_n C (kdec dc_Stage_inchesInto 6 rfl) rfl 12 rfl rfl ?_
  refine kw_getR C (kdec dc_Stage_inchesInto 7 rfl) 15 rfl fd_C_Stage_24_64 ?_
  refine kw_getR C (kdec dc_Stage_inchesInto 8 rfl) 18 rfl fd_C_Stage_38_3 ?_
  refine kw_iconst C (kdec dc_Stage_inchesInto 9 rfl) 19 rfl rfl ⟨by decide, by decide⟩ ?_
  obtain ⟨r_2, hg_13, h⟩ := kbind_h h
  refine kw_callV (As := [ki 0]) C (kdec dc_Stage_inchesInto 10 rfl) 22 rfl cv_Stage_42 rfl rfl (mt_pf_Rules_has_7 l0 hg_13) ⟨rfl, rfl⟩ ⟨Nat.le_of_ble_eq_true rfl, Nat.le_of_ble_eq_true rfl⟩ ⟨Nat.zero_le _, Nat.zero_le _⟩ rfl (Nat.le_of_ble_eq_true rfl) ?_
  change KW x 0 0 Q σ 22 [some (kr 64), some (ki x1), some (ki x2), some (ki x3), some (ki x4), some (ki r_1)] [ki r_2]
  refine kw_if_ne C (kdec dc_Stage_inchesInto 11 rfl) 33 25 (by decide) rfl (fun hc22 => ?_) (fun hc22 => ?_)
  · rw [if_neg hc22] at h
    refine kw_aload_n C (kdec dc_Stage_inchesInto 16 rfl) rfl 34 rfl rfl ?_
    refine kw_iload_n C (kdec dc_Stage_inchesInto 17 rfl) rfl 35 rfl rfl ?_
    refine kw_iload_n C (kdec dc_Stage_inchesInto 18 rfl) rfl 36 rfl rfl ?_
    refine kw_aload_n C (kdec dc_Stage_inchesInto 19 rfl) rfl 37 rfl rfl ?_
    refine kw_getR C (kdec dc_Stage_inchesInto 20 rfl) 40 rfl fd_C_Stage_28_64 ?_
    refine kw_getR C (kdec dc_Stage_inchesInto 21 rfl) 43 rfl fd_C_Stage_51_58 ?_
    refine kw_bipush (v := 49) C (kdec dc_Stage_inchesInto 22 rfl) 45 rfl (by decide) ⟨by decide, by decide⟩ ?_
    refine kw_iload_n C (kdec dc_Stage_inchesInto 23 rfl) rfl 46 rfl rfl ?_
    refine kw_iadd C (kdec dc_Stage_inchesInto 24 rfl) 47 rfl ?_
    obtain ⟨hc_3, h⟩ := kchk_h h
    refine kw_iald C (kdec dc_Stage_inchesInto 25 rfl) 48 rfl rfl hc_3.1 hc_3.2 ?_
    obtain ⟨σ_4, hg_12, h⟩ := kbind_h h
    refine kw_callV (As := [ki x1, ki x2, ki (σ 59 (w32 (49 + x1)).toNat)]) C (kdec dc_Stage_inchesInto 26 rfl) 51 rfl cv_Stage_56 rfl rfl (mt_pf_Stage_setValues_64 l0 hg_12) ⟨rfl, rfl⟩ ⟨Nat.le_of_ble_eq_true rfl, Nat.le_of_ble_eq_true rfl⟩ ⟨Nat.zero_le _, Nat.zero_le _⟩ rfl (Nat.le_of_ble_eq_true rfl) ?_
    change KW x 0 0 Q σ_4 51 [some (kr 64), some (ki x1), some (ki x2), some (ki x3), some (ki x4), some (ki r_1)] []
    refine kw_aload_n C (kdec dc_Stage_inchesInto 27 rfl) rfl 52 rfl rfl ?_
    refine kw_getR C (kdec dc_Stage_inchesInto 28 rfl) 55 rfl fd_C_Stage_20_64 ?_
    refine kw_iconst C (kdec dc_Stage_inchesInto 29 rfl) 56 rfl rfl ⟨by decide, by decide⟩ ?_
    refine kw_iload C (kdec dc_Stage_inchesInto 30 rfl) 58 rfl rfl ?_
    obtain ⟨σ_5, eσ_5, h⟩ := klet_h h
    refine kw_iast C (kdec dc_Stage_inchesInto 31 rfl) 59 rfl rfl (by decide) (by decide) ?_
    refine kw_sig eσ_5 ?_
    refine kw_aload_n C (kdec dc_Stage_inchesInto 32 rfl) rfl 60 rfl rfl ?_
    refine kw_getR C (kdec dc_Stage_inchesInto 33 rfl) 63 rfl fd_C_Stage_20_64 ?_
    refine kw_iconst C (kdec dc_Stage_inchesInto 34 rfl) 64 rfl rfl ⟨by decide, by decide⟩ ?_
    refine kw_iload C (kdec dc_Stage_inchesInto 35 rfl) 66 rfl rfl ?_
    obtain ⟨σ_6, eσ_6, h⟩ := klet_h h
    refine kw_iast C (kdec dc_Stage_inchesInto 36 rfl) 67 rfl rfl (by decide) (by decide) ?_
    refine kw_sig eσ_6 ?_
    refine kw_aload_n C (kdec dc_Stage_inchesInto 37 rfl) rfl 68 rfl rfl ?_
    refine kw_getR C (kdec dc_Stage_inchesInto 38 rfl) 71 rfl fd_C_Stage_24_64 ?_
    refine kw_getR C (kdec dc_Stage_inchesInto 39 rfl) 74 rfl fd_C_Stage_38_3 ?_
    refine kw_iconst C (kdec dc_Stage_inchesInto 40 rfl) 75 rfl rfl ⟨by decide, by decide⟩ ?_
    refine kw_aload_n C (kdec dc_Stage_inchesInto 41 rfl) rfl 76 rfl rfl ?_
    refine kw_getR C (kdec dc_Stage_inchesInto 42 rfl) 79 rfl fd_C_Stage_20_64 ?_
    obtain ⟨⟨r_7, σ_8⟩, hg_11, h⟩ := kbind_h h
    dsimp only at h
    refine kw_callV (As := [ki 0, kr 70]) C (kdec dc_Stage_inchesInto 43 rfl) 82 rfl cv_Stage_60 rfl rfl (mt_pf_Rules_worth_7_70 l0 hg_11) ⟨rfl, rfl⟩ ⟨Nat.le_of_ble_eq_true rfl, Nat.le_of_ble_eq_true rfl⟩ ⟨Nat.zero_le _, Nat.zero_le _⟩ rfl (Nat.le_of_ble_eq_true rfl) ?_
    change KW x 0 0 Q σ_8 82 [some (kr 64), some (ki x1), some (ki x2), some (ki x3), some (ki x4), some (ki r_1)] [ki r_7]
    refine kw_bipush (v := 9) C (kdec dc_Stage_inchesInto 44 rfl) 84 rfl (by decide) ⟨by decide, by decide⟩ ?_
    obtain ⟨r_9, hg_10, h⟩ := kbind_h h
    refine kw_callS (As := [ki r_7, ki 9]) C (kdec dc_Stage_inchesInto 45 rfl) 87 rfl cs_Stage_64 (mt_pf_Stage_within l0 hg_10) ⟨rfl, rfl⟩ ⟨Nat.le_of_ble_eq_true rfl, Nat.le_of_ble_eq_true rfl⟩ ⟨Nat.zero_le _, Nat.zero_le _⟩ rfl (Nat.le_of_ble_eq_true rfl) ?_
    change KW x 0 0 Q σ_8 87 [some (kr 64), some (ki x1), some (ki x2), some (ki x3), some (ki x4), some (ki r_1)] [ki r_9]
    obtain rfl := Option.some.inj h
    exact kw_Q (hR _ _ rfl) (kw_ireturn C (kdec dc_Stage_inchesInto 46 rfl))
  · rw [if_pos hc22] at h
    refine kw_iload C (kdec dc_Stage_inchesInto 12 rfl) 27 rfl rfl ?_
    refine kw_iload C (kdec dc_Stage_inchesInto 13 rfl) 29 rfl rfl ?_
    refine kw_min C (kdec dc_Stage_inchesInto 14 rfl) 32 rfl cm_Stage_46 ⟨Nat.le_of_ble_eq_true rfl, Nat.le_of_ble_eq_true rfl⟩ ⟨Nat.zero_le _, Nat.zero_le _⟩ (Nat.le_of_ble_eq_true rfl) ?_
    obtain rfl := Option.some.inj h
    exact kw_Q (hR _ _ rfl) (kw_ireturn C (kdec dc_Stage_inchesInto 15 rfl))
theorem mt_pf_Stage_inchesInto_64 (l0 : Launch) {σ : kM} {x1 : Int} {x2 : Int} {x3 : Int} {x4 : Int} {r : Int} {τ : kM} (h : pf_Stage_inchesInto_64 σ x1 x2 x3 x4 = some (r, τ)) : kMet l0 ky_Stage_inchesInto prog_8_method_2_code 6 (some .int) R0_pf_Stage_inchesInto_64 kcl yC σ [kr 64, ki x1, ki x2, ki x3, ki x4] (some (ki r)) τ := kMet.of' [some (kr 64), some (ki x1), some (ki x2), some (ki x3), some (ki x4), none] (by decide) (Nat.le_of_ble_eq_true rfl) ⟨rfl, rfl, rfl, rfl, rfl, trivial⟩ (fun x C => bd_pf_Stage_inchesInto_64 C σ x1 x2 x3 x4 h (fun r τ e => by cases e; rfl))
def R0_pf_Stage_fineFor_64 : Room := ({ frames := 2, cells := 0, slots := 0, locals := 47 } : Room)
def pf_Stage_fineFor_64 (σ : kM) (x1 : Int) (x2 : Int) (x3 : Int) (x4 : Int) : Option (Int × kM) :=
  (pf_Rules_has_7 σ 1).bind fun r_1 =>
  if r_1 = 0 then
    some ((x4, σ))
  else
    kchk (0 ≤ (w32 (49 + x1)) ∧ (w32 (49 + x1)) < 85) <|
    (pf_Stage_setValues_64 σ x1 x2 (σ 59 (w32 (49 + x1)).toNat)).bind fun σ_3 =>
    klet (kst σ_3 70 (kup (σ_3 70) ((6 : Int).toNat) x4)) fun σ_4 =>
    (pf_Law_rhymes_3 σ_4 x1 x3).bind fun r_5 =>
    klet (kst σ_4 70 (kup (σ_4 70) ((7 : Int).toNat) r_5)) fun σ_6 =>
    (pf_Rules_worth_7_70 σ_6 1).bind fun (r_7, σ_8) =>
    (pf_Stage_within σ_8 r_7 20).bind fun r_9 =>
    some ((r_9, σ_8))
set_option maxHeartbeats 4000000 in
theorem bd_pf_Stage_fineFor_64 {x : kX} {l0 : Launch} {Q : State → Prop} (C : kCx x prog_8_method_3_code "PoetFines$Stage" (some .int) kcl yC 5 l0 R0_pf_Stage_fineFor_64) (σ : kM) (x1 : Int) (x2 : Int) (x3 : Int) (x4 : Int) {out : Int × kM} (h : pf_Stage_fineFor_64 σ x1 x2 x3 x4 = some out) (hR : ∀ (r : Int) (τ : kM), out = (r, τ) → Q = kQ x (some (ki r)) τ 0 0) : KW x 0 0 Q σ 0 [some (kr 64), some (ki x1), some (ki x2), some (ki x3), some (ki x4)] [] := by
  unfold pf_Stage_fineFor_64 at h
  refine kw_aload_n C (kdec dc_Stage_fineFor 0 rfl) rfl 1 rfl rfl ?_
  refine kw_getR C (kdec dc_Stage_fineFor 1 rfl) 4 rfl fd_C_Stage_24_64 ?_
  refine kw_getR C (kdec dc_Stage_fineFor 2 rfl) 7 rfl fd_C_Stage_38_3 ?_
  refine kw_iconst C (kdec dc_Stage_fineFor 3 rfl) 8 rfl rfl ⟨by decide, by decide⟩ ?_
  obtain ⟨r_1, hg_14, h⟩ := kbind_h h
  refine kw_callV (As := [ki 1]) C (kdec dc_Stage_fineFor 4 rfl) 11 rfl cv_Stage_42 rfl rfl (mt_pf_Rules_has_7 l0 hg_14) ⟨rfl, rfl⟩ ⟨Nat.le_of_ble_eq_true rfl, Nat.le_of_ble_eq_true rfl⟩ ⟨Nat.zero_le _, Nat.zero_le _⟩ rfl (Nat.le_of_ble_eq_true rfl) ?_
  change KW x 0 0 Q σ 11 [some (kr 64), some (ki x1), some (ki x2), some (ki x3), some (ki x4)] [ki r_1]
  refine kw_if_ne C (kdec dc_Stage_fineFor 5 rfl) 17 14 (by decide) rfl (fun hc11 => ?_) (fun hc11 => ?_)
  · rw [if_neg hc11] at h
    refine kw_aload_n C (kdec dc_Stage_fineFor 8 rfl) rfl 18 rfl rfl ?_
    refine kw_iload_n C (kdec dc_Stage_fineFor 9 rfl) rfl 19 rfl rfl ?_
    refine kw_iload_n C (kdec dc_Stage_fineFor 10 rfl) rfl 20 rfl rfl ?_
    refine kw_aload_n C (kdec dc_Stage_fineFor 11 rfl) rfl 21 rfl rfl ?_
    refine kw_getR C (kdec dc_Stage_fineFor 12 rfl) 24 rfl fd_C_Stage_28_64 ?_
    refine kw_getR C (kdec dc_Stage_fineFor 13 rfl) 27 rfl fd_C_Stage_51_58 ?_
    refine kw_bipush (v := 49) C (kdec dc_Stage_fineFor 14 rfl) 29 rfl (by decide) ⟨by decide, by decide⟩ ?_
    refine kw_iload_n C (kdec dc_Stage_fineFor 15 rfl) rfl 30 rfl rfl ?_
    refine kw_iadd C (kdec dc_Stage_fineFor 16 rfl) 31 rfl ?_
    obtain ⟨hc_2, h⟩ := kchk_h h
    refine kw_iald C (kdec dc_Stage_fineFor 17 rfl) 32 rfl rfl hc_2.1 hc_2.2 ?_
    obtain ⟨σ_3, hg_13, h⟩ := kbind_h h
    refine kw_callV (As := [ki x1, ki x2, ki (σ 59 (w32 (49 + x1)).toNat)]) C (kdec dc_Stage_fineFor 18 rfl) 35 rfl cv_Stage_56 rfl rfl (mt_pf_Stage_setValues_64 l0 hg_13) ⟨rfl, rfl⟩ ⟨Nat.le_of_ble_eq_true rfl, Nat.le_of_ble_eq_true rfl⟩ ⟨Nat.zero_le _, Nat.zero_le _⟩ rfl (Nat.le_of_ble_eq_true rfl) ?_
    change KW x 0 0 Q σ_3 35 [some (kr 64), some (ki x1), some (ki x2), some (ki x3), some (ki x4)] []
    refine kw_aload_n C (kdec dc_Stage_fineFor 19 rfl) rfl 36 rfl rfl ?_
    refine kw_getR C (kdec dc_Stage_fineFor 20 rfl) 39 rfl fd_C_Stage_20_64 ?_
    refine kw_bipush (v := 6) C (kdec dc_Stage_fineFor 21 rfl) 41 rfl (by decide) ⟨by decide, by decide⟩ ?_
    refine kw_iload C (kdec dc_Stage_fineFor 22 rfl) 43 rfl rfl ?_
    obtain ⟨σ_4, eσ_4, h⟩ := klet_h h
    refine kw_iast C (kdec dc_Stage_fineFor 23 rfl) 44 rfl rfl (by decide) (by decide) ?_
    refine kw_sig eσ_4 ?_
    refine kw_aload_n C (kdec dc_Stage_fineFor 24 rfl) rfl 45 rfl rfl ?_
    refine kw_getR C (kdec dc_Stage_fineFor 25 rfl) 48 rfl fd_C_Stage_20_64 ?_
    refine kw_bipush (v := 7) C (kdec dc_Stage_fineFor 26 rfl) 50 rfl (by decide) ⟨by decide, by decide⟩ ?_
    refine kw_aload_n C (kdec dc_Stage_fineFor 27 rfl) rfl 51 rfl rfl ?_
    refine kw_getR C (kdec dc_Stage_fineFor 28 rfl) 54 rfl fd_C_Stage_24_64 ?_
    refine kw_iload_n C (kdec dc_Stage_fineFor 29 rfl) rfl 55 rfl rfl ?_
    refine kw_iload_n C (kdec dc_Stage_fineFor 30 rfl) rfl 56 rfl rfl ?_
    obtain ⟨r_5, hg_12, h⟩ := kbind_h h
    refine kw_callV (As := [ki x1, ki x3]) C (kdec dc_Stage_fineFor 31 rfl) 59 rfl cv_Stage_67 rfl rfl (mt_pf_Law_rhymes_3 l0 hg_12) ⟨rfl, rfl⟩ ⟨Nat.le_of_ble_eq_true rfl, Nat.le_of_ble_eq_true rfl⟩ ⟨Nat.zero_le _, Nat.zero_le _⟩ rfl (Nat.le_of_ble_eq_true rfl) ?_
    change KW x 0 0 Q σ_4 59 [some (kr 64), some (ki x1), some (ki x2), some (ki x3), some (ki x4)] [ki r_5, ki 7, kr 70]
    obtain ⟨σ_6, eσ_6, h⟩ := klet_h h
    refine kw_iast C (kdec dc_Stage_fineFor 32 rfl) 60 rfl rfl (by decide) (by decide) ?_
    refine kw_sig eσ_6 ?_
    refine kw_aload_n C (kdec dc_Stage_fineFor 33 rfl) rfl 61 rfl rfl ?_
    refine kw_getR C (kdec dc_Stage_fineFor 34 rfl) 64 rfl fd_C_Stage_24_64 ?_
    refine kw_getR C (kdec dc_Stage_fineFor 35 rfl) 67 rfl fd_C_Stage_38_3 ?_
    refine kw_iconst C (kdec dc_Stage_fineFor 36 rfl) 68 rfl rfl ⟨by decide, by decide⟩ ?_
    refine kw_aload_n C (kdec dc_Stage_fineFor 37 rfl) rfl 69 rfl rfl ?_
    refine kw_getR C (kdec dc_Stage_fineFor 38 rfl) 72 rfl fd_C_Stage_20_64 ?_
    obtain ⟨⟨r_7, σ_8⟩, hg_11, h⟩ := kbind_h h
    dsimp only at h
    refine kw_callV (As := [ki 1, kr 70]) C (kdec dc_Stage_fineFor 39 rfl) 75 rfl cv_Stage_60 rfl rfl (mt_pf_Rules_worth_7_70 l0 hg_11) ⟨rfl, rfl⟩ ⟨Nat.le_of_ble_eq_true rfl, Nat.le_of_ble_eq_true rfl⟩ ⟨Nat.zero_le _, Nat.zero_le _⟩ rfl (Nat.le_of_ble_eq_true rfl) ?_
    change KW x 0 0 Q σ_8 75 [some (kr 64), some (ki x1), some (ki x2), some (ki x3), some (ki x4)] [ki r_7]
    refine kw_bipush (v := 20) C (kdec dc_Stage_fineFor 40 rfl) 77 rfl (by decide) ⟨by decide, by decide⟩ ?_
    obtain ⟨r_9, hg_10, h⟩ := kbind_h h
    refine kw_callS (As := [ki r_7, ki 20]) C (kdec dc_Stage_fineFor 41 rfl) 80 rfl cs_Stage_64 (mt_pf_Stage_within l0 hg_10) ⟨rfl, rfl⟩ ⟨Nat.le_of_ble_eq_true rfl, Nat.le_of_ble_eq_true rfl⟩ ⟨Nat.zero_le _, Nat.zero_le _⟩ rfl (Nat.le_of_ble_eq_true rfl) ?_
    change KW x 0 0 Q σ_8 80 [some (kr 64), some (ki x1), some (ki x2), some (ki x3), some (ki x4)] [ki r_9]
    obtain rfl := Option.some.inj h
    exact kw_Q (hR _ _ rfl) (kw_ireturn C (kdec dc_Stage_fineFor 42 rfl))
  · rw [if_pos hc11] at h
    refine kw_iload C (kdec dc_Stage_fineFor 6 rfl) 16 rfl rfl ?_
    obtain rfl := Option.some.inj h
    exact kw_Q (hR _ _ rfl) (kw_ireturn C (kdec dc_Stage_fineFor 7 rfl))
theorem mt_pf_Stage_fineFor_64 (l0 : Launch) {σ : kM} {x1 : Int} {x2 : Int} {x3 : Int} {x4 : Int} {r : Int} {τ : kM} (h : pf_Stage_fineFor_64 σ x1 x2 x3 x4 = some (r, τ)) : kMet l0 ky_Stage_fineFor prog_8_method_3_code 5 (some .int) R0_pf_Stage_fineFor_64 kcl yC σ [kr 64, ki x1, ki x2, ki x3, ki x4] (some (ki r)) τ := kMet.of' [some (kr 64), some (ki x1), some (ki x2), some (ki x3), some (ki x4)] (by decide) (Nat.le_of_ble_eq_true rfl) ⟨rfl, rfl, rfl, rfl, rfl, trivial⟩ (fun x C => bd_pf_Stage_fineFor_64 C σ x1 x2 x3 x4 h (fun r τ e => by cases e; rfl))
def R0_pf_Stage_payFine_64 : Room := ({ frames := 1, cells := 0, slots := 0, locals := 21 } : Room)
def pf_Stage_payFine_64 (σ : kM) (x1 : Int) (x2 : Int) (x3 : Int) : Option (Int × kM) :=
  kchk (0 ≤ (w32 (49 + x1)) ∧ (w32 (49 + x1)) < 85) <|
  klet (min x3 (σ 59 (w32 (49 + x1)).toNat)) fun x5_2 =>
  klet (w32 (49 + x1)) fun y_3 =>
  kchk (0 ≤ y_3 ∧ y_3 < 85) <|
  kchk (0 ≤ y_3 ∧ y_3 < 85) <|
  klet (kst σ 59 (kup (σ 59) y_3.toNat (w32 ((σ 59 y_3.toNat) - x5_2)))) fun σ_6 =>
  kchk (0 ≤ (w32 (1 + x2)) ∧ (w32 (1 + x2)) < 85) <|
  kchk (0 ≤ (w32 (1 + x2)) ∧ (w32 (1 + x2)) < 85) <|
  klet (kst σ_6 59 (kup (σ_6 59) ((w32 (1 + x2)).toNat) (min (w32 ((σ_6 59 (w32 (1 + x2)).toNat) + x5_2)) 999))) fun σ_9 =>
  kchk (0 ≤ x1 ∧ x1 < 4) <|
  kchk (0 ≤ x1 ∧ x1 < 4) <|
  klet (kst σ_9 66 (kup (σ_9 66) x1.toNat (w32 ((σ_9 66 x1.toNat) + x5_2)))) fun σ_12 =>
  some ((x5_2, σ_12))
set_option maxHeartbeats 4000000 in
theorem bd_pf_Stage_payFine_64 {x : kX} {l0 : Launch} {Q : State → Prop} (C : kCx x prog_8_method_9_code "PoetFines$Stage" (some .int) kcl yC 6 l0 R0_pf_Stage_payFine_64) (σ : kM) (x1 : Int) (x2 : Int) (x3 : Int) {out : Int × kM} (h : pf_Stage_payFine_64 σ x1 x2 x3 = some out) (hR : ∀ (r : Int) (τ : kM), out = (r, τ) → Q = kQ x (some (ki r)) τ 0 0) : KW x 0 0 Q σ 0 [some (kr 64), some (ki x1), some (ki x2), some (ki x3), none, none] [] := by
  unfold pf_Stage_payFine_64 at h
  refine kw_aload_n C (kdec dc_Stage_payFine 0 rfl) rfl 1 rfl rfl ?_
  refine kw_getR C (kdec dc_Stage_payFine 1 rfl) 4 rfl fd_C_Stage_28_64 ?_
  refine kw_getR C (kdec dc_Stage_payFine 2 rfl) 7 rfl fd_C_Stage_51_58 ?_
  refine kw_astore (L' := [some (kr 64), some (ki x1), some (ki x2), some (ki x3), some (kr 59), none]) C (kdec dc_Stage_payFine 3 rfl) 9 rfl (by decide) rfl rfl ?_
  refine kw_iload_n C (kdec dc_Stage_payFine 4 rfl) rfl 10 rfl rfl ?_
  refine kw_aload C (kdec dc_Stage_payFine 5 rfl) 12 rfl rfl ?_
  refine kw_bipush (v := 49) C (kdec dc_Stage_payFine 6 rfl) 14 rfl (by decide) ⟨by decide, by decide⟩ ?_
  refine kw_iload_n C (kdec dc_Stage_payFine 7 rfl) rfl 15 rfl rfl ?_
  refine kw_iadd C (kdec dc_Stage_payFine 8 rfl) 16 rfl ?_
  obtain ⟨hc_1, h⟩ := kchk_h h
  refine kw_iald C (kdec dc_Stage_payFine 9 rfl) 17 rfl rfl hc_1.1 hc_1.2 ?_
  refine kw_min C (kdec dc_Stage_payFine 10 rfl) 20 rfl cm_Stage_46 ⟨Nat.le_of_ble_eq_true rfl, Nat.le_of_ble_eq_true rfl⟩ ⟨Nat.zero_le _, Nat.zero_le _⟩ (Nat.le_of_ble_eq_true rfl) ?_
  obtain ⟨x5_2, ex5_2, h⟩ := klet_h h
  refine kw_top ex5_2 ?_
  refine kw_istore (L' := [some (kr 64), some (ki x1), some (ki x2), some (ki x3), some (kr 59), some (ki x5_2)]) C (kdec dc_Stage_payFine 11 rfl) 22 rfl (by decide) rfl rfl ?_
  refine kw_aload C (kdec dc_Stage_payFine 12 rfl) 24 rfl rfl ?_
  refine kw_bipush (v := 49) C (kdec dc_Stage_payFine 13 rfl) 26 rfl (by decide) ⟨by decide, by decide⟩ ?_
  refine kw_iload_n C (kdec dc_Stage_payFine 14 rfl) rfl 27 rfl rfl ?_
  refine kw_iadd C (kdec dc_Stage_payFine 15 rfl) 28 rfl ?_
  obtain ⟨y_3, ey_3, h⟩ := klet_h h
  refine kw_top ey_3 ?_
  refine kw_dup2 C (kdec dc_Stage_payFine 16 rfl) 29 rfl rfl rfl ?_
  obtain ⟨hc_4, h⟩ := kchk_h h
  refine kw_iald C (kdec dc_Stage_payFine 17 rfl) 30 rfl rfl hc_4.1 hc_4.2 ?_
  refine kw_iload C (kdec dc_Stage_payFine 18 rfl) 32 rfl rfl ?_
  refine kw_isub C (kdec dc_Stage_payFine 19 rfl) 33 rfl ?_
  obtain ⟨hc_5, h⟩ := kchk_h h
  obtain ⟨σ_6, eσ_6, h⟩ := klet_h h
  refine kw_iast C (kdec dc_Stage_payFine 20 rfl) 34 rfl rfl hc_5.1 hc_5.2 ?_
  refine kw_sig eσ_6 ?_
  refine kw_aload C (kdec dc_Stage_payFine 21 rfl) 36 rfl rfl ?_
  refine kw_iconst C (kdec dc_Stage_payFine 22 rfl) 37 rfl rfl ⟨by decide, by decide⟩ ?_
  refine kw_iload_n C (kdec dc_Stage_payFine 23 rfl) rfl 38 rfl rfl ?_
  refine kw_iadd C (kdec dc_Stage_payFine 24 rfl) 39 rfl ?_
  refine kw_aload C (kdec dc_Stage_payFine 25 rfl) 41 rfl rfl ?_
  refine kw_iconst C (kdec dc_Stage_payFine 26 rfl) 42 rfl rfl ⟨by decide, by decide⟩ ?_
  refine kw_iload_n C (kdec dc_Stage_payFine 27 rfl) rfl 43 rfl rfl ?_
  refine kw_iadd C (kdec dc_Stage_payFine 28 rfl) 44 rfl ?_
  obtain ⟨hc_7, h⟩ := kchk_h h
  refine kw_iald C (kdec dc_Stage_payFine 29 rfl) 45 rfl rfl hc_7.1 hc_7.2 ?_
  refine kw_iload C (kdec dc_Stage_payFine 30 rfl) 47 rfl rfl ?_
  refine kw_iadd C (kdec dc_Stage_payFine 31 rfl) 48 rfl ?_
  refine kw_sipush (v := 999) C (kdec dc_Stage_payFine 32 rfl) 51 rfl (by decide) ⟨by decide, by decide⟩ ?_
  refine kw_min C (kdec dc_Stage_payFine 33 rfl) 54 rfl cm_Stage_46 ⟨Nat.le_of_ble_eq_true rfl, Nat.le_of_ble_eq_true rfl⟩ ⟨Nat.zero_le _, Nat.zero_le _⟩ (Nat.le_of_ble_eq_true rfl) ?_
  obtain ⟨hc_8, h⟩ := kchk_h h
  obtain ⟨σ_9, eσ_9, h⟩ := klet_h h
  refine kw_iast C (kdec dc_Stage_payFine 34 rfl) 55 rfl rfl hc_8.1 hc_8.2 ?_
  refine kw_sig eσ_9 ?_
  refine kw_aload_n C (kdec dc_Stage_payFine 35 rfl) rfl 56 rfl rfl ?_
  refine kw_getR C (kdec dc_Stage_payFine 36 rfl) 59 rfl fd_C_Stage_12_64 ?_
  refine kw_getR C (kdec dc_Stage_payFine 37 rfl) 62 rfl fd_C_Stage_130_65 ?_
  refine kw_iload_n C (kdec dc_Stage_payFine 38 rfl) rfl 63 rfl rfl ?_
  refine kw_dup2 C (kdec dc_Stage_payFine 39 rfl) 64 rfl rfl rfl ?_
  obtain ⟨hc_10, h⟩ := kchk_h h
  refine kw_iald C (kdec dc_Stage_payFine 40 rfl) 65 rfl rfl hc_10.1 hc_10.2 ?_
  refine kw_iload C (kdec dc_Stage_payFine 41 rfl) 67 rfl rfl ?_
  refine kw_iadd C (kdec dc_Stage_payFine 42 rfl) 68 rfl ?_
  obtain ⟨hc_11, h⟩ := kchk_h h
  obtain ⟨σ_12, eσ_12, h⟩ := klet_h h
  refine kw_iast C (kdec dc_Stage_payFine 43 rfl) 69 rfl rfl hc_11.1 hc_11.2 ?_
  refine kw_sig eσ_12 ?_
  refine kw_iload C (kdec dc_Stage_payFine 44 rfl) 71 rfl rfl ?_
  obtain rfl := Option.some.inj h
  exact kw_Q (hR _ _ rfl) (kw_ireturn C (kdec dc_Stage_payFine 45 rfl))
theorem mt_pf_Stage_payFine_64 (l0 : Launch) {σ : kM} {x1 : Int} {x2 : Int} {x3 : Int} {r : Int} {τ : kM} (h : pf_Stage_payFine_64 σ x1 x2 x3 = some (r, τ)) : kMet l0 ky_Stage_payFine prog_8_method_9_code 6 (some .int) R0_pf_Stage_payFine_64 kcl yC σ [kr 64, ki x1, ki x2, ki x3] (some (ki r)) τ := kMet.of' [some (kr 64), some (ki x1), some (ki x2), some (ki x3), none, none] (by decide) (Nat.le_of_ble_eq_true rfl) ⟨rfl, rfl, rfl, rfl, trivial⟩ (fun x C => bd_pf_Stage_payFine_64 C σ x1 x2 x3 h (fun r τ e => by cases e; rfl))

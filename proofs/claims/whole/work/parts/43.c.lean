def R0_pf_Word_isValueOf : Room := ({ frames := 0, cells := 0, slots := 0, locals := 0 } : Room)
def pf_Word_isValueOf (σ : kM) (x0 : Int) (x1 : Int) : Option (Int) :=
  kchk (0 ≤ x0 ∧ x0 < 18) <|
  if (kand (kshr (kRu x0) x1) 1) = 1 then
    some 1
  else
    some 0
set_option maxHeartbeats 4000000 in
theorem bd_pf_Word_isValueOf {x : kX} {l0 : Launch} {Q : State → Prop} (C : kCx x prog_11_method_4_code "PoetFines$Word" (some .boolean) kcl yC 2 l0 R0_pf_Word_isValueOf) (σ : kM) (x0 : Int) (x1 : Int) {out : Int} (h : pf_Word_isValueOf σ x0 x1 = some out) (hR : ∀ (r : Int), out = r → Q = kQ x (some (ki r)) σ 0 0) : KW x 0 0 Q σ 0 [some (ke (4 * x0)), some (ki x1)] [] := by
  unfold pf_Word_isValueOf at h
  refine kw_eload_n C (kdec dc_Word_isValueOf 0 rfl) rfl 1 rfl rfl ?_
  obtain ⟨hc_1, h⟩ := kchk_h h
  refine kw_getEr C (kdec dc_Word_isValueOf 1 rfl) 4 rfl hc_1.1 hc_1.2 wd_2222 ?_
  refine kw_iload_n C (kdec dc_Word_isValueOf 2 rfl) rfl 5 rfl rfl ?_
  refine kw_ishr C (kdec dc_Word_isValueOf 3 rfl) 6 rfl ?_
  refine kw_iconst C (kdec dc_Word_isValueOf 4 rfl) 7 rfl rfl ⟨by decide, by decide⟩ ?_
  refine kw_iand C (kdec dc_Word_isValueOf 5 rfl) 8 rfl ?_
  refine kw_iconst C (kdec dc_Word_isValueOf 6 rfl) 9 rfl rfl ⟨by decide, by decide⟩ ?_
  refine kw_icmp_ne C (kdec dc_Word_isValueOf 7 rfl) 16 12 (by decide) rfl (fun hc9 => ?_) (fun hc9 => ?_)
  · rw [if_neg hc9] at h
    refine kw_iconst C (kdec dc_Word_isValueOf 10 rfl) 17 rfl rfl ⟨by decide, by decide⟩ ?_
    obtain rfl := Option.some.inj h
    exact kw_Q (hR _ rfl) (kw_zreturn C (kdec dc_Word_isValueOf 11 rfl) (by decide))
  · rw [if_pos hc9] at h
    refine kw_iconst C (kdec dc_Word_isValueOf 8 rfl) 13 rfl rfl ⟨by decide, by decide⟩ ?_
    refine kw_goto C (kdec dc_Word_isValueOf 9 rfl) 17 (by decide) ?_
    obtain rfl := Option.some.inj h
    exact kw_Q (hR _ rfl) (kw_zreturn C (kdec dc_Word_isValueOf 11 rfl) (by decide))
theorem mt_pf_Word_isValueOf (l0 : Launch) {σ : kM} {x0 : Int} {x1 : Int} {r : Int} (h : pf_Word_isValueOf σ x0 x1 = some r) : kMet l0 ky_Word_isValueOf prog_11_method_4_code 2 (some .boolean) R0_pf_Word_isValueOf kcl yC σ [ke (4 * x0), ki x1] (some (ki r)) σ := kMet.of' [some (ke (4 * x0)), some (ki x1)] (by decide) (Nat.le_of_ble_eq_true rfl) ⟨rfl, rfl, trivial⟩ (fun x C => bd_pf_Word_isValueOf C σ x0 x1 h (fun r e => by subst e; rfl))
def R0_pf_Parser_takeValue_12 : Room := ({ frames := 2, cells := 0, slots := 0, locals := 41 } : Room)
def pf_Parser_takeValue_12 (σ : kM) : Option (kM) :=
  (pf_Tokens_word_24 σ).bind fun r_1 =>
  kchk (0 ≤ r_1 ∧ r_1 < 18) <|
  (pf_Word_isValueOf σ r_1 (σ 12 4)).bind fun r_2 =>
  if r_2 = 0 then
    (pf_Parser_refuse_12 σ 3).bind fun σ_3 =>
    some σ_3
  else
    kchk (0 ≤ r_1 ∧ r_1 < 18) <|
    (pf_Rules_emit_17 σ (w32 (((-1)) - (kPl r_1)))).bind fun σ_6 =>
    (pf_Tokens_advance_24 σ_6).bind fun σ_7 =>
    some σ_7
set_option maxHeartbeats 4000000 in
theorem bd_pf_Parser_takeValue_12 {x : kX} {l0 : Launch} {Q : State → Prop} (C : kCx x prog_6_method_17_code "PoetFines$Parser" none kcl yC 2 l0 R0_pf_Parser_takeValue_12) (σ : kM) {out : kM} (h : pf_Parser_takeValue_12 σ = some out) (hR : ∀ (τ : kM), out = τ → Q = kQ x none τ 0 0) : KW x 0 0 Q σ 0 [some (kr 12), none] [] := by
  unfold pf_Parser_takeValue_12 at h
  refine kw_aload_n C (kdec dc_Parser_takeValue 0 rfl) rfl 1 rfl rfl ?_
  refine kw_getR C (kdec dc_Parser_takeValue 1 rfl) 4 rfl fd_C_Parser_40_12 ?_
  obtain ⟨r_1, hg_12, h⟩ := kbind_h h
  refine kw_callV (As := []) C (kdec dc_Parser_takeValue 2 rfl) 7 rfl cv_Parser_80 rfl rfl (mt_pf_Tokens_word_24 l0 hg_12) ⟨rfl, rfl⟩ ⟨Nat.le_of_ble_eq_true rfl, Nat.le_of_ble_eq_true rfl⟩ ⟨Nat.zero_le _, Nat.zero_le _⟩ rfl (Nat.le_of_ble_eq_true rfl) ?_
  change KW x 0 0 Q σ 7 [some (kr 12), none] [ke (4 * r_1)]
  refine kw_estore_n (L' := [some (kr 12), some (ke (4 * r_1))]) C (kdec dc_Parser_takeValue 3 rfl) rfl 8 rfl (by decide) rfl rfl ?_
  refine kw_eload_n C (kdec dc_Parser_takeValue 4 rfl) rfl 9 rfl rfl ?_
  refine kw_aload_n C (kdec dc_Parser_takeValue 5 rfl) rfl 10 rfl rfl ?_
  refine kw_getI C (kdec dc_Parser_takeValue 6 rfl) 13 rfl fd_C_Parser_32_12 ?_
  obtain ⟨hc_11, h⟩ := kchk_h h
  obtain ⟨r_2, hg_10, h⟩ := kbind_h h
  refine kw_callE (As := [ki (σ 12 4)]) C (kdec dc_Parser_takeValue 7 rfl) 16 rfl hc_11.1 hc_11.2 cv_Parser_209 (mt_pf_Word_isValueOf l0 hg_10) ⟨rfl, rfl⟩ ⟨Nat.le_of_ble_eq_true rfl, Nat.le_of_ble_eq_true rfl⟩ ⟨Nat.zero_le _, Nat.zero_le _⟩ rfl (Nat.le_of_ble_eq_true rfl) ?_
  change KW x 0 0 Q σ 16 [some (kr 12), some (ke (4 * r_1))] [ki r_2]
  refine kw_if_eq C (kdec dc_Parser_takeValue 8 rfl) 45 19 (by decide) rfl (fun hc16 => ?_) (fun hc16 => ?_)
  · rw [if_pos hc16] at h
    refine kw_aload_n C (kdec dc_Parser_takeValue 21 rfl) rfl 46 rfl rfl ?_
    refine kw_iconst C (kdec dc_Parser_takeValue 22 rfl) 47 rfl rfl ⟨by decide, by decide⟩ ?_
    obtain ⟨σ_3, hg_4, h⟩ := kbind_h h
    refine kw_callV (As := [ki 3]) C (kdec dc_Parser_takeValue 23 rfl) 50 rfl cv_Parser_110 rfl rfl (mt_pf_Parser_refuse_12 l0 hg_4) ⟨rfl, rfl⟩ ⟨Nat.le_of_ble_eq_true rfl, Nat.le_of_ble_eq_true rfl⟩ ⟨Nat.zero_le _, Nat.zero_le _⟩ rfl (Nat.le_of_ble_eq_true rfl) ?_
    change KW x 0 0 Q σ_3 50 [some (kr 12), some (ke (4 * r_1))] []
    obtain rfl := Option.some.inj h
    exact kw_Q (hR _ rfl) (kw_return C (kdec dc_Parser_takeValue 24 rfl))
  · rw [if_neg hc16] at h
    refine kw_aload_n C (kdec dc_Parser_takeValue 9 rfl) rfl 20 rfl rfl ?_
    refine kw_getR C (kdec dc_Parser_takeValue 10 rfl) 23 rfl fd_C_Parser_12_12 ?_
    refine kw_getR C (kdec dc_Parser_takeValue 11 rfl) 26 rfl fd_C_Parser_159_13 ?_
    refine kw_iconst C (kdec dc_Parser_takeValue 12 rfl) 27 rfl rfl ⟨by decide, by decide⟩ ?_
    refine kw_eload_n C (kdec dc_Parser_takeValue 13 rfl) rfl 28 rfl rfl ?_
    obtain ⟨hc_5, h⟩ := kchk_h h
    refine kw_getEp C (kdec dc_Parser_takeValue 14 rfl) 31 rfl hc_5.1 hc_5.2 wd_2223 ?_
    refine kw_isub C (kdec dc_Parser_takeValue 15 rfl) 32 rfl ?_
    obtain ⟨σ_6, hg_9, h⟩ := kbind_h h
    refine kw_callV (As := [ki (w32 (((-1)) - (kPl r_1)))]) C (kdec dc_Parser_takeValue 16 rfl) 35 rfl cv_Parser_186 rfl rfl (mt_pf_Rules_emit_17 l0 hg_9) ⟨rfl, rfl⟩ ⟨Nat.le_of_ble_eq_true rfl, Nat.le_of_ble_eq_true rfl⟩ ⟨Nat.zero_le _, Nat.zero_le _⟩ rfl (Nat.le_of_ble_eq_true rfl) ?_
    change KW x 0 0 Q σ_6 35 [some (kr 12), some (ke (4 * r_1))] []
    refine kw_aload_n C (kdec dc_Parser_takeValue 17 rfl) rfl 36 rfl rfl ?_
    refine kw_getR C (kdec dc_Parser_takeValue 18 rfl) 39 rfl fd_C_Parser_40_12 ?_
    obtain ⟨σ_7, hg_8, h⟩ := kbind_h h
    refine kw_callV (As := []) C (kdec dc_Parser_takeValue 19 rfl) 42 rfl cv_Parser_62 rfl rfl (mt_pf_Tokens_advance_24 l0 hg_8) ⟨rfl, rfl⟩ ⟨Nat.le_of_ble_eq_true rfl, Nat.le_of_ble_eq_true rfl⟩ ⟨Nat.zero_le _, Nat.zero_le _⟩ rfl (Nat.le_of_ble_eq_true rfl) ?_
    change KW x 0 0 Q σ_7 42 [some (kr 12), some (ke (4 * r_1))] []
    refine kw_goto C (kdec dc_Parser_takeValue 20 rfl) 50 (by decide) ?_
    obtain rfl := Option.some.inj h
    exact kw_Q (hR _ rfl) (kw_return C (kdec dc_Parser_takeValue 24 rfl))
theorem mt_pf_Parser_takeValue_12 (l0 : Launch) {σ : kM} {τ : kM} (h : pf_Parser_takeValue_12 σ = some τ) : kMet l0 ky_Parser_takeValue prog_6_method_17_code 2 none R0_pf_Parser_takeValue_12 kcl yC σ [kr 12] none τ := kMet.of' [some (kr 12), none] (by decide) (Nat.le_of_ble_eq_true rfl) ⟨rfl, trivial⟩ (fun x C => bd_pf_Parser_takeValue_12 C σ h (fun τ e => by subst e; rfl))
def R0_pf_Tokens_number_24 : Room := ({ frames := 0, cells := 0, slots := 0, locals := 0 } : Room)
def pf_Tokens_number_24 (σ : kM) : Option (Int) :=
  kchk (0 ≤ (σ 24 6) ∧ (σ 24 6) < 701) <|
  some (σ 28 (σ 24 6).toNat)
set_option maxHeartbeats 4000000 in
theorem bd_pf_Tokens_number_24 {x : kX} {l0 : Launch} {Q : State → Prop} (C : kCx x prog_10_method_6_code "PoetFines$Tokens" (some .int) kcl yC 1 l0 R0_pf_Tokens_number_24) (σ : kM) {out : Int} (h : pf_Tokens_number_24 σ = some out) (hR : ∀ (r : Int), out = r → Q = kQ x (some (ki r)) σ 0 0) : KW x 0 0 Q σ 0 [some (kr 24)] [] := by
  unfold pf_Tokens_number_24 at h
  refine kw_aload_n C (kdec dc_Tokens_number 0 rfl) rfl 1 rfl rfl ?_
  refine kw_getR C (kdec dc_Tokens_number 1 rfl) 4 rfl fd_C_Tokens_21_24 ?_
  refine kw_aload_n C (kdec dc_Tokens_number 2 rfl) rfl 5 rfl rfl ?_
  refine kw_getI C (kdec dc_Tokens_number 3 rfl) 8 rfl fd_C_Tokens_28_24 ?_
  obtain ⟨hc_1, h⟩ := kchk_h h
  refine kw_iald C (kdec dc_Tokens_number 4 rfl) 9 rfl rfl hc_1.1 hc_1.2 ?_
  obtain rfl := Option.some.inj h
  exact kw_Q (hR _ rfl) (kw_ireturn C (kdec dc_Tokens_number 5 rfl))
theorem mt_pf_Tokens_number_24 (l0 : Launch) {σ : kM} {r : Int} (h : pf_Tokens_number_24 σ = some r) : kMet l0 ky_Tokens_number prog_10_method_6_code 1 (some .int) R0_pf_Tokens_number_24 kcl yC σ [kr 24] (some (ki r)) σ := kMet.of' [some (kr 24)] (by decide) (Nat.le_of_ble_eq_true rfl) ⟨rfl, trivial⟩ (fun x C => bd_pf_Tokens_number_24 C σ h (fun r e => by subst e; rfl))
def R0_pf_Tokens_length_24 : Room := ({ frames := 0, cells := 0, slots := 0, locals := 0 } : Room)
def pf_Tokens_length_24 (σ : kM) : Option (Int) :=
  kchk (0 ≤ (σ 24 6) ∧ (σ 24 6) < 701) <|
  some (σ 27 (σ 24 6).toNat)
set_option maxHeartbeats 4000000 in
theorem bd_pf_Tokens_length_24 {x : kX} {l0 : Launch} {Q : State → Prop} (C : kCx x prog_10_method_5_code "PoetFines$Tokens" (some .int) kcl yC 1 l0 R0_pf_Tokens_length_24) (σ : kM) {out : Int} (h : pf_Tokens_length_24 σ = some out) (hR : ∀ (r : Int), out = r → Q = kQ x (some (ki r)) σ 0 0) : KW x 0 0 Q σ 0 [some (kr 24)] [] := by
  unfold pf_Tokens_length_24 at h
  refine kw_aload_n C (kdec dc_Tokens_length 0 rfl) rfl 1 rfl rfl ?_
  refine kw_getR C (kdec dc_Tokens_length 1 rfl) 4 rfl fd_C_Tokens_18_24 ?_
  refine kw_aload_n C (kdec dc_Tokens_length 2 rfl) rfl 5 rfl rfl ?_
  refine kw_getI C (kdec dc_Tokens_length 3 rfl) 8 rfl fd_C_Tokens_28_24 ?_
  obtain ⟨hc_1, h⟩ := kchk_h h
  refine kw_iald C (kdec dc_Tokens_length 4 rfl) 9 rfl rfl hc_1.1 hc_1.2 ?_
  obtain rfl := Option.some.inj h
  exact kw_Q (hR _ rfl) (kw_ireturn C (kdec dc_Tokens_length 5 rfl))
theorem mt_pf_Tokens_length_24 (l0 : Launch) {σ : kM} {r : Int} (h : pf_Tokens_length_24 σ = some r) : kMet l0 ky_Tokens_length prog_10_method_5_code 1 (some .int) R0_pf_Tokens_length_24 kcl yC σ [kr 24] (some (ki r)) σ := kMet.of' [some (kr 24)] (by decide) (Nat.le_of_ble_eq_true rfl) ⟨rfl, trivial⟩ (fun x C => bd_pf_Tokens_length_24 C σ h (fun r e => by subst e; rfl))
def R0_pf_Parser_takeNumber_12 : Room := ({ frames := 2, cells := 0, slots := 0, locals := 41 } : Room)
def pf_Parser_takeNumber_12_j47 (σ : kM) (x1 : Int) : Option (Int × kM) :=
  (pf_Parser_refuse_12 σ 2).bind fun σ_4 =>
  some ((x1, σ_4))
set_option maxHeartbeats 4000000 in
theorem bd_pf_Parser_takeNumber_12_j47 {x : kX} {l0 : Launch} {Q : State → Prop} (C : kCx x prog_6_method_8_code "PoetFines$Parser" (some .int) kcl yC 4 l0 R0_pf_Parser_takeNumber_12) (σ : kM) (x1 : Int) {out : Int × kM} (h : pf_Parser_takeNumber_12_j47 σ x1 = some out) (hR : ∀ (r : Int) (τ : kM), out = (r, τ) → Q = kQ x (some (ki r)) τ 0 0) : KW x 0 0 Q σ 47 [some (kr 12), some (ki x1), none, none] [] := by
  unfold pf_Parser_takeNumber_12_j47 at h
  refine kw_aload_n C (kdec dc_Parser_takeNumber 25 rfl) rfl 48 rfl rfl ?_
  refine kw_iconst C (kdec dc_Parser_takeNumber 26 rfl) 49 rfl rfl ⟨by decide, by decide⟩ ?_
  obtain ⟨σ_4, hg_5, h⟩ := kbind_h h
  refine kw_callV (As := [ki 2]) C (kdec dc_Parser_takeNumber 27 rfl) 52 rfl cv_Parser_110 rfl rfl (mt_pf_Parser_refuse_12 l0 hg_5) ⟨rfl, rfl⟩ ⟨Nat.le_of_ble_eq_true rfl, Nat.le_of_ble_eq_true rfl⟩ ⟨Nat.zero_le _, Nat.zero_le _⟩ rfl (Nat.le_of_ble_eq_true rfl) ?_
  change KW x 0 0 Q σ_4 52 [some (kr 12), some (ki x1), none, none] []
  refine kw_iload_n C (kdec dc_Parser_takeNumber 28 rfl) rfl 53 rfl rfl ?_
  obtain rfl := Option.some.inj h
  exact kw_Q (hR _ _ rfl) (kw_ireturn C (kdec dc_Parser_takeNumber 29 rfl))
def pf_Parser_takeNumber_12 (σ : kM) (x1 : Int) (x2 : Int) : Option (Int × kM) :=
  (pf_Tokens_kind_24 σ).bind fun r_1 =>
  if r_1 = 1 then
    (pf_Tokens_number_24 σ).bind fun r_2 =>
    (pf_Tokens_length_24 σ).bind fun r_3 =>
    if 4 < r_3 then
      pf_Parser_takeNumber_12_j47 σ x1
    else
      if r_2 < x1 then
        pf_Parser_takeNumber_12_j47 σ x1
      else
        if r_2 ≤ x2 then
          (pf_Tokens_advance_24 σ).bind fun σ_6 =>
          some ((r_2, σ_6))
        else
          pf_Parser_takeNumber_12_j47 σ x1
  else
    (pf_Parser_refuse_12 σ 1).bind fun σ_10 =>
    some ((x1, σ_10))
set_option maxHeartbeats 4000000 in
theorem bd_pf_Parser_takeNumber_12 {x : kX} {l0 : Launch} {Q : State → Prop} (C : kCx x prog_6_method_8_code "PoetFines$Parser" (some .int) kcl yC 4 l0 R0_pf_Parser_takeNumber_12) (σ : kM) (x1 : Int) (x2 : Int) {out : Int × kM} (h : pf_Parser_takeNumber_12 σ x1 x2 = some out) (hR : ∀ (r : Int) (τ : kM), out = (r, τ) → Q = kQ x (some (ki r)) τ 0 0) : KW x 0 0 Q σ 0 [some (kr 12), some (ki x1), some (ki x2), none] [] := by
  unfold pf_Parser_takeNumber_12 at h
  refine kw_aload_n C (kdec dc_Parser_takeNumber 0 rfl) rfl 1 rfl rfl ?_
  refine kw_getR C (kdec dc_Parser_takeNumber 1 rfl) 4 rfl fd_C_Parser_40_12 ?_
  obtain ⟨r_1, hg_12, h⟩ := kbind_h h
  refine kw_callV (As := []) C (kdec dc_Parser_takeNumber 2 rfl) 7 rfl cv_Parser_76 rfl rfl (mt_pf_Tokens_kind_24 l0 hg_12) ⟨rfl, rfl⟩ ⟨Nat.le_of_ble_eq_true rfl, Nat.le_of_ble_eq_true rfl⟩ ⟨Nat.zero_le _, Nat.zero_le _⟩ rfl (Nat.le_of_ble_eq_true rfl) ?_
  change KW x 0 0 Q σ 7 [some (kr 12), some (ki x1), some (ki x2), none] [ki r_1]
  refine kw_iconst C (kdec dc_Parser_takeNumber 3 rfl) 8 rfl rfl ⟨by decide, by decide⟩ ?_
  refine kw_icmp_eq C (kdec dc_Parser_takeNumber 4 rfl) 18 11 (by decide) rfl (fun hc8 => ?_) (fun hc8 => ?_)
  · rw [if_pos hc8] at h
    refine kw_aload_n C (kdec dc_Parser_takeNumber 10 rfl) rfl 19 rfl rfl ?_
    refine kw_getR C (kdec dc_Parser_takeNumber 11 rfl) 22 rfl fd_C_Parser_40_12 ?_
    obtain ⟨r_2, hg_9, h⟩ := kbind_h h
    refine kw_callV (As := []) C (kdec dc_Parser_takeNumber 12 rfl) 25 rfl cv_Parser_152 rfl rfl (mt_pf_Tokens_number_24 l0 hg_9) ⟨rfl, rfl⟩ ⟨Nat.le_of_ble_eq_true rfl, Nat.le_of_ble_eq_true rfl⟩ ⟨Nat.zero_le _, Nat.zero_le _⟩ rfl (Nat.le_of_ble_eq_true rfl) ?_
    change KW x 0 0 Q σ 25 [some (kr 12), some (ki x1), some (ki x2), none] [ki r_2]
    refine kw_istore_n (L' := [some (kr 12), some (ki x1), some (ki x2), some (ki r_2)]) C (kdec dc_Parser_takeNumber 13 rfl) rfl 26 rfl (by decide) rfl rfl ?_
    refine kw_aload_n C (kdec dc_Parser_takeNumber 14 rfl) rfl 27 rfl rfl ?_
    refine kw_getR C (kdec dc_Parser_takeNumber 15 rfl) 30 rfl fd_C_Parser_40_12 ?_
    obtain ⟨r_3, hg_8, h⟩ := kbind_h h
    refine kw_callV (As := []) C (kdec dc_Parser_takeNumber 16 rfl) 33 rfl cv_Parser_149 rfl rfl (mt_pf_Tokens_length_24 l0 hg_8) ⟨rfl, rfl⟩ ⟨Nat.le_of_ble_eq_true rfl, Nat.le_of_ble_eq_true rfl⟩ ⟨Nat.zero_le _, Nat.zero_le _⟩ rfl (Nat.le_of_ble_eq_true rfl) ?_
    change KW x 0 0 Q σ 33 [some (kr 12), some (ki x1), some (ki x2), some (ki r_2)] [ki r_3]
    refine kw_iconst C (kdec dc_Parser_takeNumber 17 rfl) 34 rfl rfl ⟨by decide, by decide⟩ ?_
    refine kw_icmp_gt C (kdec dc_Parser_takeNumber 18 rfl) 47 37 (by decide) rfl (fun hc34 => ?_) (fun hc34 => ?_)
    · rw [if_pos hc34] at h
      exact kw_sub (L' := [some (kr 12), some (ki x1), none, none]) ⟨rfl, rfl, trivial⟩ (bd_pf_Parser_takeNumber_12_j47 C σ x1 h hR)
    · rw [if_neg hc34] at h
      refine kw_iload_n C (kdec dc_Parser_takeNumber 19 rfl) rfl 38 rfl rfl ?_
      refine kw_iload_n C (kdec dc_Parser_takeNumber 20 rfl) rfl 39 rfl rfl ?_
      refine kw_icmp_lt C (kdec dc_Parser_takeNumber 21 rfl) 47 42 (by decide) rfl (fun hc39 => ?_) (fun hc39 => ?_)
      · rw [if_pos hc39] at h
        exact kw_sub (L' := [some (kr 12), some (ki x1), none, none]) ⟨rfl, rfl, trivial⟩ (bd_pf_Parser_takeNumber_12_j47 C σ x1 h hR)
      · rw [if_neg hc39] at h
        refine kw_iload_n C (kdec dc_Parser_takeNumber 22 rfl) rfl 43 rfl rfl ?_
        refine kw_iload_n C (kdec dc_Parser_takeNumber 23 rfl) rfl 44 rfl rfl ?_
        refine kw_icmp_le C (kdec dc_Parser_takeNumber 24 rfl) 54 47 (by decide) rfl (fun hc44 => ?_) (fun hc44 => ?_)
        · rw [if_pos hc44] at h
          refine kw_aload_n C (kdec dc_Parser_takeNumber 30 rfl) rfl 55 rfl rfl ?_
          refine kw_getR C (kdec dc_Parser_takeNumber 31 rfl) 58 rfl fd_C_Parser_40_12 ?_
          obtain ⟨σ_6, hg_7, h⟩ := kbind_h h
          refine kw_callV (As := []) C (kdec dc_Parser_takeNumber 32 rfl) 61 rfl cv_Parser_62 rfl rfl (mt_pf_Tokens_advance_24 l0 hg_7) ⟨rfl, rfl⟩ ⟨Nat.le_of_ble_eq_true rfl, Nat.le_of_ble_eq_true rfl⟩ ⟨Nat.zero_le _, Nat.zero_le _⟩ rfl (Nat.le_of_ble_eq_true rfl) ?_
          change KW x 0 0 Q σ_6 61 [some (kr 12), some (ki x1), some (ki x2), some (ki r_2)] []
          refine kw_iload_n C (kdec dc_Parser_takeNumber 33 rfl) rfl 62 rfl rfl ?_
          obtain rfl := Option.some.inj h
          exact kw_Q (hR _ _ rfl) (kw_ireturn C (kdec dc_Parser_takeNumber 34 rfl))
        · rw [if_neg hc44] at h
          exact kw_sub (L' := [some (kr 12), some (ki x1), none, none]) ⟨rfl, rfl, trivial⟩ (bd_pf_Parser_takeNumber_12_j47 C σ x1 h hR)
  · rw [if_neg hc8] at h
    refine kw_aload_n C (kdec dc_Parser_takeNumber 5 rfl) rfl 12 rfl rfl ?_
    refine kw_iconst C (kdec dc_Parser_takeNumber 6 rfl) 13 rfl rfl ⟨by decide, by decide⟩ ?_
    obtain ⟨σ_10, hg_11, h⟩ := kbind_h h
    refine kw_callV (As := [ki 1]) C (kdec dc_Parser_takeNumber 7 rfl) 16 rfl cv_Parser_110 rfl rfl (mt_pf_Parser_refuse_12 l0 hg_11) ⟨rfl, rfl⟩ ⟨Nat.le_of_ble_eq_true rfl, Nat.le_of_ble_eq_true rfl⟩ ⟨Nat.zero_le _, Nat.zero_le _⟩ rfl (Nat.le_of_ble_eq_true rfl) ?_
    change KW x 0 0 Q σ_10 16 [some (kr 12), some (ki x1), some (ki x2), none] []
    refine kw_iload_n C (kdec dc_Parser_takeNumber 8 rfl) rfl 17 rfl rfl ?_
    obtain rfl := Option.some.inj h
    exact kw_Q (hR _ _ rfl) (kw_ireturn C (kdec dc_Parser_takeNumber 9 rfl))
theorem mt_pf_Parser_takeNumber_12 (l0 : Launch) {σ : kM} {x1 : Int} {x2 : Int} {r : Int} {τ : kM} (h : pf_Parser_takeNumber_12 σ x1 x2 = some (r, τ)) : kMet l0 ky_Parser_takeNumber prog_6_method_8_code 4 (some .int) R0_pf_Parser_takeNumber_12 kcl yC σ [kr 12, ki x1, ki x2] (some (ki r)) τ := kMet.of' [some (kr 12), some (ki x1), some (ki x2), none] (by decide) (Nat.le_of_ble_eq_true rfl) ⟨rfl, rfl, rfl, trivial⟩ (fun x C => bd_pf_Parser_takeNumber_12 C σ x1 x2 h (fun r τ e => by cases e; rfl))
def Rr_gP (d : Nat) : Room := { frames := 4 + d, cells := 0, slots := 0, locals := 66 + d * 26 }
theorem rr_gP_f {a : Nat} (h : a ≤ 4) (d : Nat) : a ≤ (Rr_gP (d + 1)).frames := Nat.le_trans h (Nat.le_add_right _ _)
theorem rr_gP_l {a : Nat} (h : a ≤ 66) (d : Nat) : a ≤ (Rr_gP (d + 1)).locals := Nat.le_trans h (Nat.le_add_right _ _)
theorem rr_gP_r {M : Nat} (d : Nat) (hM : 8 + (M + 11) ≤ 26 := by decide) : 8 + (M + 11) + (Rr_gP d).locals ≤ (Rr_gP (d + 1)).locals := by
  show 8 + (M + 11) + (66 + d * 26) ≤ 66 + (d + 1) * 26
  omega
def pf_Parser_takeLevel_12_l50 (rc : Nat → kM → Int → Int → Option kM) (σ : kM) (x1 : Int) (x2 : Int) (x3 : Int) (x4 : Int) (x5 : Int) : Option ((kM × Int) ⊕ ((kM))) :=
  if x4 ≤ x5 then
    some (Sum.inr σ)
  else
    (pf_Parser_operatorOf_12 σ x1).bind fun r_3 =>
    if r_3 = ((-1)) then
      some (Sum.inr σ)
    else
      (pf_Parser_operatorOf_12 σ x1).bind fun r_4 =>
      (pf_Tokens_advance_24 σ).bind fun σ_5 =>
      (rc 0 σ_5 (w32 (x1 + 1)) x2).bind fun σ_6 =>
      (pf_Rules_emit_17 σ_6 r_4).bind fun σ_8 =>
      klet (w32 (x5 + 1)) fun x5_9 =>
      some (Sum.inl (σ_8, x5_9))
set_option maxHeartbeats 4000000 in
theorem bd_pf_Parser_takeLevel_12_l50 {x : kX} {l0 : Launch} {Q : State → Prop} {d : Nat} (rc : Nat → kM → Int → Int → Option kM) (C : kCx x prog_6_method_11_code "PoetFines$Parser" none kcl yC 7 l0 (Rr_gP (d + 1))) (hrc0 : ∀ (σ τ : kM) (a0 : Int) (a1 : Int), rc 0 σ a0 a1 = some τ → kMet l0 ky_Parser_takeLevel prog_6_method_11_code 7 none (Rr_gP d) kcl yC σ [kr 12, ki a0, ki a1] none τ) (hrc1 : ∀ (σ τ : kM) (a0 : Int), rc 1 σ a0 0 = some τ → kMet l0 ky_Parser_takePart prog_6_method_15_code 2 none (Rr_gP d) kcl yC σ [kr 12, ki a0] none τ) (σ : kM) (x1 : Int) (x2 : Int) (x3 : Int) (x4 : Int) (x5 : Int) {out : (kM × Int) ⊕ ((kM))} (h : pf_Parser_takeLevel_12_l50 rc σ x1 x2 x3 x4 x5 = some out) (hC : ∀ (σ' : kM) (x5' : Int), out = Sum.inl (σ', x5') → KW x 0 0 Q σ' 50 [some (kr 12), some (ki x1), some (ki x2), some (ki x3), some (ki x4), some (ki x5'), none] []) (hX106 : ∀ (σ' : kM), out = Sum.inr σ' → KW x 0 0 Q σ' 106 [some (kr 12), none, none, some (ki x3), none, none, none] []) : KW x 0 0 Q σ 50 [some (kr 12), some (ki x1), some (ki x2), some (ki x3), some (ki x4), some (ki x5), none] [] := by
  unfold pf_Parser_takeLevel_12_l50 at h
  refine kw_iload C (kdec dc_Parser_takeLevel 30 rfl) 52 rfl rfl ?_
  refine kw_iload C (kdec dc_Parser_takeLevel 31 rfl) 54 rfl rfl ?_
  refine kw_icmp_ge C (kdec dc_Parser_takeLevel 32 rfl) 106 57 (by decide) rfl (fun hc54 => ?_) (fun hc54 => ?_)
  · rw [if_pos hc54] at h
    obtain rfl := Option.some.inj h
    exact kw_sub (L' := [some (kr 12), none, none, some (ki x3), none, none, none]) ⟨rfl, rfl, trivial⟩ (hX106 _ rfl)
  · rw [if_neg hc54] at h
    refine kw_aload_n C (kdec dc_Parser_takeLevel 33 rfl) rfl 58 rfl rfl ?_
    refine kw_iload_n C (kdec dc_Parser_takeLevel 34 rfl) rfl 59 rfl rfl ?_
    obtain ⟨r_3, hg_13, h⟩ := kbind_h h
    refine kw_callV (As := [ki x1]) C (kdec dc_Parser_takeLevel 35 rfl) 62 rfl cv_Parser_182 rfl rfl (mt_pf_Parser_operatorOf_12 l0 hg_13) ⟨rfl, rfl⟩ ⟨rr_gP_f (Nat.le_of_ble_eq_true rfl) d, rr_gP_l (Nat.le_of_ble_eq_true rfl) d⟩ ⟨Nat.zero_le _, Nat.zero_le _⟩ rfl (Nat.le_of_ble_eq_true rfl) ?_
    change KW x 0 0 Q σ 62 [some (kr 12), some (ki x1), some (ki x2), some (ki x3), some (ki x4), some (ki x5), none] [ki r_3]
    refine kw_iconst C (kdec dc_Parser_takeLevel 36 rfl) 63 rfl rfl ⟨by decide, by decide⟩ ?_
    refine kw_icmp_eq C (kdec dc_Parser_takeLevel 37 rfl) 106 66 (by decide) rfl (fun hc63 => ?_) (fun hc63 => ?_)
    · rw [if_pos hc63] at h
      obtain rfl := Option.some.inj h
      exact kw_sub (L' := [some (kr 12), none, none, some (ki x3), none, none, none]) ⟨rfl, rfl, trivial⟩ (hX106 _ rfl)
    · rw [if_neg hc63] at h
      refine kw_aload_n C (kdec dc_Parser_takeLevel 38 rfl) rfl 67 rfl rfl ?_
      refine kw_iload_n C (kdec dc_Parser_takeLevel 39 rfl) rfl 68 rfl rfl ?_
      obtain ⟨r_4, hg_12, h⟩ := kbind_h h
      refine kw_callV (As := [ki x1]) C (kdec dc_Parser_takeLevel 40 rfl) 71 rfl cv_Parser_182 rfl rfl (mt_pf_Parser_operatorOf_12 l0 hg_12) ⟨rfl, rfl⟩ ⟨rr_gP_f (Nat.le_of_ble_eq_true rfl) d, rr_gP_l (Nat.le_of_ble_eq_true rfl) d⟩ ⟨Nat.zero_le _, Nat.zero_le _⟩ rfl (Nat.le_of_ble_eq_true rfl) ?_
      change KW x 0 0 Q σ 71 [some (kr 12), some (ki x1), some (ki x2), some (ki x3), some (ki x4), some (ki x5), none] [ki r_4]
      refine kw_istore (L' := [some (kr 12), some (ki x1), some (ki x2), some (ki x3), some (ki x4), some (ki x5), some (ki r_4)]) C (kdec dc_Parser_takeLevel 41 rfl) 73 rfl (by decide) rfl rfl ?_
      refine kw_aload_n C (kdec dc_Parser_takeLevel 42 rfl) rfl 74 rfl rfl ?_
      refine kw_getR C (kdec dc_Parser_takeLevel 43 rfl) 77 rfl fd_C_Parser_40_12 ?_
      obtain ⟨σ_5, hg_11, h⟩ := kbind_h h
      refine kw_callV (As := []) C (kdec dc_Parser_takeLevel 44 rfl) 80 rfl cv_Parser_62 rfl rfl (mt_pf_Tokens_advance_24 l0 hg_11) ⟨rfl, rfl⟩ ⟨rr_gP_f (Nat.le_of_ble_eq_true rfl) d, rr_gP_l (Nat.le_of_ble_eq_true rfl) d⟩ ⟨Nat.zero_le _, Nat.zero_le _⟩ rfl (Nat.le_of_ble_eq_true rfl) ?_
      change KW x 0 0 Q σ_5 80 [some (kr 12), some (ki x1), some (ki x2), some (ki x3), some (ki x4), some (ki x5), some (ki r_4)] []
      refine kw_aload_n C (kdec dc_Parser_takeLevel 45 rfl) rfl 81 rfl rfl ?_
      refine kw_iload_n C (kdec dc_Parser_takeLevel 46 rfl) rfl 82 rfl rfl ?_
      refine kw_iconst C (kdec dc_Parser_takeLevel 47 rfl) 83 rfl rfl ⟨by decide, by decide⟩ ?_
      refine kw_iadd C (kdec dc_Parser_takeLevel 48 rfl) 84 rfl ?_
      refine kw_iload_n C (kdec dc_Parser_takeLevel 49 rfl) rfl 85 rfl rfl ?_
      obtain ⟨σ_6, hg_7, h⟩ := kbind_h h
      refine kw_callV (As := [ki (w32 (x1 + 1)), ki x2]) C (kdec dc_Parser_takeLevel 50 rfl) 88 rfl cv_Parser_170 rfl rfl (hrc0 _ _ _ _ hg_7) ⟨rfl, rfl⟩ ⟨Nat.le_refl _, rr_gP_r d⟩ ⟨Nat.zero_le _, Nat.zero_le _⟩ rfl (Nat.le_of_ble_eq_true rfl) ?_
      change KW x 0 0 Q σ_6 88 [some (kr 12), some (ki x1), some (ki x2), some (ki x3), some (ki x4), some (ki x5), some (ki r_4)] []
      refine kw_aload_n C (kdec dc_Parser_takeLevel 51 rfl) rfl 89 rfl rfl ?_
      refine kw_getR C (kdec dc_Parser_takeLevel 52 rfl) 92 rfl fd_C_Parser_12_12 ?_
      refine kw_getR C (kdec dc_Parser_takeLevel 53 rfl) 95 rfl fd_C_Parser_159_13 ?_
      refine kw_iload C (kdec dc_Parser_takeLevel 54 rfl) 97 rfl rfl ?_
      obtain ⟨σ_8, hg_10, h⟩ := kbind_h h
      refine kw_callV (As := [ki r_4]) C (kdec dc_Parser_takeLevel 55 rfl) 100 rfl cv_Parser_186 rfl rfl (mt_pf_Rules_emit_17 l0 hg_10) ⟨rfl, rfl⟩ ⟨rr_gP_f (Nat.le_of_ble_eq_true rfl) d, rr_gP_l (Nat.le_of_ble_eq_true rfl) d⟩ ⟨Nat.zero_le _, Nat.zero_le _⟩ rfl (Nat.le_of_ble_eq_true rfl) ?_
      change KW x 0 0 Q σ_8 100 [some (kr 12), some (ki x1), some (ki x2), some (ki x3), some (ki x4), some (ki x5), some (ki r_4)] []
      obtain ⟨x5_9, ex5_9, h⟩ := klet_h h
      refine kw_iinc (L' := [some (kr 12), some (ki x1), some (ki x2), some (ki x3), some (ki x4), some (ki x5_9), some (ki r_4)]) C (kdec dc_Parser_takeLevel 56 rfl) 103 rfl rfl (by decide) rfl (by rw [ex5_9]; rfl) ?_
      refine kw_goto C (kdec dc_Parser_takeLevel 57 rfl) 50 (by decide) ?_
      obtain rfl := Option.some.inj h
      exact kw_sub (L' := [some (kr 12), some (ki x1), some (ki x2), some (ki x3), some (ki x4), some (ki x5_9), none]) ⟨rfl, rfl, rfl, rfl, rfl, rfl, trivial⟩ (hC _ _ rfl)
theorem lp_pf_Parser_takeLevel_12_l50 {x : kX} {l0 : Launch} {Q : State → Prop} {d : Nat} (rc : Nat → kM → Int → Int → Option kM) (C : kCx x prog_6_method_11_code "PoetFines$Parser" none kcl yC 7 l0 (Rr_gP (d + 1))) (hrc0 : ∀ (σ τ : kM) (a0 : Int) (a1 : Int), rc 0 σ a0 a1 = some τ → kMet l0 ky_Parser_takeLevel prog_6_method_11_code 7 none (Rr_gP d) kcl yC σ [kr 12, ki a0, ki a1] none τ) (hrc1 : ∀ (σ τ : kM) (a0 : Int), rc 1 σ a0 0 = some τ → kMet l0 ky_Parser_takePart prog_6_method_15_code 2 none (Rr_gP d) kcl yC σ [kr 12, ki a0] none τ) (x1 : Int) (x2 : Int) (x3 : Int) (x4 : Int) {ex : (kM)} (hX106 : ∀ (σ' : kM), ex = σ' → KW x 0 0 Q σ' 106 [some (kr 12), none, none, some (ki x3), none, none, none] []) (n : Nat) (σ : kM) (x5 : Int) (h : kloop (fun st => pf_Parser_takeLevel_12_l50 rc st.1 x1 x2 x3 x4 st.2) n (σ, x5) = some ex) : KW x 0 0 Q σ 50 [some (kr 12), some (ki x1), some (ki x2), some (ki x3), some (ki x4), some (ki x5), none] [] :=
  kloop_ind (P := (fun st : kM × Int => KW x 0 0 Q st.1 50 [some (kr 12), some (ki x1), some (ki x2), some (ki x3), some (ki x4), some (ki (st.2)), none] [])) (fun st out hb hc hx => bd_pf_Parser_takeLevel_12_l50 rc C hrc0 hrc1 st.1 x1 x2 x3 x4 st.2 hb (fun a0 a1 e => hc _ e) (fun a0 e => hX106 _ ((hx _ e).symm))) n (σ, x5) h
def pf_Parser_takeLevel_12_l109 (rc : Nat → kM → Int → Int → Option kM) (σ : kM) (x3 : Int) (x5 : Int) : Option ((kM × Int) ⊕ ((kM))) :=
  if x3 ≤ x5 then
    some (Sum.inr σ)
  else
    (pf_Rules_emit_17 σ ((-9))).bind fun σ_17 =>
    klet (w32 (x5 + 1)) fun x5_18 =>
    some (Sum.inl (σ_17, x5_18))
set_option maxHeartbeats 4000000 in
theorem bd_pf_Parser_takeLevel_12_l109 {x : kX} {l0 : Launch} {Q : State → Prop} {d : Nat} (rc : Nat → kM → Int → Int → Option kM) (C : kCx x prog_6_method_11_code "PoetFines$Parser" none kcl yC 7 l0 (Rr_gP (d + 1))) (hrc0 : ∀ (σ τ : kM) (a0 : Int) (a1 : Int), rc 0 σ a0 a1 = some τ → kMet l0 ky_Parser_takeLevel prog_6_method_11_code 7 none (Rr_gP d) kcl yC σ [kr 12, ki a0, ki a1] none τ) (hrc1 : ∀ (σ τ : kM) (a0 : Int), rc 1 σ a0 0 = some τ → kMet l0 ky_Parser_takePart prog_6_method_15_code 2 none (Rr_gP d) kcl yC σ [kr 12, ki a0] none τ) (σ : kM) (x3 : Int) (x5 : Int) {out : (kM × Int) ⊕ ((kM))} (h : pf_Parser_takeLevel_12_l109 rc σ x3 x5 = some out) (hC : ∀ (σ' : kM) (x5' : Int), out = Sum.inl (σ', x5') → KW x 0 0 Q σ' 109 [some (kr 12), none, none, some (ki x3), none, some (ki x5'), none] []) (hX133 : ∀ (σ' : kM), out = Sum.inr σ' → KW x 0 0 Q σ' 133 [none, none, none, none, none, none, none] []) : KW x 0 0 Q σ 109 [some (kr 12), none, none, some (ki x3), none, some (ki x5), none] [] := by
  unfold pf_Parser_takeLevel_12_l109 at h
  refine kw_iload C (kdec dc_Parser_takeLevel 60 rfl) 111 rfl rfl ?_
  refine kw_iload_n C (kdec dc_Parser_takeLevel 61 rfl) rfl 112 rfl rfl ?_
  refine kw_icmp_ge C (kdec dc_Parser_takeLevel 62 rfl) 133 115 (by decide) rfl (fun hc112 => ?_) (fun hc112 => ?_)
  · rw [if_pos hc112] at h
    obtain rfl := Option.some.inj h
    exact kw_sub (L' := [none, none, none, none, none, none, none]) trivial (hX133 _ rfl)
  · rw [if_neg hc112] at h
    refine kw_aload_n C (kdec dc_Parser_takeLevel 63 rfl) rfl 116 rfl rfl ?_
    refine kw_getR C (kdec dc_Parser_takeLevel 64 rfl) 119 rfl fd_C_Parser_12_12 ?_
    refine kw_getR C (kdec dc_Parser_takeLevel 65 rfl) 122 rfl fd_C_Parser_159_13 ?_
    refine kw_bipush (v := -9) C (kdec dc_Parser_takeLevel 66 rfl) 124 rfl (by decide) ⟨by decide, by decide⟩ ?_
    obtain ⟨σ_17, hg_19, h⟩ := kbind_h h
    refine kw_callV (As := [ki ((-9))]) C (kdec dc_Parser_takeLevel 67 rfl) 127 rfl cv_Parser_186 rfl rfl (mt_pf_Rules_emit_17 l0 hg_19) ⟨rfl, rfl⟩ ⟨rr_gP_f (Nat.le_of_ble_eq_true rfl) d, rr_gP_l (Nat.le_of_ble_eq_true rfl) d⟩ ⟨Nat.zero_le _, Nat.zero_le _⟩ rfl (Nat.le_of_ble_eq_true rfl) ?_
    change KW x 0 0 Q σ_17 127 [some (kr 12), none, none, some (ki x3), none, some (ki x5), none] []
    obtain ⟨x5_18, ex5_18, h⟩ := klet_h h
    refine kw_iinc (L' := [some (kr 12), none, none, some (ki x3), none, some (ki x5_18), none]) C (kdec dc_Parser_takeLevel 68 rfl) 130 rfl rfl (by decide) rfl (by rw [ex5_18]; rfl) ?_
    refine kw_goto C (kdec dc_Parser_takeLevel 69 rfl) 109 (by decide) ?_
    obtain rfl := Option.some.inj h
    exact (hC _ _ rfl)
theorem lp_pf_Parser_takeLevel_12_l109 {x : kX} {l0 : Launch} {Q : State → Prop} {d : Nat} (rc : Nat → kM → Int → Int → Option kM) (C : kCx x prog_6_method_11_code "PoetFines$Parser" none kcl yC 7 l0 (Rr_gP (d + 1))) (hrc0 : ∀ (σ τ : kM) (a0 : Int) (a1 : Int), rc 0 σ a0 a1 = some τ → kMet l0 ky_Parser_takeLevel prog_6_method_11_code 7 none (Rr_gP d) kcl yC σ [kr 12, ki a0, ki a1] none τ) (hrc1 : ∀ (σ τ : kM) (a0 : Int), rc 1 σ a0 0 = some τ → kMet l0 ky_Parser_takePart prog_6_method_15_code 2 none (Rr_gP d) kcl yC σ [kr 12, ki a0] none τ) (x3 : Int) {ex : (kM)} (hX133 : ∀ (σ' : kM), ex = σ' → KW x 0 0 Q σ' 133 [none, none, none, none, none, none, none] []) (n : Nat) (σ : kM) (x5 : Int) (h : kloop (fun st => pf_Parser_takeLevel_12_l109 rc st.1 x3 st.2) n (σ, x5) = some ex) : KW x 0 0 Q σ 109 [some (kr 12), none, none, some (ki x3), none, some (ki x5), none] [] :=
  kloop_ind (P := (fun st : kM × Int => KW x 0 0 Q st.1 109 [some (kr 12), none, none, some (ki x3), none, some (ki (st.2)), none] [])) (fun st out hb hc hx => bd_pf_Parser_takeLevel_12_l109 rc C hrc0 hrc1 st.1 x3 st.2 hb (fun a0 a1 e => hc _ e) (fun a0 e => hX133 _ ((hx _ e).symm))) n (σ, x5) h
def pf_Parser_takeLevel_12_j45 (rc : Nat → kM → Int → Int → Option kM) (σ : kM) (x1 : Int) (x2 : Int) (x3 : Int) (s0 : Int) : Option (kM) :=
  (kloop (fun st => pf_Parser_takeLevel_12_l50 rc st.1 x1 x2 x3 s0 st.2) kFuel (σ, 0)).bind fun σ_16 =>
  (kloop (fun st => pf_Parser_takeLevel_12_l109 rc st.1 x3 st.2) kFuel (σ_16, 0)).bind fun σ_22 =>
  some σ_22
set_option maxHeartbeats 4000000 in
theorem bd_pf_Parser_takeLevel_12_j45 {x : kX} {l0 : Launch} {Q : State → Prop} {d : Nat} (rc : Nat → kM → Int → Int → Option kM) (C : kCx x prog_6_method_11_code "PoetFines$Parser" none kcl yC 7 l0 (Rr_gP (d + 1))) (hrc0 : ∀ (σ τ : kM) (a0 : Int) (a1 : Int), rc 0 σ a0 a1 = some τ → kMet l0 ky_Parser_takeLevel prog_6_method_11_code 7 none (Rr_gP d) kcl yC σ [kr 12, ki a0, ki a1] none τ) (hrc1 : ∀ (σ τ : kM) (a0 : Int), rc 1 σ a0 0 = some τ → kMet l0 ky_Parser_takePart prog_6_method_15_code 2 none (Rr_gP d) kcl yC σ [kr 12, ki a0] none τ) (σ : kM) (x1 : Int) (x2 : Int) (x3 : Int) (s0 : Int) {out : kM} (h : pf_Parser_takeLevel_12_j45 rc σ x1 x2 x3 s0 = some out) (hR : ∀ (τ : kM), out = τ → Q = kQ x none τ 0 0) : KW x 0 0 Q σ 45 [some (kr 12), some (ki x1), some (ki x2), some (ki x3), none, none, none] [ki s0] := by
  unfold pf_Parser_takeLevel_12_j45 at h
  refine kw_istore (L' := [some (kr 12), some (ki x1), some (ki x2), some (ki x3), some (ki s0), none, none]) C (kdec dc_Parser_takeLevel 27 rfl) 47 rfl (by decide) rfl rfl ?_
  refine kw_iconst C (kdec dc_Parser_takeLevel 28 rfl) 48 rfl rfl ⟨by decide, by decide⟩ ?_
  refine kw_istore (L' := [some (kr 12), some (ki x1), some (ki x2), some (ki x3), some (ki s0), some (ki 0), none]) C (kdec dc_Parser_takeLevel 29 rfl) 50 rfl (by decide) rfl rfl ?_
  obtain ⟨ex_14, hl_15, h⟩ := kbind_h h
  refine lp_pf_Parser_takeLevel_12_l50 rc C hrc0 hrc1 x1 x2 x3 s0 ?_ kFuel σ 0 hl_15
  · intro σ_16 e
    subst ex_14
    try dsimp only at h
    refine kw_iconst C (kdec dc_Parser_takeLevel 58 rfl) 107 rfl rfl ⟨by decide, by decide⟩ ?_
    refine kw_istore (L' := [some (kr 12), none, none, some (ki x3), none, some (ki 0), none]) C (kdec dc_Parser_takeLevel 59 rfl) 109 rfl (by decide) rfl rfl ?_
    obtain ⟨ex_20, hl_21, h⟩ := kbind_h h
    refine lp_pf_Parser_takeLevel_12_l109 rc C hrc0 hrc1 x3 ?_ kFuel σ_16 0 hl_21
    · intro σ_22 e
      subst ex_20
      try dsimp only at h
      obtain rfl := Option.some.inj h
      exact kw_Q (hR _ rfl) (kw_return C (kdec dc_Parser_takeLevel 70 rfl))
def pf_Parser_takeLevel_12_j24 (rc : Nat → kM → Int → Int → Option kM) (σ : kM) (x1 : Int) (x2 : Int) (s0 : Int) : Option (kM) :=
  (rc 0 σ (w32 (x1 + 1)) x2).bind fun σ_1 =>
  if x1 = 3 then
    pf_Parser_takeLevel_12_j45 rc σ_1 x1 x2 s0 1
  else
    pf_Parser_takeLevel_12_j45 rc σ_1 x1 x2 s0 700
set_option maxHeartbeats 4000000 in
theorem bd_pf_Parser_takeLevel_12_j24 {x : kX} {l0 : Launch} {Q : State → Prop} {d : Nat} (rc : Nat → kM → Int → Int → Option kM) (C : kCx x prog_6_method_11_code "PoetFines$Parser" none kcl yC 7 l0 (Rr_gP (d + 1))) (hrc0 : ∀ (σ τ : kM) (a0 : Int) (a1 : Int), rc 0 σ a0 a1 = some τ → kMet l0 ky_Parser_takeLevel prog_6_method_11_code 7 none (Rr_gP d) kcl yC σ [kr 12, ki a0, ki a1] none τ) (hrc1 : ∀ (σ τ : kM) (a0 : Int), rc 1 σ a0 0 = some τ → kMet l0 ky_Parser_takePart prog_6_method_15_code 2 none (Rr_gP d) kcl yC σ [kr 12, ki a0] none τ) (σ : kM) (x1 : Int) (x2 : Int) (s0 : Int) {out : kM} (h : pf_Parser_takeLevel_12_j24 rc σ x1 x2 s0 = some out) (hR : ∀ (τ : kM), out = τ → Q = kQ x none τ 0 0) : KW x 0 0 Q σ 24 [some (kr 12), some (ki x1), some (ki x2), none, none, none, none] [ki s0] := by
  unfold pf_Parser_takeLevel_12_j24 at h
  refine kw_istore_n (L' := [some (kr 12), some (ki x1), some (ki x2), some (ki s0), none, none, none]) C (kdec dc_Parser_takeLevel 14 rfl) rfl 25 rfl (by decide) rfl rfl ?_
  refine kw_aload_n C (kdec dc_Parser_takeLevel 15 rfl) rfl 26 rfl rfl ?_
  refine kw_iload_n C (kdec dc_Parser_takeLevel 16 rfl) rfl 27 rfl rfl ?_
  refine kw_iconst C (kdec dc_Parser_takeLevel 17 rfl) 28 rfl rfl ⟨by decide, by decide⟩ ?_
  refine kw_iadd C (kdec dc_Parser_takeLevel 18 rfl) 29 rfl ?_
  refine kw_iload_n C (kdec dc_Parser_takeLevel 19 rfl) rfl 30 rfl rfl ?_
  obtain ⟨σ_1, hg_2, h⟩ := kbind_h h
  refine kw_callV (As := [ki (w32 (x1 + 1)), ki x2]) C (kdec dc_Parser_takeLevel 20 rfl) 33 rfl cv_Parser_170 rfl rfl (hrc0 _ _ _ _ hg_2) ⟨rfl, rfl⟩ ⟨Nat.le_refl _, rr_gP_r d⟩ ⟨Nat.zero_le _, Nat.zero_le _⟩ rfl (Nat.le_of_ble_eq_true rfl) ?_
  change KW x 0 0 Q σ_1 33 [some (kr 12), some (ki x1), some (ki x2), some (ki s0), none, none, none] []
  refine kw_iload_n C (kdec dc_Parser_takeLevel 21 rfl) rfl 34 rfl rfl ?_
  refine kw_iconst C (kdec dc_Parser_takeLevel 22 rfl) 35 rfl rfl ⟨by decide, by decide⟩ ?_
  refine kw_icmp_ne C (kdec dc_Parser_takeLevel 23 rfl) 42 38 (by decide) rfl (fun hc35 => ?_) (fun hc35 => ?_)
  · rw [if_neg hc35] at h
    refine kw_sipush (v := 700) C (kdec dc_Parser_takeLevel 26 rfl) 45 rfl (by decide) ⟨by decide, by decide⟩ ?_
    exact bd_pf_Parser_takeLevel_12_j45 rc C hrc0 hrc1 σ_1 x1 x2 s0 700 h hR
  · rw [if_pos hc35] at h
    refine kw_iconst C (kdec dc_Parser_takeLevel 24 rfl) 39 rfl rfl ⟨by decide, by decide⟩ ?_
    refine kw_goto C (kdec dc_Parser_takeLevel 25 rfl) 45 (by decide) ?_
    exact bd_pf_Parser_takeLevel_12_j45 rc C hrc0 hrc1 σ_1 x1 x2 s0 1 h hR
def pf_Parser_takeLevel_12 (rc : Nat → kM → Int → Int → Option kM) (σ : kM) (x1 : Int) (x2 : Int) : Option (kM) :=
  if x1 ≤ 5 then
    if x1 = 2 then
      (pf_Parser_takeNots_12 σ).bind fun (r_23, σ_24) =>
      pf_Parser_takeLevel_12_j24 rc σ_24 x1 x2 r_23
    else
      pf_Parser_takeLevel_12_j24 rc σ x1 x2 0
  else
    (rc 1 σ x2 0).bind fun σ_26 =>
    some σ_26
set_option maxHeartbeats 4000000 in
theorem bd_pf_Parser_takeLevel_12 {x : kX} {l0 : Launch} {Q : State → Prop} {d : Nat} (rc : Nat → kM → Int → Int → Option kM) (C : kCx x prog_6_method_11_code "PoetFines$Parser" none kcl yC 7 l0 (Rr_gP (d + 1))) (hrc0 : ∀ (σ τ : kM) (a0 : Int) (a1 : Int), rc 0 σ a0 a1 = some τ → kMet l0 ky_Parser_takeLevel prog_6_method_11_code 7 none (Rr_gP d) kcl yC σ [kr 12, ki a0, ki a1] none τ) (hrc1 : ∀ (σ τ : kM) (a0 : Int), rc 1 σ a0 0 = some τ → kMet l0 ky_Parser_takePart prog_6_method_15_code 2 none (Rr_gP d) kcl yC σ [kr 12, ki a0] none τ) (σ : kM) (x1 : Int) (x2 : Int) {out : kM} (h : pf_Parser_takeLevel_12 rc σ x1 x2 = some out) (hR : ∀ (τ : kM), out = τ → Q = kQ x none τ 0 0) : KW x 0 0 Q σ 0 [some (kr 12), some (ki x1), some (ki x2), none, none, none, none] [] := by
  unfold pf_Parser_takeLevel_12 at h
  refine kw_iload_n C (kdec dc_Parser_takeLevel 0 rfl) rfl 1 rfl rfl ?_
  refine kw_iconst C (kdec dc_Parser_takeLevel 1 rfl) 2 rfl rfl ⟨by decide, by decide⟩ ?_
  refine kw_icmp_le C (kdec dc_Parser_takeLevel 2 rfl) 11 5 (by decide) rfl (fun hc2 => ?_) (fun hc2 => ?_)
  · rw [if_pos hc2] at h
    refine kw_iload_n C (kdec dc_Parser_takeLevel 7 rfl) rfl 12 rfl rfl ?_
    refine kw_iconst C (kdec dc_Parser_takeLevel 8 rfl) 13 rfl rfl ⟨by decide, by decide⟩ ?_
    refine kw_icmp_ne C (kdec dc_Parser_takeLevel 9 rfl) 23 16 (by decide) rfl (fun hc13 => ?_) (fun hc13 => ?_)
    · rw [if_neg hc13] at h
      refine kw_iconst C (kdec dc_Parser_takeLevel 13 rfl) 24 rfl rfl ⟨by decide, by decide⟩ ?_
      exact bd_pf_Parser_takeLevel_12_j24 rc C hrc0 hrc1 σ x1 x2 0 h hR
    · rw [if_pos hc13] at h
      refine kw_aload_n C (kdec dc_Parser_takeLevel 10 rfl) rfl 17 rfl rfl ?_
      obtain ⟨⟨r_23, σ_24⟩, hg_25, h⟩ := kbind_h h
      dsimp only at h
      refine kw_callV (As := []) C (kdec dc_Parser_takeLevel 11 rfl) 20 rfl cv_Parser_179 rfl rfl (mt_pf_Parser_takeNots_12 l0 hg_25) ⟨rfl, rfl⟩ ⟨rr_gP_f (Nat.le_of_ble_eq_true rfl) d, rr_gP_l (Nat.le_of_ble_eq_true rfl) d⟩ ⟨Nat.zero_le _, Nat.zero_le _⟩ rfl (Nat.le_of_ble_eq_true rfl) ?_
      change KW x 0 0 Q σ_24 20 [some (kr 12), some (ki x1), some (ki x2), none, none, none, none] [ki r_23]
      refine kw_goto C (kdec dc_Parser_takeLevel 12 rfl) 24 (by decide) ?_
      exact bd_pf_Parser_takeLevel_12_j24 rc C hrc0 hrc1 σ_24 x1 x2 r_23 h hR
  · rw [if_neg hc2] at h
    refine kw_aload_n C (kdec dc_Parser_takeLevel 3 rfl) rfl 6 rfl rfl ?_
    refine kw_iload_n C (kdec dc_Parser_takeLevel 4 rfl) rfl 7 rfl rfl ?_
    obtain ⟨σ_26, hg_27, h⟩ := kbind_h h
    refine kw_callV (As := [ki x2]) C (kdec dc_Parser_takeLevel 5 rfl) 10 rfl cv_Parser_176 rfl rfl (hrc1 _ _ _ hg_27) ⟨rfl, rfl⟩ ⟨Nat.le_refl _, rr_gP_r d⟩ ⟨Nat.zero_le _, Nat.zero_le _⟩ rfl (Nat.le_of_ble_eq_true rfl) ?_
    change KW x 0 0 Q σ_26 10 [some (kr 12), some (ki x1), some (ki x2), none, none, none, none] []
    obtain rfl := Option.some.inj h
    exact kw_Q (hR _ rfl) (kw_return C (kdec dc_Parser_takeLevel 6 rfl))
def pf_Parser_takePart_12_j109 (rc : Nat → kM → Int → Int → Option kM) (σ : kM) : Option (kM) :=
  (pf_Parser_takeSign_12 σ 41).bind fun σ_7 =>
  some σ_7
set_option maxHeartbeats 4000000 in
theorem bd_pf_Parser_takePart_12_j109 {x : kX} {l0 : Launch} {Q : State → Prop} {d : Nat} (rc : Nat → kM → Int → Int → Option kM) (C : kCx x prog_6_method_15_code "PoetFines$Parser" none kcl yC 2 l0 (Rr_gP (d + 1))) (hrc0 : ∀ (σ τ : kM) (a0 : Int) (a1 : Int), rc 0 σ a0 a1 = some τ → kMet l0 ky_Parser_takeLevel prog_6_method_11_code 7 none (Rr_gP d) kcl yC σ [kr 12, ki a0, ki a1] none τ) (hrc1 : ∀ (σ τ : kM) (a0 : Int), rc 1 σ a0 0 = some τ → kMet l0 ky_Parser_takePart prog_6_method_15_code 2 none (Rr_gP d) kcl yC σ [kr 12, ki a0] none τ) (σ : kM) {out : kM} (h : pf_Parser_takePart_12_j109 rc σ = some out) (hR : ∀ (τ : kM), out = τ → Q = kQ x none τ 0 0) : KW x 0 0 Q σ 109 [some (kr 12), none] [] := by
  unfold pf_Parser_takePart_12_j109 at h
  refine kw_aload_n C (kdec dc_Parser_takePart 52 rfl) rfl 110 rfl rfl ?_
  refine kw_bipush (v := 41) C (kdec dc_Parser_takePart 53 rfl) 112 rfl (by decide) ⟨by decide, by decide⟩ ?_
  obtain ⟨σ_7, hg_8, h⟩ := kbind_h h
  refine kw_callV (As := [ki 41]) C (kdec dc_Parser_takePart 54 rfl) 115 rfl cv_Parser_72 rfl rfl (mt_pf_Parser_takeSign_12 l0 hg_8) ⟨rfl, rfl⟩ ⟨rr_gP_f (Nat.le_of_ble_eq_true rfl) d, rr_gP_l (Nat.le_of_ble_eq_true rfl) d⟩ ⟨Nat.zero_le _, Nat.zero_le _⟩ rfl (Nat.le_of_ble_eq_true rfl) ?_
  change KW x 0 0 Q σ_7 115 [some (kr 12), none] []
  obtain rfl := Option.some.inj h
  exact kw_Q (hR _ rfl) (kw_return C (kdec dc_Parser_takePart 55 rfl))
def pf_Parser_takePart_12_j106 (rc : Nat → kM → Int → Int → Option kM) (σ : kM) (s0 : Int) : Option (kM) :=
  (pf_Parser_refuse_12 σ s0).bind fun σ_6 =>
  pf_Parser_takePart_12_j109 rc σ_6
set_option maxHeartbeats 4000000 in
theorem bd_pf_Parser_takePart_12_j106 {x : kX} {l0 : Launch} {Q : State → Prop} {d : Nat} (rc : Nat → kM → Int → Int → Option kM) (C : kCx x prog_6_method_15_code "PoetFines$Parser" none kcl yC 2 l0 (Rr_gP (d + 1))) (hrc0 : ∀ (σ τ : kM) (a0 : Int) (a1 : Int), rc 0 σ a0 a1 = some τ → kMet l0 ky_Parser_takeLevel prog_6_method_11_code 7 none (Rr_gP d) kcl yC σ [kr 12, ki a0, ki a1] none τ) (hrc1 : ∀ (σ τ : kM) (a0 : Int), rc 1 σ a0 0 = some τ → kMet l0 ky_Parser_takePart prog_6_method_15_code 2 none (Rr_gP d) kcl yC σ [kr 12, ki a0] none τ) (σ : kM) (s0 : Int) {out : kM} (h : pf_Parser_takePart_12_j106 rc σ s0 = some out) (hR : ∀ (τ : kM), out = τ → Q = kQ x none τ 0 0) : KW x 0 0 Q σ 106 [some (kr 12), none] [ki s0, kr 12] := by
  unfold pf_Parser_takePart_12_j106 at h
  obtain ⟨σ_6, hg_9, h⟩ := kbind_h h
  refine kw_callV (As := [ki s0]) C (kdec dc_Parser_takePart 51 rfl) 109 rfl cv_Parser_110 rfl rfl (mt_pf_Parser_refuse_12 l0 hg_9) ⟨rfl, rfl⟩ ⟨rr_gP_f (Nat.le_of_ble_eq_true rfl) d, rr_gP_l (Nat.le_of_ble_eq_true rfl) d⟩ ⟨Nat.zero_le _, Nat.zero_le _⟩ rfl (Nat.le_of_ble_eq_true rfl) ?_
  change KW x 0 0 Q σ_6 109 [some (kr 12), none] []
  exact bd_pf_Parser_takePart_12_j109 rc C hrc0 hrc1 σ_6 h hR
def pf_Parser_takePart_12 (rc : Nat → kM → Int → Int → Option kM) (σ : kM) (x1 : Int) : Option (kM) :=
  (pf_Tokens_kind_24 σ).bind fun r_1 =>
  if r_1 = 1 then
    (pf_Parser_takeNumber_12 σ 0 9999).bind fun (r_20, σ_21) =>
    (pf_Rules_emit_17 σ_21 r_20).bind fun σ_22 =>
    some σ_22
  else
    (pf_Tokens_kind_24 σ).bind fun r_2 =>
    if r_2 = 2 then
      (pf_Parser_takeValue_12 σ).bind fun σ_17 =>
      some σ_17
    else
      (pf_Tokens_isSign_24 σ 40).bind fun r_3 =>
      if r_3 = 0 then
        (pf_Parser_refuse_12 σ 1).bind fun σ_14 =>
        some σ_14
      else
        (pf_Tokens_advance_24 σ).bind fun σ_4 =>
        if 5 ≤ x1 then
          (pf_Parser_couldBePart_12 σ_4).bind fun r_5 =>
          if r_5 = 0 then
            pf_Parser_takePart_12_j106 rc σ_4 1
          else
            pf_Parser_takePart_12_j106 rc σ_4 2
        else
          (rc 0 σ_4 0 (w32 (x1 + 1))).bind fun σ_11 =>
          pf_Parser_takePart_12_j109 rc σ_11
set_option maxHeartbeats 4000000 in
theorem bd_pf_Parser_takePart_12 {x : kX} {l0 : Launch} {Q : State → Prop} {d : Nat} (rc : Nat → kM → Int → Int → Option kM) (C : kCx x prog_6_method_15_code "PoetFines$Parser" none kcl yC 2 l0 (Rr_gP (d + 1))) (hrc0 : ∀ (σ τ : kM) (a0 : Int) (a1 : Int), rc 0 σ a0 a1 = some τ → kMet l0 ky_Parser_takeLevel prog_6_method_11_code 7 none (Rr_gP d) kcl yC σ [kr 12, ki a0, ki a1] none τ) (hrc1 : ∀ (σ τ : kM) (a0 : Int), rc 1 σ a0 0 = some τ → kMet l0 ky_Parser_takePart prog_6_method_15_code 2 none (Rr_gP d) kcl yC σ [kr 12, ki a0] none τ) (σ : kM) (x1 : Int) {out : kM} (h : pf_Parser_takePart_12 rc σ x1 = some out) (hR : ∀ (τ : kM), out = τ → Q = kQ x none τ 0 0) : KW x 0 0 Q σ 0 [some (kr 12), some (ki x1)] [] := by
  unfold pf_Parser_takePart_12 at h
  refine kw_aload_n C (kdec dc_Parser_takePart 0 rfl) rfl 1 rfl rfl ?_
  refine kw_getR C (kdec dc_Parser_takePart 1 rfl) 4 rfl fd_C_Parser_40_12 ?_
  obtain ⟨r_1, hg_25, h⟩ := kbind_h h
  refine kw_callV (As := []) C (kdec dc_Parser_takePart 2 rfl) 7 rfl cv_Parser_76 rfl rfl (mt_pf_Tokens_kind_24 l0 hg_25) ⟨rfl, rfl⟩ ⟨rr_gP_f (Nat.le_of_ble_eq_true rfl) d, rr_gP_l (Nat.le_of_ble_eq_true rfl) d⟩ ⟨Nat.zero_le _, Nat.zero_le _⟩ rfl (Nat.le_of_ble_eq_true rfl) ?_
  change KW x 0 0 Q σ 7 [some (kr 12), some (ki x1)] [ki r_1]
  refine kw_iconst C (kdec dc_Parser_takePart 3 rfl) 8 rfl rfl ⟨by decide, by decide⟩ ?_
  refine kw_icmp_ne C (kdec dc_Parser_takePart 4 rfl) 32 11 (by decide) rfl (fun hc8 => ?_) (fun hc8 => ?_)
  · rw [if_neg hc8] at h
    refine kw_aload_n C (kdec dc_Parser_takePart 14 rfl) rfl 33 rfl rfl ?_
    refine kw_getR C (kdec dc_Parser_takePart 15 rfl) 36 rfl fd_C_Parser_40_12 ?_
    obtain ⟨r_2, hg_19, h⟩ := kbind_h h
    refine kw_callV (As := []) C (kdec dc_Parser_takePart 16 rfl) 39 rfl cv_Parser_76 rfl rfl (mt_pf_Tokens_kind_24 l0 hg_19) ⟨rfl, rfl⟩ ⟨rr_gP_f (Nat.le_of_ble_eq_true rfl) d, rr_gP_l (Nat.le_of_ble_eq_true rfl) d⟩ ⟨Nat.zero_le _, Nat.zero_le _⟩ rfl (Nat.le_of_ble_eq_true rfl) ?_
    change KW x 0 0 Q σ 39 [some (kr 12), some (ki x1)] [ki r_2]
    refine kw_iconst C (kdec dc_Parser_takePart 17 rfl) 40 rfl rfl ⟨by decide, by decide⟩ ?_
    refine kw_icmp_ne C (kdec dc_Parser_takePart 18 rfl) 50 43 (by decide) rfl (fun hc40 => ?_) (fun hc40 => ?_)
    · rw [if_neg hc40] at h
      refine kw_aload_n C (kdec dc_Parser_takePart 22 rfl) rfl 51 rfl rfl ?_
      refine kw_getR C (kdec dc_Parser_takePart 23 rfl) 54 rfl fd_C_Parser_40_12 ?_
      refine kw_bipush (v := 40) C (kdec dc_Parser_takePart 24 rfl) 56 rfl (by decide) ⟨by decide, by decide⟩ ?_
      obtain ⟨r_3, hg_16, h⟩ := kbind_h h
      refine kw_callV (As := [ki 40]) C (kdec dc_Parser_takePart 25 rfl) 59 rfl cv_Parser_155 rfl rfl (mt_pf_Tokens_isSign_24 l0 hg_16) ⟨rfl, rfl⟩ ⟨rr_gP_f (Nat.le_of_ble_eq_true rfl) d, rr_gP_l (Nat.le_of_ble_eq_true rfl) d⟩ ⟨Nat.zero_le _, Nat.zero_le _⟩ rfl (Nat.le_of_ble_eq_true rfl) ?_
      change KW x 0 0 Q σ 59 [some (kr 12), some (ki x1)] [ki r_3]
      refine kw_if_ne C (kdec dc_Parser_takePart 26 rfl) 70 62 (by decide) rfl (fun hc59 => ?_) (fun hc59 => ?_)
      · rw [if_neg hc59] at h
        refine kw_aload_n C (kdec dc_Parser_takePart 31 rfl) rfl 71 rfl rfl ?_
        refine kw_getR C (kdec dc_Parser_takePart 32 rfl) 74 rfl fd_C_Parser_40_12 ?_
        obtain ⟨σ_4, hg_13, h⟩ := kbind_h h
        refine kw_callV (As := []) C (kdec dc_Parser_takePart 33 rfl) 77 rfl cv_Parser_62 rfl rfl (mt_pf_Tokens_advance_24 l0 hg_13) ⟨rfl, rfl⟩ ⟨rr_gP_f (Nat.le_of_ble_eq_true rfl) d, rr_gP_l (Nat.le_of_ble_eq_true rfl) d⟩ ⟨Nat.zero_le _, Nat.zero_le _⟩ rfl (Nat.le_of_ble_eq_true rfl) ?_
        change KW x 0 0 Q σ_4 77 [some (kr 12), some (ki x1)] []
        refine kw_iload_n C (kdec dc_Parser_takePart 34 rfl) rfl 78 rfl rfl ?_
        refine kw_iconst C (kdec dc_Parser_takePart 35 rfl) 79 rfl rfl ⟨by decide, by decide⟩ ?_
        refine kw_icmp_ge C (kdec dc_Parser_takePart 36 rfl) 93 82 (by decide) rfl (fun hc79 => ?_) (fun hc79 => ?_)
        · rw [if_pos hc79] at h
          refine kw_aload_n C (kdec dc_Parser_takePart 44 rfl) rfl 94 rfl rfl ?_
          refine kw_aload_n C (kdec dc_Parser_takePart 45 rfl) rfl 95 rfl rfl ?_
          obtain ⟨r_5, hg_10, h⟩ := kbind_h h
          refine kw_callV (As := []) C (kdec dc_Parser_takePart 46 rfl) 98 rfl cv_Parser_205 rfl rfl (mt_pf_Parser_couldBePart_12 l0 hg_10) ⟨rfl, rfl⟩ ⟨rr_gP_f (Nat.le_of_ble_eq_true rfl) d, rr_gP_l (Nat.le_of_ble_eq_true rfl) d⟩ ⟨Nat.zero_le _, Nat.zero_le _⟩ rfl (Nat.le_of_ble_eq_true rfl) ?_
          change KW x 0 0 Q σ_4 98 [some (kr 12), some (ki x1)] [ki r_5, kr 12]
          refine kw_if_eq C (kdec dc_Parser_takePart 47 rfl) 105 101 (by decide) rfl (fun hc98 => ?_) (fun hc98 => ?_)
          · rw [if_pos hc98] at h
            refine kw_iconst C (kdec dc_Parser_takePart 50 rfl) 106 rfl rfl ⟨by decide, by decide⟩ ?_
            exact kw_sub (L' := [some (kr 12), none]) ⟨rfl, trivial⟩ (bd_pf_Parser_takePart_12_j106 rc C hrc0 hrc1 σ_4 1 h hR)
          · rw [if_neg hc98] at h
            refine kw_iconst C (kdec dc_Parser_takePart 48 rfl) 102 rfl rfl ⟨by decide, by decide⟩ ?_
            refine kw_goto C (kdec dc_Parser_takePart 49 rfl) 106 (by decide) ?_
            exact kw_sub (L' := [some (kr 12), none]) ⟨rfl, trivial⟩ (bd_pf_Parser_takePart_12_j106 rc C hrc0 hrc1 σ_4 2 h hR)
        · rw [if_neg hc79] at h
          refine kw_aload_n C (kdec dc_Parser_takePart 37 rfl) rfl 83 rfl rfl ?_
          refine kw_iconst C (kdec dc_Parser_takePart 38 rfl) 84 rfl rfl ⟨by decide, by decide⟩ ?_
          refine kw_iload_n C (kdec dc_Parser_takePart 39 rfl) rfl 85 rfl rfl ?_
          refine kw_iconst C (kdec dc_Parser_takePart 40 rfl) 86 rfl rfl ⟨by decide, by decide⟩ ?_
          refine kw_iadd C (kdec dc_Parser_takePart 41 rfl) 87 rfl ?_
          obtain ⟨σ_11, hg_12, h⟩ := kbind_h h
          refine kw_callV (As := [ki 0, ki (w32 (x1 + 1))]) C (kdec dc_Parser_takePart 42 rfl) 90 rfl cv_Parser_170 rfl rfl (hrc0 _ _ _ _ hg_12) ⟨rfl, rfl⟩ ⟨Nat.le_refl _, rr_gP_r d⟩ ⟨Nat.zero_le _, Nat.zero_le _⟩ rfl (Nat.le_of_ble_eq_true rfl) ?_
          change KW x 0 0 Q σ_11 90 [some (kr 12), some (ki x1)] []
          refine kw_goto C (kdec dc_Parser_takePart 43 rfl) 109 (by decide) ?_
          exact kw_sub (L' := [some (kr 12), none]) ⟨rfl, trivial⟩ (bd_pf_Parser_takePart_12_j109 rc C hrc0 hrc1 σ_11 h hR)
      · rw [if_pos hc59] at h
        refine kw_aload_n C (kdec dc_Parser_takePart 27 rfl) rfl 63 rfl rfl ?_
        refine kw_iconst C (kdec dc_Parser_takePart 28 rfl) 64 rfl rfl ⟨by decide, by decide⟩ ?_
        obtain ⟨σ_14, hg_15, h⟩ := kbind_h h
        refine kw_callV (As := [ki 1]) C (kdec dc_Parser_takePart 29 rfl) 67 rfl cv_Parser_110 rfl rfl (mt_pf_Parser_refuse_12 l0 hg_15) ⟨rfl, rfl⟩ ⟨rr_gP_f (Nat.le_of_ble_eq_true rfl) d, rr_gP_l (Nat.le_of_ble_eq_true rfl) d⟩ ⟨Nat.zero_le _, Nat.zero_le _⟩ rfl (Nat.le_of_ble_eq_true rfl) ?_
        change KW x 0 0 Q σ_14 67 [some (kr 12), some (ki x1)] []
        refine kw_goto C (kdec dc_Parser_takePart 30 rfl) 115 (by decide) ?_
        obtain rfl := Option.some.inj h
        exact kw_Q (hR _ rfl) (kw_return C (kdec dc_Parser_takePart 55 rfl))
    · rw [if_pos hc40] at h
      refine kw_aload_n C (kdec dc_Parser_takePart 19 rfl) rfl 44 rfl rfl ?_
      obtain ⟨σ_17, hg_18, h⟩ := kbind_h h
      refine kw_callV (As := []) C (kdec dc_Parser_takePart 20 rfl) 47 rfl cv_Parser_202 rfl rfl (mt_pf_Parser_takeValue_12 l0 hg_18) ⟨rfl, rfl⟩ ⟨rr_gP_f (Nat.le_of_ble_eq_true rfl) d, rr_gP_l (Nat.le_of_ble_eq_true rfl) d⟩ ⟨Nat.zero_le _, Nat.zero_le _⟩ rfl (Nat.le_of_ble_eq_true rfl) ?_
      change KW x 0 0 Q σ_17 47 [some (kr 12), some (ki x1)] []
      refine kw_goto C (kdec dc_Parser_takePart 21 rfl) 115 (by decide) ?_
      obtain rfl := Option.some.inj h
      exact kw_Q (hR _ rfl) (kw_return C (kdec dc_Parser_takePart 55 rfl))
  · rw [if_pos hc8] at h
    refine kw_aload_n C (kdec dc_Parser_takePart 5 rfl) rfl 12 rfl rfl ?_
    refine kw_getR C (kdec dc_Parser_takePart 6 rfl) 15 rfl fd_C_Parser_12_12 ?_
    refine kw_getR C (kdec dc_Parser_takePart 7 rfl) 18 rfl fd_C_Parser_159_13 ?_
    refine kw_aload_n C (kdec dc_Parser_takePart 8 rfl) rfl 19 rfl rfl ?_
    refine kw_iconst C (kdec dc_Parser_takePart 9 rfl) 20 rfl rfl ⟨by decide, by decide⟩ ?_
    refine kw_sipush (v := 9999) C (kdec dc_Parser_takePart 10 rfl) 23 rfl (by decide) ⟨by decide, by decide⟩ ?_
    obtain ⟨⟨r_20, σ_21⟩, hg_24, h⟩ := kbind_h h
    dsimp only at h
    refine kw_callV (As := [ki 0, ki 9999]) C (kdec dc_Parser_takePart 11 rfl) 26 rfl cv_Parser_65 rfl rfl (mt_pf_Parser_takeNumber_12 l0 hg_24) ⟨rfl, rfl⟩ ⟨rr_gP_f (Nat.le_of_ble_eq_true rfl) d, rr_gP_l (Nat.le_of_ble_eq_true rfl) d⟩ ⟨Nat.zero_le _, Nat.zero_le _⟩ rfl (Nat.le_of_ble_eq_true rfl) ?_
    change KW x 0 0 Q σ_21 26 [some (kr 12), some (ki x1)] [ki r_20, kr 17]
    obtain ⟨σ_22, hg_23, h⟩ := kbind_h h
    refine kw_callV (As := [ki r_20]) C (kdec dc_Parser_takePart 12 rfl) 29 rfl cv_Parser_186 rfl rfl (mt_pf_Rules_emit_17 l0 hg_23) ⟨rfl, rfl⟩ ⟨rr_gP_f (Nat.le_of_ble_eq_true rfl) d, rr_gP_l (Nat.le_of_ble_eq_true rfl) d⟩ ⟨Nat.zero_le _, Nat.zero_le _⟩ rfl (Nat.le_of_ble_eq_true rfl) ?_
    change KW x 0 0 Q σ_22 29 [some (kr 12), some (ki x1)] []
    refine kw_goto C (kdec dc_Parser_takePart 13 rfl) 115 (by decide) ?_
    obtain rfl := Option.some.inj h
    exact kw_Q (hR _ rfl) (kw_return C (kdec dc_Parser_takePart 55 rfl))
def pf_gP : Nat → Nat → kM → Int → Int → Option kM
  | 0, _, _, _, _ => none
  | d + 1, sel, σ, x0, x1 =>
    if sel = 0 then pf_Parser_takeLevel_12 (pf_gP d) σ x0 x1 else
    pf_Parser_takePart_12 (pf_gP d) σ x0
theorem mg_gP (l0 : Launch) : ∀ d : Nat, (∀ (σ τ : kM) (a0 : Int) (a1 : Int), pf_gP d 0 σ a0 a1 = some τ → kMet l0 ky_Parser_takeLevel prog_6_method_11_code 7 none (Rr_gP d) kcl yC σ [kr 12, ki a0, ki a1] none τ) ∧ (∀ (σ τ : kM) (a0 : Int), pf_gP d 1 σ a0 0 = some τ → kMet l0 ky_Parser_takePart prog_6_method_15_code 2 none (Rr_gP d) kcl yC σ [kr 12, ki a0] none τ) := by
  intro d
  induction d with
  | zero => exact ⟨(fun _ _ _ _ h => by cases h), (fun _ _ _ h => by cases h)⟩
  | succ d ih =>
    refine ⟨?_, ?_⟩
    · intro σ τ a0 a1 h
      have h : pf_Parser_takeLevel_12 (pf_gP d) σ a0 a1 = some τ := h
      exact kMet.of' [some (kr 12), some (ki a0), some (ki a1), none, none, none, none] (by decide) (Nat.le_of_ble_eq_true rfl) ⟨rfl, rfl, rfl, trivial⟩ (fun x C => bd_pf_Parser_takeLevel_12 (pf_gP d) C ih.1 ih.2 σ a0 a1 h (fun τ e => by subst e; rfl))
    · intro σ τ a0 h
      have h : pf_Parser_takePart_12 (pf_gP d) σ a0 = some τ := h
      exact kMet.of' [some (kr 12), some (ki a0)] (by decide) (Nat.le_of_ble_eq_true rfl) ⟨rfl, rfl, trivial⟩ (fun x C => bd_pf_Parser_takePart_12 (pf_gP d) C ih.1 ih.2 σ a0 h (fun τ e => by subst e; rfl))
theorem mt_gP_0 (l0 : Launch) {σ τ : kM} {a0 : Int} {a1 : Int} (h : pf_gP 80 0 σ a0 a1 = some τ) : kMet l0 ky_Parser_takeLevel prog_6_method_11_code 7 none (Rr_gP 80) kcl yC σ [kr 12, ki a0, ki a1] none τ := (mg_gP l0 80).1 _ _ _ _ h
theorem mt_gP_1 (l0 : Launch) {σ τ : kM} {a0 : Int} (h : pf_gP 80 1 σ a0 0 = some τ) : kMet l0 ky_Parser_takePart prog_6_method_15_code 2 none (Rr_gP 80) kcl yC σ [kr 12, ki a0] none τ := (mg_gP l0 80).2 _ _ _ h
def R0_pf_Rules_end_17 : Room := ({ frames := 0, cells := 0, slots := 0, locals := 0 } : Room)
def pf_Rules_end_17 (σ : kM) (x1 : Int) : Option (kM) :=
  kchk (0 ≤ x1 ∧ x1 < 3) <|
  klet (kst σ 20 (kup (σ 20) x1.toNat (σ 17 1))) fun σ_2 =>
  some σ_2
set_option maxHeartbeats 4000000 in
theorem bd_pf_Rules_end_17 {x : kX} {l0 : Launch} {Q : State → Prop} (C : kCx x prog_7_method_8_code "PoetFines$Rules" none kcl yC 2 l0 R0_pf_Rules_end_17) (σ : kM) (x1 : Int) {out : kM} (h : pf_Rules_end_17 σ x1 = some out) (hR : ∀ (τ : kM), out = τ → Q = kQ x none τ 0 0) : KW x 0 0 Q σ 0 [some (kr 17), some (ki x1)] [] := by
  unfold pf_Rules_end_17 at h
  refine kw_aload_n C (kdec dc_Rules_end 0 rfl) rfl 1 rfl rfl ?_
  refine kw_getR C (kdec dc_Rules_end 1 rfl) 4 rfl fd_C_Rules_22_17 ?_
  refine kw_iload_n C (kdec dc_Rules_end 2 rfl) rfl 5 rfl rfl ?_
  refine kw_aload_n C (kdec dc_Rules_end 3 rfl) rfl 6 rfl rfl ?_
  refine kw_getI C (kdec dc_Rules_end 4 rfl) 9 rfl fd_C_Rules_15_17 ?_
  obtain ⟨hc_1, h⟩ := kchk_h h
  obtain ⟨σ_2, eσ_2, h⟩ := klet_h h
  refine kw_iast C (kdec dc_Rules_end 5 rfl) 10 rfl rfl hc_1.1 hc_1.2 ?_
  refine kw_sig eσ_2 ?_
  obtain rfl := Option.some.inj h
  exact kw_Q (hR _ rfl) (kw_return C (kdec dc_Rules_end 6 rfl))
theorem mt_pf_Rules_end_17 (l0 : Launch) {σ : kM} {x1 : Int} {τ : kM} (h : pf_Rules_end_17 σ x1 = some τ) : kMet l0 ky_Rules_end prog_7_method_8_code 2 none R0_pf_Rules_end_17 kcl yC σ [kr 17, ki x1] none τ := kMet.of' [some (kr 17), some (ki x1)] (by decide) (Nat.le_of_ble_eq_true rfl) ⟨rfl, rfl, trivial⟩ (fun x C => bd_pf_Rules_end_17 C σ x1 h (fun τ e => by subst e; rfl))
def R0_pf_Parser_takeRule_12 : Room := ({ frames := 85, cells := 0, slots := 0, locals := 2172 } : Room)
def pf_Parser_takeRule_12 (σ : kM) (x1 : Int) : Option (kM) :=
  (pf_Rules_has_17 σ x1).bind fun r_1 =>
  if r_1 = 0 then
    klet (kst σ 12 (kup (σ 12) 4 x1)) fun σ_2 =>
    (pf_Tokens_advance_24 σ_2).bind fun σ_3 =>
    (pf_Rules_begin_17 σ_3 (σ_3 12 4)).bind fun σ_4 =>
    (pf_gP 80 0 σ_4 0 0).bind fun σ_5 =>
    (pf_Rules_end_17 σ_5 (σ_5 12 4)).bind fun σ_6 =>
    (pf_Parser_takeSign_12 σ_6 59).bind fun σ_7 =>
    some σ_7
  else
    (pf_Parser_refuse_12 σ 5).bind fun σ_13 =>
    some σ_13
set_option maxHeartbeats 4000000 in
theorem bd_pf_Parser_takeRule_12 {x : kX} {l0 : Launch} {Q : State → Prop} (C : kCx x prog_6_method_10_code "PoetFines$Parser" none kcl yC 2 l0 R0_pf_Parser_takeRule_12) (σ : kM) (x1 : Int) {out : kM} (h : pf_Parser_takeRule_12 σ x1 = some out) (hR : ∀ (τ : kM), out = τ → Q = kQ x none τ 0 0) : KW x 0 0 Q σ 0 [some (kr 12), some (ki x1)] [] := by
  unfold pf_Parser_takeRule_12 at h
  refine kw_aload_n C (kdec dc_Parser_takeRule 0 rfl) rfl 1 rfl rfl ?_
  refine kw_getR C (kdec dc_Parser_takeRule 1 rfl) 4 rfl fd_C_Parser_12_12 ?_
  refine kw_getR C (kdec dc_Parser_takeRule 2 rfl) 7 rfl fd_C_Parser_159_13 ?_
  refine kw_iload_n C (kdec dc_Parser_takeRule 3 rfl) rfl 8 rfl rfl ?_
  obtain ⟨r_1, hg_15, h⟩ := kbind_h h
  refine kw_callV (As := [ki x1]) C (kdec dc_Parser_takeRule 4 rfl) 11 rfl cv_Parser_163 rfl rfl (mt_pf_Rules_has_17 l0 hg_15) ⟨rfl, rfl⟩ ⟨Nat.le_of_ble_eq_true rfl, Nat.le_of_ble_eq_true rfl⟩ ⟨Nat.zero_le _, Nat.zero_le _⟩ rfl (Nat.le_of_ble_eq_true rfl) ?_
  change KW x 0 0 Q σ 11 [some (kr 12), some (ki x1)] [ki r_1]
  refine kw_if_eq C (kdec dc_Parser_takeRule 5 rfl) 20 14 (by decide) rfl (fun hc11 => ?_) (fun hc11 => ?_)
  · rw [if_pos hc11] at h
    refine kw_aload_n C (kdec dc_Parser_takeRule 10 rfl) rfl 21 rfl rfl ?_
    refine kw_iload_n C (kdec dc_Parser_takeRule 11 rfl) rfl 22 rfl rfl ?_
    obtain ⟨σ_2, eσ_2, h⟩ := klet_h h
    refine kw_putI C (kdec dc_Parser_takeRule 12 rfl) 25 rfl fp_C_Parser_32_12 ?_
    refine kw_sig eσ_2 ?_
    refine kw_aload_n C (kdec dc_Parser_takeRule 13 rfl) rfl 26 rfl rfl ?_
    refine kw_getR C (kdec dc_Parser_takeRule 14 rfl) 29 rfl fd_C_Parser_40_12 ?_
    obtain ⟨σ_3, hg_12, h⟩ := kbind_h h
    refine kw_callV (As := []) C (kdec dc_Parser_takeRule 15 rfl) 32 rfl cv_Parser_62 rfl rfl (mt_pf_Tokens_advance_24 l0 hg_12) ⟨rfl, rfl⟩ ⟨Nat.le_of_ble_eq_true rfl, Nat.le_of_ble_eq_true rfl⟩ ⟨Nat.zero_le _, Nat.zero_le _⟩ rfl (Nat.le_of_ble_eq_true rfl) ?_
    change KW x 0 0 Q σ_3 32 [some (kr 12), some (ki x1)] []
    refine kw_aload_n C (kdec dc_Parser_takeRule 16 rfl) rfl 33 rfl rfl ?_
    refine kw_getR C (kdec dc_Parser_takeRule 17 rfl) 36 rfl fd_C_Parser_12_12 ?_
    refine kw_getR C (kdec dc_Parser_takeRule 18 rfl) 39 rfl fd_C_Parser_159_13 ?_
    refine kw_aload_n C (kdec dc_Parser_takeRule 19 rfl) rfl 40 rfl rfl ?_
    refine kw_getI C (kdec dc_Parser_takeRule 20 rfl) 43 rfl fd_C_Parser_32_12 ?_
    obtain ⟨σ_4, hg_11, h⟩ := kbind_h h
    refine kw_callV (As := [ki (σ_3 12 4)]) C (kdec dc_Parser_takeRule 21 rfl) 46 rfl cv_Parser_167 rfl rfl (mt_pf_Rules_begin_17 l0 hg_11) ⟨rfl, rfl⟩ ⟨Nat.le_of_ble_eq_true rfl, Nat.le_of_ble_eq_true rfl⟩ ⟨Nat.zero_le _, Nat.zero_le _⟩ rfl (Nat.le_of_ble_eq_true rfl) ?_
    change KW x 0 0 Q σ_4 46 [some (kr 12), some (ki x1)] []
    refine kw_aload_n C (kdec dc_Parser_takeRule 22 rfl) rfl 47 rfl rfl ?_
    refine kw_iconst C (kdec dc_Parser_takeRule 23 rfl) 48 rfl rfl ⟨by decide, by decide⟩ ?_
    refine kw_iconst C (kdec dc_Parser_takeRule 24 rfl) 49 rfl rfl ⟨by decide, by decide⟩ ?_
    obtain ⟨σ_5, hg_10, h⟩ := kbind_h h
    refine kw_callV (As := [ki 0, ki 0]) C (kdec dc_Parser_takeRule 25 rfl) 52 rfl cv_Parser_170 rfl rfl (mt_gP_0 l0 hg_10) ⟨rfl, rfl⟩ ⟨Nat.le_of_ble_eq_true rfl, Nat.le_of_ble_eq_true rfl⟩ ⟨Nat.zero_le _, Nat.zero_le _⟩ rfl (Nat.le_of_ble_eq_true rfl) ?_
    change KW x 0 0 Q σ_5 52 [some (kr 12), some (ki x1)] []
    refine kw_aload_n C (kdec dc_Parser_takeRule 26 rfl) rfl 53 rfl rfl ?_
    refine kw_getR C (kdec dc_Parser_takeRule 27 rfl) 56 rfl fd_C_Parser_12_12 ?_
    refine kw_getR C (kdec dc_Parser_takeRule 28 rfl) 59 rfl fd_C_Parser_159_13 ?_
    refine kw_aload_n C (kdec dc_Parser_takeRule 29 rfl) rfl 60 rfl rfl ?_
    refine kw_getI C (kdec dc_Parser_takeRule 30 rfl) 63 rfl fd_C_Parser_32_12 ?_
    obtain ⟨σ_6, hg_9, h⟩ := kbind_h h
    refine kw_callV (As := [ki (σ_5 12 4)]) C (kdec dc_Parser_takeRule 31 rfl) 66 rfl cv_Parser_173 rfl rfl (mt_pf_Rules_end_17 l0 hg_9) ⟨rfl, rfl⟩ ⟨Nat.le_of_ble_eq_true rfl, Nat.le_of_ble_eq_true rfl⟩ ⟨Nat.zero_le _, Nat.zero_le _⟩ rfl (Nat.le_of_ble_eq_true rfl) ?_
    change KW x 0 0 Q σ_6 66 [some (kr 12), some (ki x1)] []
    refine kw_aload_n C (kdec dc_Parser_takeRule 32 rfl) rfl 67 rfl rfl ?_
    refine kw_bipush (v := 59) C (kdec dc_Parser_takeRule 33 rfl) 69 rfl (by decide) ⟨by decide, by decide⟩ ?_
    obtain ⟨σ_7, hg_8, h⟩ := kbind_h h
    refine kw_callV (As := [ki 59]) C (kdec dc_Parser_takeRule 34 rfl) 72 rfl cv_Parser_72 rfl rfl (mt_pf_Parser_takeSign_12 l0 hg_8) ⟨rfl, rfl⟩ ⟨Nat.le_of_ble_eq_true rfl, Nat.le_of_ble_eq_true rfl⟩ ⟨Nat.zero_le _, Nat.zero_le _⟩ rfl (Nat.le_of_ble_eq_true rfl) ?_
    change KW x 0 0 Q σ_7 72 [some (kr 12), some (ki x1)] []
    obtain rfl := Option.some.inj h
    exact kw_Q (hR _ rfl) (kw_return C (kdec dc_Parser_takeRule 35 rfl))
  · rw [if_neg hc11] at h
    refine kw_aload_n C (kdec dc_Parser_takeRule 6 rfl) rfl 15 rfl rfl ?_
    refine kw_iconst C (kdec dc_Parser_takeRule 7 rfl) 16 rfl rfl ⟨by decide, by decide⟩ ?_
    obtain ⟨σ_13, hg_14, h⟩ := kbind_h h
    refine kw_callV (As := [ki 5]) C (kdec dc_Parser_takeRule 8 rfl) 19 rfl cv_Parser_110 rfl rfl (mt_pf_Parser_refuse_12 l0 hg_14) ⟨rfl, rfl⟩ ⟨Nat.le_of_ble_eq_true rfl, Nat.le_of_ble_eq_true rfl⟩ ⟨Nat.zero_le _, Nat.zero_le _⟩ rfl (Nat.le_of_ble_eq_true rfl) ?_
    change KW x 0 0 Q σ_13 19 [some (kr 12), some (ki x1)] []
    obtain rfl := Option.some.inj h
    exact kw_Q (hR _ rfl) (kw_return C (kdec dc_Parser_takeRule 9 rfl))
theorem mt_pf_Parser_takeRule_12 (l0 : Launch) {σ : kM} {x1 : Int} {τ : kM} (h : pf_Parser_takeRule_12 σ x1 = some τ) : kMet l0 ky_Parser_takeRule prog_6_method_10_code 2 none R0_pf_Parser_takeRule_12 kcl yC σ [kr 12, ki x1] none τ := kMet.of' [some (kr 12), some (ki x1)] (by decide) (Nat.le_of_ble_eq_true rfl) ⟨rfl, rfl, trivial⟩ (fun x C => bd_pf_Parser_takeRule_12 C σ x1 h (fun τ e => by subst e; rfl))
def R0_pf_Parser_takeTopic_12 : Room := ({ frames := 3, cells := 0, slots := 0, locals := 64 } : Room)
def pf_Parser_takeTopic_12_j56 (σ : kM) : Option (Int × kM) :=
  (pf_Parser_takeNumber_12 σ 0 (w32 ((σ 13 0) - 1))).bind fun (r_2, σ_3) =>
  some ((r_2, σ_3))
set_option maxHeartbeats 4000000 in
theorem bd_pf_Parser_takeTopic_12_j56 {x : kX} {l0 : Launch} {Q : State → Prop} (C : kCx x prog_6_method_7_code "PoetFines$Parser" (some .int) kcl yC 2 l0 R0_pf_Parser_takeTopic_12) (σ : kM) {out : Int × kM} (h : pf_Parser_takeTopic_12_j56 σ = some out) (hR : ∀ (r : Int) (τ : kM), out = (r, τ) → Q = kQ x (some (ki r)) τ 0 0) : KW x 0 0 Q σ 56 [some (kr 12), none] [] := by
  unfold pf_Parser_takeTopic_12_j56 at h
  refine kw_aload_n C (kdec dc_Parser_takeTopic 28 rfl) rfl 57 rfl rfl ?_
  refine kw_iconst C (kdec dc_Parser_takeTopic 29 rfl) 58 rfl rfl ⟨by decide, by decide⟩ ?_
  refine kw_aload_n C (kdec dc_Parser_takeTopic 30 rfl) rfl 59 rfl rfl ?_
  refine kw_getR C (kdec dc_Parser_takeTopic 31 rfl) 62 rfl fd_C_Parser_12_12 ?_
  refine kw_getI C (kdec dc_Parser_takeTopic 32 rfl) 65 rfl fd_C_Parser_69_13 ?_
  refine kw_iconst C (kdec dc_Parser_takeTopic 33 rfl) 66 rfl rfl ⟨by decide, by decide⟩ ?_
  refine kw_isub C (kdec dc_Parser_takeTopic 34 rfl) 67 rfl ?_
  obtain ⟨⟨r_2, σ_3⟩, hg_4, h⟩ := kbind_h h
  dsimp only at h
  refine kw_callV (As := [ki 0, ki (w32 ((σ 13 0) - 1))]) C (kdec dc_Parser_takeTopic 35 rfl) 70 rfl cv_Parser_65 rfl rfl (mt_pf_Parser_takeNumber_12 l0 hg_4) ⟨rfl, rfl⟩ ⟨Nat.le_of_ble_eq_true rfl, Nat.le_of_ble_eq_true rfl⟩ ⟨Nat.zero_le _, Nat.zero_le _⟩ rfl (Nat.le_of_ble_eq_true rfl) ?_
  change KW x 0 0 Q σ_3 70 [some (kr 12), none] [ki r_2]
  obtain rfl := Option.some.inj h
  exact kw_Q (hR _ _ rfl) (kw_ireturn C (kdec dc_Parser_takeTopic 36 rfl))
def pf_Parser_takeTopic_12_j27 (σ : kM) (s0 : Int) : Option (Int × kM) :=
  if s0 = 0 then
    pf_Parser_takeTopic_12_j56 σ
  else
    (pf_Tokens_number_24 σ).bind fun r_5 =>
    if r_5 < (σ 13 0) then
      pf_Parser_takeTopic_12_j56 σ
    else
      (pf_Parser_refuse_12 σ 3).bind fun σ_6 =>
      some ((0, σ_6))
set_option maxHeartbeats 4000000 in
theorem bd_pf_Parser_takeTopic_12_j27 {x : kX} {l0 : Launch} {Q : State → Prop} (C : kCx x prog_6_method_7_code "PoetFines$Parser" (some .int) kcl yC 2 l0 R0_pf_Parser_takeTopic_12) (σ : kM) (s0 : Int) {out : Int × kM} (h : pf_Parser_takeTopic_12_j27 σ s0 = some out) (hR : ∀ (r : Int) (τ : kM), out = (r, τ) → Q = kQ x (some (ki r)) τ 0 0) : KW x 0 0 Q σ 27 [some (kr 12), none] [ki s0] := by
  unfold pf_Parser_takeTopic_12_j27 at h
  refine kw_istore_n (L' := [some (kr 12), some (ki s0)]) C (kdec dc_Parser_takeTopic 13 rfl) rfl 28 rfl (by decide) rfl rfl ?_
  refine kw_iload_n C (kdec dc_Parser_takeTopic 14 rfl) rfl 29 rfl rfl ?_
  refine kw_if_eq C (kdec dc_Parser_takeTopic 15 rfl) 56 32 (by decide) rfl (fun hc29 => ?_) (fun hc29 => ?_)
  · rw [if_pos hc29] at h
    exact kw_sub (L' := [some (kr 12), none]) ⟨rfl, trivial⟩ (bd_pf_Parser_takeTopic_12_j56 C σ h hR)
  · rw [if_neg hc29] at h
    refine kw_aload_n C (kdec dc_Parser_takeTopic 16 rfl) rfl 33 rfl rfl ?_
    refine kw_getR C (kdec dc_Parser_takeTopic 17 rfl) 36 rfl fd_C_Parser_40_12 ?_
    obtain ⟨r_5, hg_8, h⟩ := kbind_h h
    refine kw_callV (As := []) C (kdec dc_Parser_takeTopic 18 rfl) 39 rfl cv_Parser_152 rfl rfl (mt_pf_Tokens_number_24 l0 hg_8) ⟨rfl, rfl⟩ ⟨Nat.le_of_ble_eq_true rfl, Nat.le_of_ble_eq_true rfl⟩ ⟨Nat.zero_le _, Nat.zero_le _⟩ rfl (Nat.le_of_ble_eq_true rfl) ?_
    change KW x 0 0 Q σ 39 [some (kr 12), some (ki s0)] [ki r_5]
    refine kw_aload_n C (kdec dc_Parser_takeTopic 19 rfl) rfl 40 rfl rfl ?_
    refine kw_getR C (kdec dc_Parser_takeTopic 20 rfl) 43 rfl fd_C_Parser_12_12 ?_
    refine kw_getI C (kdec dc_Parser_takeTopic 21 rfl) 46 rfl fd_C_Parser_69_13 ?_
    refine kw_icmp_lt C (kdec dc_Parser_takeTopic 22 rfl) 56 49 (by decide) rfl (fun hc46 => ?_) (fun hc46 => ?_)
    · rw [if_pos hc46] at h
      exact kw_sub (L' := [some (kr 12), none]) ⟨rfl, trivial⟩ (bd_pf_Parser_takeTopic_12_j56 C σ h hR)
    · rw [if_neg hc46] at h
      refine kw_aload_n C (kdec dc_Parser_takeTopic 23 rfl) rfl 50 rfl rfl ?_
      refine kw_iconst C (kdec dc_Parser_takeTopic 24 rfl) 51 rfl rfl ⟨by decide, by decide⟩ ?_
      obtain ⟨σ_6, hg_7, h⟩ := kbind_h h
      refine kw_callV (As := [ki 3]) C (kdec dc_Parser_takeTopic 25 rfl) 54 rfl cv_Parser_110 rfl rfl (mt_pf_Parser_refuse_12 l0 hg_7) ⟨rfl, rfl⟩ ⟨Nat.le_of_ble_eq_true rfl, Nat.le_of_ble_eq_true rfl⟩ ⟨Nat.zero_le _, Nat.zero_le _⟩ rfl (Nat.le_of_ble_eq_true rfl) ?_
      change KW x 0 0 Q σ_6 54 [some (kr 12), some (ki s0)] []
      refine kw_iconst C (kdec dc_Parser_takeTopic 26 rfl) 55 rfl rfl ⟨by decide, by decide⟩ ?_
      obtain rfl := Option.some.inj h
      exact kw_Q (hR _ _ rfl) (kw_ireturn C (kdec dc_Parser_takeTopic 27 rfl))
def pf_Parser_takeTopic_12_j26 (σ : kM) : Option (Int × kM) :=
  pf_Parser_takeTopic_12_j27 σ 0
set_option maxHeartbeats 4000000 in
theorem bd_pf_Parser_takeTopic_12_j26 {x : kX} {l0 : Launch} {Q : State → Prop} (C : kCx x prog_6_method_7_code "PoetFines$Parser" (some .int) kcl yC 2 l0 R0_pf_Parser_takeTopic_12) (σ : kM) {out : Int × kM} (h : pf_Parser_takeTopic_12_j26 σ = some out) (hR : ∀ (r : Int) (τ : kM), out = (r, τ) → Q = kQ x (some (ki r)) τ 0 0) : KW x 0 0 Q σ 26 [some (kr 12), none] [] := by
  unfold pf_Parser_takeTopic_12_j26 at h
  refine kw_iconst C (kdec dc_Parser_takeTopic 12 rfl) 27 rfl rfl ⟨by decide, by decide⟩ ?_
  exact bd_pf_Parser_takeTopic_12_j27 C σ 0 h hR
def pf_Parser_takeTopic_12 (σ : kM) : Option (Int × kM) :=
  (pf_Tokens_kind_24 σ).bind fun r_1 =>
  if r_1 = 1 then
    (pf_Tokens_length_24 σ).bind fun r_9 =>
    if 4 < r_9 then
      pf_Parser_takeTopic_12_j26 σ
    else
      pf_Parser_takeTopic_12_j27 σ 1
  else
    pf_Parser_takeTopic_12_j26 σ
set_option maxHeartbeats 4000000 in
theorem bd_pf_Parser_takeTopic_12 {x : kX} {l0 : Launch} {Q : State → Prop} (C : kCx x prog_6_method_7_code "PoetFines$Parser" (some .int) kcl yC 2 l0 R0_pf_Parser_takeTopic_12) (σ : kM) {out : Int × kM} (h : pf_Parser_takeTopic_12 σ = some out) (hR : ∀ (r : Int) (τ : kM), out = (r, τ) → Q = kQ x (some (ki r)) τ 0 0) : KW x 0 0 Q σ 0 [some (kr 12), none] [] := by
  unfold pf_Parser_takeTopic_12 at h
  refine kw_aload_n C (kdec dc_Parser_takeTopic 0 rfl) rfl 1 rfl rfl ?_
  refine kw_getR C (kdec dc_Parser_takeTopic 1 rfl) 4 rfl fd_C_Parser_40_12 ?_
  obtain ⟨r_1, hg_11, h⟩ := kbind_h h
  refine kw_callV (As := []) C (kdec dc_Parser_takeTopic 2 rfl) 7 rfl cv_Parser_76 rfl rfl (mt_pf_Tokens_kind_24 l0 hg_11) ⟨rfl, rfl⟩ ⟨Nat.le_of_ble_eq_true rfl, Nat.le_of_ble_eq_true rfl⟩ ⟨Nat.zero_le _, Nat.zero_le _⟩ rfl (Nat.le_of_ble_eq_true rfl) ?_
  change KW x 0 0 Q σ 7 [some (kr 12), none] [ki r_1]
  refine kw_iconst C (kdec dc_Parser_takeTopic 3 rfl) 8 rfl rfl ⟨by decide, by decide⟩ ?_
  refine kw_icmp_ne C (kdec dc_Parser_takeTopic 4 rfl) 26 11 (by decide) rfl (fun hc8 => ?_) (fun hc8 => ?_)
  · rw [if_neg hc8] at h
    exact bd_pf_Parser_takeTopic_12_j26 C σ h hR
  · rw [if_pos hc8] at h
    refine kw_aload_n C (kdec dc_Parser_takeTopic 5 rfl) rfl 12 rfl rfl ?_
    refine kw_getR C (kdec dc_Parser_takeTopic 6 rfl) 15 rfl fd_C_Parser_40_12 ?_
    obtain ⟨r_9, hg_10, h⟩ := kbind_h h
    refine kw_callV (As := []) C (kdec dc_Parser_takeTopic 7 rfl) 18 rfl cv_Parser_149 rfl rfl (mt_pf_Tokens_length_24 l0 hg_10) ⟨rfl, rfl⟩ ⟨Nat.le_of_ble_eq_true rfl, Nat.le_of_ble_eq_true rfl⟩ ⟨Nat.zero_le _, Nat.zero_le _⟩ rfl (Nat.le_of_ble_eq_true rfl) ?_
    change KW x 0 0 Q σ 18 [some (kr 12), none] [ki r_9]
    refine kw_iconst C (kdec dc_Parser_takeTopic 8 rfl) 19 rfl rfl ⟨by decide, by decide⟩ ?_
    refine kw_icmp_gt C (kdec dc_Parser_takeTopic 9 rfl) 26 22 (by decide) rfl (fun hc19 => ?_) (fun hc19 => ?_)
    · rw [if_pos hc19] at h
      exact bd_pf_Parser_takeTopic_12_j26 C σ h hR
    · rw [if_neg hc19] at h
      refine kw_iconst C (kdec dc_Parser_takeTopic 10 rfl) 23 rfl rfl ⟨by decide, by decide⟩ ?_
      refine kw_goto C (kdec dc_Parser_takeTopic 11 rfl) 27 (by decide) ?_
      exact bd_pf_Parser_takeTopic_12_j27 C σ 1 h hR
theorem mt_pf_Parser_takeTopic_12 (l0 : Launch) {σ : kM} {r : Int} {τ : kM} (h : pf_Parser_takeTopic_12 σ = some (r, τ)) : kMet l0 ky_Parser_takeTopic prog_6_method_7_code 2 (some .int) R0_pf_Parser_takeTopic_12 kcl yC σ [kr 12] (some (ki r)) τ := kMet.of' [some (kr 12), none] (by decide) (Nat.le_of_ble_eq_true rfl) ⟨rfl, trivial⟩ (fun x C => bd_pf_Parser_takeTopic_12 C σ h (fun r τ e => by cases e; rfl))
def R0_pf_Law_addLine_13 : Room := ({ frames := 0, cells := 0, slots := 0, locals := 0 } : Room)
def pf_Law_addLine_13 (σ : kM) (x1 : Int) (x2 : Int) : Option (kM) :=
  kchk (0 ≤ x1 ∧ x1 < 4) <|
  if 6 ≤ (σ 14 x1.toNat) then
    some σ
  else
    kchk (0 ≤ x1 ∧ x1 < 4) <|
    kchk (0 ≤ (w32 ((w32 (x1 * 6)) + (σ 14 x1.toNat))) ∧ (w32 ((w32 (x1 * 6)) + (σ 14 x1.toNat))) < 24) <|
    klet (kst σ 16 (kup (σ 16) ((w32 ((w32 (x1 * 6)) + (σ 14 x1.toNat))).toNat) x2)) fun σ_4 =>
    kchk (0 ≤ x1 ∧ x1 < 4) <|
    kchk (0 ≤ x1 ∧ x1 < 4) <|
    klet (kst σ_4 14 (kup (σ_4 14) x1.toNat (w32 ((σ_4 14 x1.toNat) + 1)))) fun σ_7 =>
    some σ_7
set_option maxHeartbeats 4000000 in
theorem bd_pf_Law_addLine_13 {x : kX} {l0 : Launch} {Q : State → Prop} (C : kCx x prog_4_method_4_code "PoetFines$Law" none kcl yC 3 l0 R0_pf_Law_addLine_13) (σ : kM) (x1 : Int) (x2 : Int) {out : kM} (h : pf_Law_addLine_13 σ x1 x2 = some out) (hR : ∀ (τ : kM), out = τ → Q = kQ x none τ 0 0) : KW x 0 0 Q σ 0 [some (kr 13), some (ki x1), some (ki x2)] [] := by
  unfold pf_Law_addLine_13 at h
  refine kw_aload_n C (kdec dc_Law_addLine 0 rfl) rfl 1 rfl rfl ?_
  refine kw_getR C (kdec dc_Law_addLine 1 rfl) 4 rfl fd_C_Law_21_13 ?_
  refine kw_iload_n C (kdec dc_Law_addLine 2 rfl) rfl 5 rfl rfl ?_
  obtain ⟨hc_1, h⟩ := kchk_h h
  refine kw_iald C (kdec dc_Law_addLine 3 rfl) 6 rfl rfl hc_1.1 hc_1.2 ?_
  refine kw_bipush (v := 6) C (kdec dc_Law_addLine 4 rfl) 8 rfl (by decide) ⟨by decide, by decide⟩ ?_
  refine kw_icmp_ge C (kdec dc_Law_addLine 5 rfl) 38 11 (by decide) rfl (fun hc8 => ?_) (fun hc8 => ?_)
  · rw [if_pos hc8] at h
    obtain rfl := Option.some.inj h
    exact kw_Q (hR _ rfl) (kw_return C (kdec dc_Law_addLine 26 rfl))
  · rw [if_neg hc8] at h
    refine kw_aload_n C (kdec dc_Law_addLine 6 rfl) rfl 12 rfl rfl ?_
    refine kw_getR C (kdec dc_Law_addLine 7 rfl) 15 rfl fd_C_Law_28_13 ?_
    refine kw_iload_n C (kdec dc_Law_addLine 8 rfl) rfl 16 rfl rfl ?_
    refine kw_bipush (v := 6) C (kdec dc_Law_addLine 9 rfl) 18 rfl (by decide) ⟨by decide, by decide⟩ ?_
    refine kw_imul C (kdec dc_Law_addLine 10 rfl) 19 rfl ?_
    refine kw_aload_n C (kdec dc_Law_addLine 11 rfl) rfl 20 rfl rfl ?_
    refine kw_getR C (kdec dc_Law_addLine 12 rfl) 23 rfl fd_C_Law_21_13 ?_
    refine kw_iload_n C (kdec dc_Law_addLine 13 rfl) rfl 24 rfl rfl ?_
    obtain ⟨hc_2, h⟩ := kchk_h h
    refine kw_iald C (kdec dc_Law_addLine 14 rfl) 25 rfl rfl hc_2.1 hc_2.2 ?_
    refine kw_iadd C (kdec dc_Law_addLine 15 rfl) 26 rfl ?_
    refine kw_iload_n C (kdec dc_Law_addLine 16 rfl) rfl 27 rfl rfl ?_
    obtain ⟨hc_3, h⟩ := kchk_h h
    obtain ⟨σ_4, eσ_4, h⟩ := klet_h h
    refine kw_iast C (kdec dc_Law_addLine 17 rfl) 28 rfl rfl hc_3.1 hc_3.2 ?_
    refine kw_sig eσ_4 ?_
    refine kw_aload_n C (kdec dc_Law_addLine 18 rfl) rfl 29 rfl rfl ?_
    refine kw_getR C (kdec dc_Law_addLine 19 rfl) 32 rfl fd_C_Law_21_13 ?_
    refine kw_iload_n C (kdec dc_Law_addLine 20 rfl) rfl 33 rfl rfl ?_
    refine kw_dup2 C (kdec dc_Law_addLine 21 rfl) 34 rfl rfl rfl ?_
    obtain ⟨hc_5, h⟩ := kchk_h h
    refine kw_iald C (kdec dc_Law_addLine 22 rfl) 35 rfl rfl hc_5.1 hc_5.2 ?_
    refine kw_iconst C (kdec dc_Law_addLine 23 rfl) 36 rfl rfl ⟨by decide, by decide⟩ ?_
    refine kw_iadd C (kdec dc_Law_addLine 24 rfl) 37 rfl ?_
    obtain ⟨hc_6, h⟩ := kchk_h h
    obtain ⟨σ_7, eσ_7, h⟩ := klet_h h
    refine kw_iast C (kdec dc_Law_addLine 25 rfl) 38 rfl rfl hc_6.1 hc_6.2 ?_
    refine kw_sig eσ_7 ?_
    obtain rfl := Option.some.inj h
    exact kw_Q (hR _ rfl) (kw_return C (kdec dc_Law_addLine 26 rfl))
theorem mt_pf_Law_addLine_13 (l0 : Launch) {σ : kM} {x1 : Int} {x2 : Int} {τ : kM} (h : pf_Law_addLine_13 σ x1 x2 = some τ) : kMet l0 ky_Law_addLine prog_4_method_4_code 3 none R0_pf_Law_addLine_13 kcl yC σ [kr 13, ki x1, ki x2] none τ := kMet.of' [some (kr 13), some (ki x1), some (ki x2)] (by decide) (Nat.le_of_ble_eq_true rfl) ⟨rfl, rfl, rfl, trivial⟩ (fun x C => bd_pf_Law_addLine_13 C σ x1 x2 h (fun τ e => by subst e; rfl))
def R0_pf_World_setDepth_22 : Room := ({ frames := 0, cells := 0, slots := 0, locals := 0 } : Room)
def pf_World_setDepth_22 (σ : kM) (x1 : Int) (x2 : Int) (x3 : Int) : Option (kM) :=
  if 6 ≤ x2 then
    some σ
  else
    kchk (0 ≤ (w32 ((w32 (61 + (w32 (x1 * 6)))) + x2)) ∧ (w32 ((w32 (61 + (w32 (x1 * 6)))) + x2)) < 85) <|
    klet (kst σ 23 (kup (σ 23) ((w32 ((w32 (61 + (w32 (x1 * 6)))) + x2)).toNat) x3)) fun σ_2 =>
    some σ_2
set_option maxHeartbeats 4000000 in
theorem bd_pf_World_setDepth_22 {x : kX} {l0 : Launch} {Q : State → Prop} (C : kCx x prog_12_method_5_code "PoetFines$World" none kcl yC 4 l0 R0_pf_World_setDepth_22) (σ : kM) (x1 : Int) (x2 : Int) (x3 : Int) {out : kM} (h : pf_World_setDepth_22 σ x1 x2 x3 = some out) (hR : ∀ (τ : kM), out = τ → Q = kQ x none τ 0 0) : KW x 0 0 Q σ 0 [some (kr 22), some (ki x1), some (ki x2), some (ki x3)] [] := by
  unfold pf_World_setDepth_22 at h
  refine kw_iload_n C (kdec dc_World_setDepth 0 rfl) rfl 1 rfl rfl ?_
  refine kw_bipush (v := 6) C (kdec dc_World_setDepth 1 rfl) 3 rfl (by decide) ⟨by decide, by decide⟩ ?_
  refine kw_icmp_ge C (kdec dc_World_setDepth 2 rfl) 21 6 (by decide) rfl (fun hc3 => ?_) (fun hc3 => ?_)
  · rw [if_pos hc3] at h
    obtain rfl := Option.some.inj h
    exact kw_Q (hR _ rfl) (kw_return C (kdec dc_World_setDepth 14 rfl))
  · rw [if_neg hc3] at h
    refine kw_aload_n C (kdec dc_World_setDepth 3 rfl) rfl 7 rfl rfl ?_
    refine kw_getR C (kdec dc_World_setDepth 4 rfl) 10 rfl fd_C_World_11_22 ?_
    refine kw_bipush (v := 61) C (kdec dc_World_setDepth 5 rfl) 12 rfl (by decide) ⟨by decide, by decide⟩ ?_
    refine kw_iload_n C (kdec dc_World_setDepth 6 rfl) rfl 13 rfl rfl ?_
    refine kw_bipush (v := 6) C (kdec dc_World_setDepth 7 rfl) 15 rfl (by decide) ⟨by decide, by decide⟩ ?_
    refine kw_imul C (kdec dc_World_setDepth 8 rfl) 16 rfl ?_
    refine kw_iadd C (kdec dc_World_setDepth 9 rfl) 17 rfl ?_
    refine kw_iload_n C (kdec dc_World_setDepth 10 rfl) rfl 18 rfl rfl ?_
    refine kw_iadd C (kdec dc_World_setDepth 11 rfl) 19 rfl ?_
    refine kw_iload_n C (kdec dc_World_setDepth 12 rfl) rfl 20 rfl rfl ?_
    obtain ⟨hc_1, h⟩ := kchk_h h
    obtain ⟨σ_2, eσ_2, h⟩ := klet_h h
    refine kw_iast C (kdec dc_World_setDepth 13 rfl) 21 rfl rfl hc_1.1 hc_1.2 ?_
    refine kw_sig eσ_2 ?_
    obtain rfl := Option.some.inj h
    exact kw_Q (hR _ rfl) (kw_return C (kdec dc_World_setDepth 14 rfl))
theorem mt_pf_World_setDepth_22 (l0 : Launch) {σ : kM} {x1 : Int} {x2 : Int} {x3 : Int} {τ : kM} (h : pf_World_setDepth_22 σ x1 x2 x3 = some τ) : kMet l0 ky_World_setDepth prog_12_method_5_code 4 none R0_pf_World_setDepth_22 kcl yC σ [kr 22, ki x1, ki x2, ki x3] none τ := kMet.of' [some (kr 22), some (ki x1), some (ki x2), some (ki x3)] (by decide) (Nat.le_of_ble_eq_true rfl) ⟨rfl, rfl, rfl, rfl, trivial⟩ (fun x C => bd_pf_World_setDepth_22 C σ x1 x2 x3 h (fun τ e => by subst e; rfl))
def R0_pf_Parser_takeLine_12 : Room := ({ frames := 4, cells := 0, slots := 0, locals := 85 } : Room)
def pf_Parser_takeLine_12_j33 (σ : kM) (x1 : Int) (x2 : Int) : Option (kM) :=
  (pf_Parser_takeTopic_12 σ).bind fun (r_4, σ_5) =>
  (pf_Law_addLine_13 σ_5 x1 r_4).bind fun σ_6 =>
  (pf_Parser_takeNumber_12 σ_6 0 9).bind fun (r_7, σ_8) =>
  (pf_World_setDepth_22 σ_8 x1 x2 r_7).bind fun σ_9 =>
  some σ_9
set_option maxHeartbeats 4000000 in
theorem bd_pf_Parser_takeLine_12_j33 {x : kX} {l0 : Launch} {Q : State → Prop} (C : kCx x prog_6_method_6_code "PoetFines$Parser" none kcl yC 3 l0 R0_pf_Parser_takeLine_12) (σ : kM) (x1 : Int) (x2 : Int) {out : kM} (h : pf_Parser_takeLine_12_j33 σ x1 x2 = some out) (hR : ∀ (τ : kM), out = τ → Q = kQ x none τ 0 0) : KW x 0 0 Q σ 33 [some (kr 12), some (ki x1), some (ki x2)] [] := by
  unfold pf_Parser_takeLine_12_j33 at h
  refine kw_aload_n C (kdec dc_Parser_takeLine 18 rfl) rfl 34 rfl rfl ?_
  refine kw_getR C (kdec dc_Parser_takeLine 19 rfl) 37 rfl fd_C_Parser_12_12 ?_
  refine kw_iload_n C (kdec dc_Parser_takeLine 20 rfl) rfl 38 rfl rfl ?_
  refine kw_aload_n C (kdec dc_Parser_takeLine 21 rfl) rfl 39 rfl rfl ?_
  obtain ⟨⟨r_4, σ_5⟩, hg_13, h⟩ := kbind_h h
  dsimp only at h
  refine kw_callV (As := []) C (kdec dc_Parser_takeLine 22 rfl) 42 rfl cv_Parser_139 rfl rfl (mt_pf_Parser_takeTopic_12 l0 hg_13) ⟨rfl, rfl⟩ ⟨Nat.le_of_ble_eq_true rfl, Nat.le_of_ble_eq_true rfl⟩ ⟨Nat.zero_le _, Nat.zero_le _⟩ rfl (Nat.le_of_ble_eq_true rfl) ?_
  change KW x 0 0 Q σ_5 42 [some (kr 12), some (ki x1), some (ki x2)] [ki r_4, ki x1, kr 13]
  obtain ⟨σ_6, hg_12, h⟩ := kbind_h h
  refine kw_callV (As := [ki x1, ki r_4]) C (kdec dc_Parser_takeLine 23 rfl) 45 rfl cv_Parser_142 rfl rfl (mt_pf_Law_addLine_13 l0 hg_12) ⟨rfl, rfl⟩ ⟨Nat.le_of_ble_eq_true rfl, Nat.le_of_ble_eq_true rfl⟩ ⟨Nat.zero_le _, Nat.zero_le _⟩ rfl (Nat.le_of_ble_eq_true rfl) ?_
  change KW x 0 0 Q σ_6 45 [some (kr 12), some (ki x1), some (ki x2)] []
  refine kw_aload_n C (kdec dc_Parser_takeLine 24 rfl) rfl 46 rfl rfl ?_
  refine kw_getR C (kdec dc_Parser_takeLine 25 rfl) 49 rfl fd_C_Parser_21_12 ?_
  refine kw_iload_n C (kdec dc_Parser_takeLine 26 rfl) rfl 50 rfl rfl ?_
  refine kw_iload_n C (kdec dc_Parser_takeLine 27 rfl) rfl 51 rfl rfl ?_
  refine kw_aload_n C (kdec dc_Parser_takeLine 28 rfl) rfl 52 rfl rfl ?_
  refine kw_iconst C (kdec dc_Parser_takeLine 29 rfl) 53 rfl rfl ⟨by decide, by decide⟩ ?_
  refine kw_bipush (v := 9) C (kdec dc_Parser_takeLine 30 rfl) 55 rfl (by decide) ⟨by decide, by decide⟩ ?_
  obtain ⟨⟨r_7, σ_8⟩, hg_11, h⟩ := kbind_h h
  dsimp only at h
  refine kw_callV (As := [ki 0, ki 9]) C (kdec dc_Parser_takeLine 31 rfl) 58 rfl cv_Parser_65 rfl rfl (mt_pf_Parser_takeNumber_12 l0 hg_11) ⟨rfl, rfl⟩ ⟨Nat.le_of_ble_eq_true rfl, Nat.le_of_ble_eq_true rfl⟩ ⟨Nat.zero_le _, Nat.zero_le _⟩ rfl (Nat.le_of_ble_eq_true rfl) ?_
  change KW x 0 0 Q σ_8 58 [some (kr 12), some (ki x1), some (ki x2)] [ki r_7, ki x2, ki x1, kr 22]
  obtain ⟨σ_9, hg_10, h⟩ := kbind_h h
  refine kw_callV (As := [ki x1, ki x2, ki r_7]) C (kdec dc_Parser_takeLine 32 rfl) 61 rfl cv_Parser_146 rfl rfl (mt_pf_World_setDepth_22 l0 hg_10) ⟨rfl, rfl⟩ ⟨Nat.le_of_ble_eq_true rfl, Nat.le_of_ble_eq_true rfl⟩ ⟨Nat.zero_le _, Nat.zero_le _⟩ rfl (Nat.le_of_ble_eq_true rfl) ?_
  change KW x 0 0 Q σ_9 61 [some (kr 12), some (ki x1), some (ki x2)] []
  obtain rfl := Option.some.inj h
  exact kw_Q (hR _ rfl) (kw_return C (kdec dc_Parser_takeLine 33 rfl))
def pf_Parser_takeLine_12 (σ : kM) (x1 : Int) : Option (kM) :=
  kchk (0 ≤ x1 ∧ x1 < 4) <|
  klet (σ 14 x1.toNat) fun x2_2 =>
  (pf_Tokens_kind_24 σ).bind fun r_3 =>
  if r_3 = 1 then
    if x2_2 < 6 then
      pf_Parser_takeLine_12_j33 σ x1 x2_2
    else
      (pf_Parser_refuse_12 σ 2).bind fun σ_14 =>
      some σ_14
  else
    pf_Parser_takeLine_12_j33 σ x1 x2_2
set_option maxHeartbeats 4000000 in
theorem bd_pf_Parser_takeLine_12 {x : kX} {l0 : Launch} {Q : State → Prop} (C : kCx x prog_6_method_6_code "PoetFines$Parser" none kcl yC 3 l0 R0_pf_Parser_takeLine_12) (σ : kM) (x1 : Int) {out : kM} (h : pf_Parser_takeLine_12 σ x1 = some out) (hR : ∀ (τ : kM), out = τ → Q = kQ x none τ 0 0) : KW x 0 0 Q σ 0 [some (kr 12), some (ki x1), none] [] := by
  unfold pf_Parser_takeLine_12 at h
  refine kw_aload_n C (kdec dc_Parser_takeLine 0 rfl) rfl 1 rfl rfl ?_
  refine kw_getR C (kdec dc_Parser_takeLine 1 rfl) 4 rfl fd_C_Parser_12_12 ?_
  refine kw_getR C (kdec dc_Parser_takeLine 2 rfl) 7 rfl fd_C_Parser_136_13 ?_
  refine kw_iload_n C (kdec dc_Parser_takeLine 3 rfl) rfl 8 rfl rfl ?_
  obtain ⟨hc_1, h⟩ := kchk_h h
  refine kw_iald C (kdec dc_Parser_takeLine 4 rfl) 9 rfl rfl hc_1.1 hc_1.2 ?_
  obtain ⟨x2_2, ex2_2, h⟩ := klet_h h
  refine kw_top ex2_2 ?_
  refine kw_istore_n (L' := [some (kr 12), some (ki x1), some (ki x2_2)]) C (kdec dc_Parser_takeLine 5 rfl) rfl 10 rfl (by decide) rfl rfl ?_
  refine kw_aload_n C (kdec dc_Parser_takeLine 6 rfl) rfl 11 rfl rfl ?_
  refine kw_getR C (kdec dc_Parser_takeLine 7 rfl) 14 rfl fd_C_Parser_40_12 ?_
  obtain ⟨r_3, hg_16, h⟩ := kbind_h h
  refine kw_callV (As := []) C (kdec dc_Parser_takeLine 8 rfl) 17 rfl cv_Parser_76 rfl rfl (mt_pf_Tokens_kind_24 l0 hg_16) ⟨rfl, rfl⟩ ⟨Nat.le_of_ble_eq_true rfl, Nat.le_of_ble_eq_true rfl⟩ ⟨Nat.zero_le _, Nat.zero_le _⟩ rfl (Nat.le_of_ble_eq_true rfl) ?_
  change KW x 0 0 Q σ 17 [some (kr 12), some (ki x1), some (ki x2_2)] [ki r_3]
  refine kw_iconst C (kdec dc_Parser_takeLine 9 rfl) 18 rfl rfl ⟨by decide, by decide⟩ ?_
  refine kw_icmp_ne C (kdec dc_Parser_takeLine 10 rfl) 33 21 (by decide) rfl (fun hc18 => ?_) (fun hc18 => ?_)
  · rw [if_neg hc18] at h
    exact bd_pf_Parser_takeLine_12_j33 C σ x1 x2_2 h hR
  · rw [if_pos hc18] at h
    refine kw_iload_n C (kdec dc_Parser_takeLine 11 rfl) rfl 22 rfl rfl ?_
    refine kw_bipush (v := 6) C (kdec dc_Parser_takeLine 12 rfl) 24 rfl (by decide) ⟨by decide, by decide⟩ ?_
    refine kw_icmp_lt C (kdec dc_Parser_takeLine 13 rfl) 33 27 (by decide) rfl (fun hc24 => ?_) (fun hc24 => ?_)
    · rw [if_pos hc24] at h
      exact bd_pf_Parser_takeLine_12_j33 C σ x1 x2_2 h hR
    · rw [if_neg hc24] at h
      refine kw_aload_n C (kdec dc_Parser_takeLine 14 rfl) rfl 28 rfl rfl ?_
      refine kw_iconst C (kdec dc_Parser_takeLine 15 rfl) 29 rfl rfl ⟨by decide, by decide⟩ ?_
      obtain ⟨σ_14, hg_15, h⟩ := kbind_h h
      refine kw_callV (As := [ki 2]) C (kdec dc_Parser_takeLine 16 rfl) 32 rfl cv_Parser_110 rfl rfl (mt_pf_Parser_refuse_12 l0 hg_15) ⟨rfl, rfl⟩ ⟨Nat.le_of_ble_eq_true rfl, Nat.le_of_ble_eq_true rfl⟩ ⟨Nat.zero_le _, Nat.zero_le _⟩ rfl (Nat.le_of_ble_eq_true rfl) ?_
      change KW x 0 0 Q σ_14 32 [some (kr 12), some (ki x1), some (ki x2_2)] []
      obtain rfl := Option.some.inj h
      exact kw_Q (hR _ rfl) (kw_return C (kdec dc_Parser_takeLine 17 rfl))
theorem mt_pf_Parser_takeLine_12 (l0 : Launch) {σ : kM} {x1 : Int} {τ : kM} (h : pf_Parser_takeLine_12 σ x1 = some τ) : kMet l0 ky_Parser_takeLine prog_6_method_6_code 3 none R0_pf_Parser_takeLine_12 kcl yC σ [kr 12, ki x1] none τ := kMet.of' [some (kr 12), some (ki x1), none] (by decide) (Nat.le_of_ble_eq_true rfl) ⟨rfl, rfl, trivial⟩ (fun x C => bd_pf_Parser_takeLine_12 C σ x1 h (fun τ e => by subst e; rfl))
def R0_pf_Parser_takePoet_12 : Room := ({ frames := 5, cells := 0, slots := 0, locals := 107 } : Room)
def pf_Parser_takePoet_12_l71 (σ : kM) (x1 : Int) (x2 : Int) : Option ((kM × Int) ⊕ ((kM))) :=
  if 6 ≤ x2 then
    some (Sum.inr σ)
  else
    (pf_Tokens_kind_24 σ).bind fun r_9 =>
    if r_9 = 1 then
      (pf_Parser_takeLine_12 σ x1).bind fun σ_10 =>
      klet (w32 (x2 + 1)) fun x2_11 =>
      some (Sum.inl (σ_10, x2_11))
    else
      some (Sum.inr σ)
set_option maxHeartbeats 4000000 in
theorem bd_pf_Parser_takePoet_12_l71 {x : kX} {l0 : Launch} {Q : State → Prop} (C : kCx x prog_6_method_5_code "PoetFines$Parser" none kcl yC 3 l0 R0_pf_Parser_takePoet_12) (σ : kM) (x1 : Int) (x2 : Int) {out : (kM × Int) ⊕ ((kM))} (h : pf_Parser_takePoet_12_l71 σ x1 x2 = some out) (hC : ∀ (σ' : kM) (x2' : Int), out = Sum.inl (σ', x2') → KW x 0 0 Q σ' 71 [some (kr 12), some (ki x1), some (ki x2')] []) (hX99 : ∀ (σ' : kM), out = Sum.inr σ' → KW x 0 0 Q σ' 99 [some (kr 12), none, none] []) : KW x 0 0 Q σ 71 [some (kr 12), some (ki x1), some (ki x2)] [] := by
  unfold pf_Parser_takePoet_12_l71 at h
  refine kw_iload_n C (kdec dc_Parser_takePoet 39 rfl) rfl 72 rfl rfl ?_
  refine kw_bipush (v := 6) C (kdec dc_Parser_takePoet 40 rfl) 74 rfl (by decide) ⟨by decide, by decide⟩ ?_
  refine kw_icmp_ge C (kdec dc_Parser_takePoet 41 rfl) 99 77 (by decide) rfl (fun hc74 => ?_) (fun hc74 => ?_)
  · rw [if_pos hc74] at h
    obtain rfl := Option.some.inj h
    exact kw_sub (L' := [some (kr 12), none, none]) ⟨rfl, trivial⟩ (hX99 _ rfl)
  · rw [if_neg hc74] at h
    refine kw_aload_n C (kdec dc_Parser_takePoet 42 rfl) rfl 78 rfl rfl ?_
    refine kw_getR C (kdec dc_Parser_takePoet 43 rfl) 81 rfl fd_C_Parser_40_12 ?_
    obtain ⟨r_9, hg_13, h⟩ := kbind_h h
    refine kw_callV (As := []) C (kdec dc_Parser_takePoet 44 rfl) 84 rfl cv_Parser_76 rfl rfl (mt_pf_Tokens_kind_24 l0 hg_13) ⟨rfl, rfl⟩ ⟨Nat.le_of_ble_eq_true rfl, Nat.le_of_ble_eq_true rfl⟩ ⟨Nat.zero_le _, Nat.zero_le _⟩ rfl (Nat.le_of_ble_eq_true rfl) ?_
    change KW x 0 0 Q σ 84 [some (kr 12), some (ki x1), some (ki x2)] [ki r_9]
    refine kw_iconst C (kdec dc_Parser_takePoet 45 rfl) 85 rfl rfl ⟨by decide, by decide⟩ ?_
    refine kw_icmp_ne C (kdec dc_Parser_takePoet 46 rfl) 99 88 (by decide) rfl (fun hc85 => ?_) (fun hc85 => ?_)
    · rw [if_neg hc85] at h
      obtain rfl := Option.some.inj h
      exact kw_sub (L' := [some (kr 12), none, none]) ⟨rfl, trivial⟩ (hX99 _ rfl)
    · rw [if_pos hc85] at h
      refine kw_aload_n C (kdec dc_Parser_takePoet 47 rfl) rfl 89 rfl rfl ?_
      refine kw_iload_n C (kdec dc_Parser_takePoet 48 rfl) rfl 90 rfl rfl ?_
      obtain ⟨σ_10, hg_12, h⟩ := kbind_h h
      refine kw_callV (As := [ki x1]) C (kdec dc_Parser_takePoet 49 rfl) 93 rfl cv_Parser_133 rfl rfl (mt_pf_Parser_takeLine_12 l0 hg_12) ⟨rfl, rfl⟩ ⟨Nat.le_of_ble_eq_true rfl, Nat.le_of_ble_eq_true rfl⟩ ⟨Nat.zero_le _, Nat.zero_le _⟩ rfl (Nat.le_of_ble_eq_true rfl) ?_
      change KW x 0 0 Q σ_10 93 [some (kr 12), some (ki x1), some (ki x2)] []
      obtain ⟨x2_11, ex2_11, h⟩ := klet_h h
      refine kw_iinc (L' := [some (kr 12), some (ki x1), some (ki x2_11)]) C (kdec dc_Parser_takePoet 50 rfl) 96 rfl rfl (by decide) rfl (by rw [ex2_11]; rfl) ?_
      refine kw_goto C (kdec dc_Parser_takePoet 51 rfl) 71 (by decide) ?_
      obtain rfl := Option.some.inj h
      exact (hC _ _ rfl)
theorem lp_pf_Parser_takePoet_12_l71 {x : kX} {l0 : Launch} {Q : State → Prop} (C : kCx x prog_6_method_5_code "PoetFines$Parser" none kcl yC 3 l0 R0_pf_Parser_takePoet_12) (x1 : Int) {ex : (kM)} (hX99 : ∀ (σ' : kM), ex = σ' → KW x 0 0 Q σ' 99 [some (kr 12), none, none] []) (n : Nat) (σ : kM) (x2 : Int) (h : kloop (fun st => pf_Parser_takePoet_12_l71 st.1 x1 st.2) n (σ, x2) = some ex) : KW x 0 0 Q σ 71 [some (kr 12), some (ki x1), some (ki x2)] [] :=
  kloop_ind (P := (fun st : kM × Int => KW x 0 0 Q st.1 71 [some (kr 12), some (ki x1), some (ki (st.2))] [])) (fun st out hb hc hx => bd_pf_Parser_takePoet_12_l71 C st.1 x1 st.2 hb (fun a0 a1 e => hc _ e) (fun a0 e => hX99 _ ((hx _ e).symm))) n (σ, x2) h
def pf_Parser_takePoet_12 (σ : kM) : Option (kM) :=
  if (σ 13 2) < 4 then
    klet (σ 13 2) fun x1_1 =>
    klet (kst σ 13 (kup (σ 13) 2 (w32 ((σ 13 2) + 1)))) fun σ_2 =>
    (pf_Tokens_advance_24 σ_2).bind fun σ_3 =>
    (pf_Parser_takeNumber_12 σ_3 0 99).bind fun (r_4, σ_5) =>
    kchk (0 ≤ (w32 (49 + x1_1)) ∧ (w32 (49 + x1_1)) < 85) <|
    klet (kst σ_5 23 (kup (σ_5 23) ((w32 (49 + x1_1)).toNat) r_4)) fun σ_7 =>
    (pf_Parser_takeLine_12 σ_7 x1_1).bind fun σ_8 =>
    (kloop (fun st => pf_Parser_takePoet_12_l71 st.1 x1_1 st.2) kFuel (σ_8, 0)).bind fun σ_16 =>
    (pf_Parser_takeSign_12 σ_16 59).bind fun σ_17 =>
    some σ_17
  else
    (pf_Parser_refuse_12 σ 2).bind fun σ_22 =>
    some σ_22
set_option maxHeartbeats 4000000 in
theorem bd_pf_Parser_takePoet_12 {x : kX} {l0 : Launch} {Q : State → Prop} (C : kCx x prog_6_method_5_code "PoetFines$Parser" none kcl yC 3 l0 R0_pf_Parser_takePoet_12) (σ : kM) {out : kM} (h : pf_Parser_takePoet_12 σ = some out) (hR : ∀ (τ : kM), out = τ → Q = kQ x none τ 0 0) : KW x 0 0 Q σ 0 [some (kr 12), none, none] [] := by
  unfold pf_Parser_takePoet_12 at h
  refine kw_aload_n C (kdec dc_Parser_takePoet 0 rfl) rfl 1 rfl rfl ?_
  refine kw_getR C (kdec dc_Parser_takePoet 1 rfl) 4 rfl fd_C_Parser_12_12 ?_
  refine kw_getI C (kdec dc_Parser_takePoet 2 rfl) 7 rfl fd_C_Parser_130_13 ?_
  refine kw_iconst C (kdec dc_Parser_takePoet 3 rfl) 8 rfl rfl ⟨by decide, by decide⟩ ?_
  refine kw_icmp_lt C (kdec dc_Parser_takePoet 4 rfl) 17 11 (by decide) rfl (fun hc8 => ?_) (fun hc8 => ?_)
  · rw [if_pos hc8] at h
    refine kw_aload_n C (kdec dc_Parser_takePoet 9 rfl) rfl 18 rfl rfl ?_
    refine kw_getR C (kdec dc_Parser_takePoet 10 rfl) 21 rfl fd_C_Parser_12_12 ?_
    refine kw_getI C (kdec dc_Parser_takePoet 11 rfl) 24 rfl fd_C_Parser_130_13 ?_
    obtain ⟨x1_1, ex1_1, h⟩ := klet_h h
    refine kw_top ex1_1 ?_
    refine kw_istore_n (L' := [some (kr 12), some (ki x1_1), none]) C (kdec dc_Parser_takePoet 12 rfl) rfl 25 rfl (by decide) rfl rfl ?_
    refine kw_aload_n C (kdec dc_Parser_takePoet 13 rfl) rfl 26 rfl rfl ?_
    refine kw_getR C (kdec dc_Parser_takePoet 14 rfl) 29 rfl fd_C_Parser_12_12 ?_
    refine kw_dup C (kdec dc_Parser_takePoet 15 rfl) 30 rfl rfl ?_
    refine kw_getI C (kdec dc_Parser_takePoet 16 rfl) 33 rfl fd_C_Parser_130_13 ?_
    refine kw_iconst C (kdec dc_Parser_takePoet 17 rfl) 34 rfl rfl ⟨by decide, by decide⟩ ?_
    refine kw_iadd C (kdec dc_Parser_takePoet 18 rfl) 35 rfl ?_
    obtain ⟨σ_2, eσ_2, h⟩ := klet_h h
    refine kw_putI C (kdec dc_Parser_takePoet 19 rfl) 38 rfl fp_C_Parser_130_13 ?_
    refine kw_sig eσ_2 ?_
    refine kw_aload_n C (kdec dc_Parser_takePoet 20 rfl) rfl 39 rfl rfl ?_
    refine kw_getR C (kdec dc_Parser_takePoet 21 rfl) 42 rfl fd_C_Parser_40_12 ?_
    obtain ⟨σ_3, hg_21, h⟩ := kbind_h h
    refine kw_callV (As := []) C (kdec dc_Parser_takePoet 22 rfl) 45 rfl cv_Parser_62 rfl rfl (mt_pf_Tokens_advance_24 l0 hg_21) ⟨rfl, rfl⟩ ⟨Nat.le_of_ble_eq_true rfl, Nat.le_of_ble_eq_true rfl⟩ ⟨Nat.zero_le _, Nat.zero_le _⟩ rfl (Nat.le_of_ble_eq_true rfl) ?_
    change KW x 0 0 Q σ_3 45 [some (kr 12), some (ki x1_1), none] []
    refine kw_aload_n C (kdec dc_Parser_takePoet 23 rfl) rfl 46 rfl rfl ?_
    refine kw_getR C (kdec dc_Parser_takePoet 24 rfl) 49 rfl fd_C_Parser_21_12 ?_
    refine kw_getR C (kdec dc_Parser_takePoet 25 rfl) 52 rfl fd_C_Parser_122_22 ?_
    refine kw_bipush (v := 49) C (kdec dc_Parser_takePoet 26 rfl) 54 rfl (by decide) ⟨by decide, by decide⟩ ?_
    refine kw_iload_n C (kdec dc_Parser_takePoet 27 rfl) rfl 55 rfl rfl ?_
    refine kw_iadd C (kdec dc_Parser_takePoet 28 rfl) 56 rfl ?_
    refine kw_aload_n C (kdec dc_Parser_takePoet 29 rfl) rfl 57 rfl rfl ?_
    refine kw_iconst C (kdec dc_Parser_takePoet 30 rfl) 58 rfl rfl ⟨by decide, by decide⟩ ?_
    refine kw_bipush (v := 99) C (kdec dc_Parser_takePoet 31 rfl) 60 rfl (by decide) ⟨by decide, by decide⟩ ?_
    obtain ⟨⟨r_4, σ_5⟩, hg_20, h⟩ := kbind_h h
    dsimp only at h
    refine kw_callV (As := [ki 0, ki 99]) C (kdec dc_Parser_takePoet 32 rfl) 63 rfl cv_Parser_65 rfl rfl (mt_pf_Parser_takeNumber_12 l0 hg_20) ⟨rfl, rfl⟩ ⟨Nat.le_of_ble_eq_true rfl, Nat.le_of_ble_eq_true rfl⟩ ⟨Nat.zero_le _, Nat.zero_le _⟩ rfl (Nat.le_of_ble_eq_true rfl) ?_
    change KW x 0 0 Q σ_5 63 [some (kr 12), some (ki x1_1), none] [ki r_4, ki (w32 (49 + x1_1)), kr 23]
    obtain ⟨hc_6, h⟩ := kchk_h h
    obtain ⟨σ_7, eσ_7, h⟩ := klet_h h
    refine kw_iast C (kdec dc_Parser_takePoet 33 rfl) 64 rfl rfl hc_6.1 hc_6.2 ?_
    refine kw_sig eσ_7 ?_
    refine kw_aload_n C (kdec dc_Parser_takePoet 34 rfl) rfl 65 rfl rfl ?_
    refine kw_iload_n C (kdec dc_Parser_takePoet 35 rfl) rfl 66 rfl rfl ?_
    obtain ⟨σ_8, hg_19, h⟩ := kbind_h h
    refine kw_callV (As := [ki x1_1]) C (kdec dc_Parser_takePoet 36 rfl) 69 rfl cv_Parser_133 rfl rfl (mt_pf_Parser_takeLine_12 l0 hg_19) ⟨rfl, rfl⟩ ⟨Nat.le_of_ble_eq_true rfl, Nat.le_of_ble_eq_true rfl⟩ ⟨Nat.zero_le _, Nat.zero_le _⟩ rfl (Nat.le_of_ble_eq_true rfl) ?_
    change KW x 0 0 Q σ_8 69 [some (kr 12), some (ki x1_1), none] []
    refine kw_iconst C (kdec dc_Parser_takePoet 37 rfl) 70 rfl rfl ⟨by decide, by decide⟩ ?_
    refine kw_istore_n (L' := [some (kr 12), some (ki x1_1), some (ki 0)]) C (kdec dc_Parser_takePoet 38 rfl) rfl 71 rfl (by decide) rfl rfl ?_
    obtain ⟨ex_14, hl_15, h⟩ := kbind_h h
    refine lp_pf_Parser_takePoet_12_l71 C x1_1 ?_ kFuel σ_8 0 hl_15
    · intro σ_16 e
      subst ex_14
      try dsimp only at h
      refine kw_aload_n C (kdec dc_Parser_takePoet 52 rfl) rfl 100 rfl rfl ?_
      refine kw_bipush (v := 59) C (kdec dc_Parser_takePoet 53 rfl) 102 rfl (by decide) ⟨by decide, by decide⟩ ?_
      obtain ⟨σ_17, hg_18, h⟩ := kbind_h h
      refine kw_callV (As := [ki 59]) C (kdec dc_Parser_takePoet 54 rfl) 105 rfl cv_Parser_72 rfl rfl (mt_pf_Parser_takeSign_12 l0 hg_18) ⟨rfl, rfl⟩ ⟨Nat.le_of_ble_eq_true rfl, Nat.le_of_ble_eq_true rfl⟩ ⟨Nat.zero_le _, Nat.zero_le _⟩ rfl (Nat.le_of_ble_eq_true rfl) ?_
      change KW x 0 0 Q σ_17 105 [some (kr 12), none, none] []
      obtain rfl := Option.some.inj h
      exact kw_Q (hR _ rfl) (kw_return C (kdec dc_Parser_takePoet 55 rfl))
  · rw [if_neg hc8] at h
    refine kw_aload_n C (kdec dc_Parser_takePoet 5 rfl) rfl 12 rfl rfl ?_
    refine kw_iconst C (kdec dc_Parser_takePoet 6 rfl) 13 rfl rfl ⟨by decide, by decide⟩ ?_
    obtain ⟨σ_22, hg_23, h⟩ := kbind_h h
    refine kw_callV (As := [ki 2]) C (kdec dc_Parser_takePoet 7 rfl) 16 rfl cv_Parser_110 rfl rfl (mt_pf_Parser_refuse_12 l0 hg_23) ⟨rfl, rfl⟩ ⟨Nat.le_of_ble_eq_true rfl, Nat.le_of_ble_eq_true rfl⟩ ⟨Nat.zero_le _, Nat.zero_le _⟩ rfl (Nat.le_of_ble_eq_true rfl) ?_
    change KW x 0 0 Q σ_22 16 [some (kr 12), none, none] []
    obtain rfl := Option.some.inj h
    exact kw_Q (hR _ rfl) (kw_return C (kdec dc_Parser_takePoet 8 rfl))
theorem mt_pf_Parser_takePoet_12 (l0 : Launch) {σ : kM} {τ : kM} (h : pf_Parser_takePoet_12 σ = some τ) : kMet l0 ky_Parser_takePoet prog_6_method_5_code 3 none R0_pf_Parser_takePoet_12 kcl yC σ [kr 12] none τ := kMet.of' [some (kr 12), none, none] (by decide) (Nat.le_of_ble_eq_true rfl) ⟨rfl, trivial⟩ (fun x C => bd_pf_Parser_takePoet_12 C σ h (fun τ e => by subst e; rfl))

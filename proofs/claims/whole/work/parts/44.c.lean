def R0_pf_Law_suppose_13 : Room := ({ frames := 0, cells := 0, slots := 0, locals := 0 } : Room)
def pf_Law_suppose_13 (σ : kM) (x1 : Int) (x2 : Int) (x3 : Int) : Option (kM) :=
  kchk (0 ≤ (w32 ((w32 (x1 * 4)) + x2)) ∧ (w32 ((w32 (x1 * 4)) + x2)) < 32) <|
  klet (kst σ 15 (kup (σ 15) ((w32 ((w32 (x1 * 4)) + x2)).toNat) x3)) fun σ_2 =>
  some σ_2
set_option maxHeartbeats 4000000 in
theorem bd_pf_Law_suppose_13 {x : kX} {l0 : Launch} {Q : State → Prop} (C : kCx x prog_4_method_6_code "PoetFines$Law" none kcl yC 4 l0 R0_pf_Law_suppose_13) (σ : kM) (x1 : Int) (x2 : Int) (x3 : Int) {out : kM} (h : pf_Law_suppose_13 σ x1 x2 x3 = some out) (hR : ∀ (τ : kM), out = τ → Q = kQ x none τ 0 0) : KW x 0 0 Q σ 0 [some (kr 13), some (ki x1), some (ki x2), some (ki x3)] [] := by
  unfold pf_Law_suppose_13 at h
  refine kw_aload_n C (kdec dc_Law_suppose 0 rfl) rfl 1 rfl rfl ?_
  refine kw_getR C (kdec dc_Law_suppose 1 rfl) 4 rfl fd_C_Law_25_13 ?_
  refine kw_iload_n C (kdec dc_Law_suppose 2 rfl) rfl 5 rfl rfl ?_
  refine kw_iconst C (kdec dc_Law_suppose 3 rfl) 6 rfl rfl ⟨by decide, by decide⟩ ?_
  refine kw_imul C (kdec dc_Law_suppose 4 rfl) 7 rfl ?_
  refine kw_iload_n C (kdec dc_Law_suppose 5 rfl) rfl 8 rfl rfl ?_
  refine kw_iadd C (kdec dc_Law_suppose 6 rfl) 9 rfl ?_
  refine kw_iload_n C (kdec dc_Law_suppose 7 rfl) rfl 10 rfl rfl ?_
  obtain ⟨hc_1, h⟩ := kchk_h h
  obtain ⟨σ_2, eσ_2, h⟩ := klet_h h
  refine kw_iast C (kdec dc_Law_suppose 8 rfl) 11 rfl rfl hc_1.1 hc_1.2 ?_
  refine kw_sig eσ_2 ?_
  obtain rfl := Option.some.inj h
  exact kw_Q (hR _ rfl) (kw_return C (kdec dc_Law_suppose 9 rfl))
theorem mt_pf_Law_suppose_13 (l0 : Launch) {σ : kM} {x1 : Int} {x2 : Int} {x3 : Int} {τ : kM} (h : pf_Law_suppose_13 σ x1 x2 x3 = some τ) : kMet l0 ky_Law_suppose prog_4_method_6_code 4 none R0_pf_Law_suppose_13 kcl yC σ [kr 13, ki x1, ki x2, ki x3] none τ := kMet.of' [some (kr 13), some (ki x1), some (ki x2), some (ki x3)] (by decide) (Nat.le_of_ble_eq_true rfl) ⟨rfl, rfl, rfl, rfl, trivial⟩ (fun x C => bd_pf_Law_suppose_13 C σ x1 x2 x3 h (fun τ e => by subst e; rfl))
def R0_pf_Parser_takePerson_12 : Room := ({ frames := 3, cells := 0, slots := 0, locals := 64 } : Room)
def pf_Parser_takePerson_12_l66 (σ : kM) (x1 : Int) (x2 : Int) : Option ((kM × Int) ⊕ ((kM))) :=
  if (σ 13 0) ≤ x2 then
    some (Sum.inr σ)
  else
    (pf_Parser_takeNumber_12 σ 0 9).bind fun (r_8, σ_9) =>
    (pf_Law_suppose_13 σ_9 x1 x2 r_8).bind fun σ_10 =>
    klet (w32 (x2 + 1)) fun x2_11 =>
    some (Sum.inl (σ_10, x2_11))
set_option maxHeartbeats 4000000 in
theorem bd_pf_Parser_takePerson_12_l66 {x : kX} {l0 : Launch} {Q : State → Prop} (C : kCx x prog_6_method_4_code "PoetFines$Parser" none kcl yC 3 l0 R0_pf_Parser_takePerson_12) (σ : kM) (x1 : Int) (x2 : Int) {out : (kM × Int) ⊕ ((kM))} (h : pf_Parser_takePerson_12_l66 σ x1 x2 = some out) (hC : ∀ (σ' : kM) (x2' : Int), out = Sum.inl (σ', x2') → KW x 0 0 Q σ' 66 [some (kr 12), some (ki x1), some (ki x2')] []) (hX99 : ∀ (σ' : kM), out = Sum.inr σ' → KW x 0 0 Q σ' 99 [some (kr 12), none, none] []) : KW x 0 0 Q σ 66 [some (kr 12), some (ki x1), some (ki x2)] [] := by
  unfold pf_Parser_takePerson_12_l66 at h
  refine kw_iload_n C (kdec dc_Parser_takePerson 36 rfl) rfl 67 rfl rfl ?_
  refine kw_aload_n C (kdec dc_Parser_takePerson 37 rfl) rfl 68 rfl rfl ?_
  refine kw_getR C (kdec dc_Parser_takePerson 38 rfl) 71 rfl fd_C_Parser_12_12 ?_
  refine kw_getI C (kdec dc_Parser_takePerson 39 rfl) 74 rfl fd_C_Parser_69_13 ?_
  refine kw_icmp_ge C (kdec dc_Parser_takePerson 40 rfl) 99 77 (by decide) rfl (fun hc74 => ?_) (fun hc74 => ?_)
  · rw [if_pos hc74] at h
    obtain rfl := Option.some.inj h
    exact kw_sub (L' := [some (kr 12), none, none]) ⟨rfl, trivial⟩ (hX99 _ rfl)
  · rw [if_neg hc74] at h
    refine kw_aload_n C (kdec dc_Parser_takePerson 41 rfl) rfl 78 rfl rfl ?_
    refine kw_getR C (kdec dc_Parser_takePerson 42 rfl) 81 rfl fd_C_Parser_12_12 ?_
    refine kw_iload_n C (kdec dc_Parser_takePerson 43 rfl) rfl 82 rfl rfl ?_
    refine kw_iload_n C (kdec dc_Parser_takePerson 44 rfl) rfl 83 rfl rfl ?_
    refine kw_aload_n C (kdec dc_Parser_takePerson 45 rfl) rfl 84 rfl rfl ?_
    refine kw_iconst C (kdec dc_Parser_takePerson 46 rfl) 85 rfl rfl ⟨by decide, by decide⟩ ?_
    refine kw_bipush (v := 9) C (kdec dc_Parser_takePerson 47 rfl) 87 rfl (by decide) ⟨by decide, by decide⟩ ?_
    obtain ⟨⟨r_8, σ_9⟩, hg_13, h⟩ := kbind_h h
    dsimp only at h
    refine kw_callV (As := [ki 0, ki 9]) C (kdec dc_Parser_takePerson 48 rfl) 90 rfl cv_Parser_65 rfl rfl (mt_pf_Parser_takeNumber_12 l0 hg_13) ⟨rfl, rfl⟩ ⟨Nat.le_of_ble_eq_true rfl, Nat.le_of_ble_eq_true rfl⟩ ⟨Nat.zero_le _, Nat.zero_le _⟩ rfl (Nat.le_of_ble_eq_true rfl) ?_
    change KW x 0 0 Q σ_9 90 [some (kr 12), some (ki x1), some (ki x2)] [ki r_8, ki x2, ki x1, kr 13]
    obtain ⟨σ_10, hg_12, h⟩ := kbind_h h
    refine kw_callV (As := [ki x1, ki x2, ki r_8]) C (kdec dc_Parser_takePerson 49 rfl) 93 rfl cv_Parser_126 rfl rfl (mt_pf_Law_suppose_13 l0 hg_12) ⟨rfl, rfl⟩ ⟨Nat.le_of_ble_eq_true rfl, Nat.le_of_ble_eq_true rfl⟩ ⟨Nat.zero_le _, Nat.zero_le _⟩ rfl (Nat.le_of_ble_eq_true rfl) ?_
    change KW x 0 0 Q σ_10 93 [some (kr 12), some (ki x1), some (ki x2)] []
    obtain ⟨x2_11, ex2_11, h⟩ := klet_h h
    refine kw_iinc (L' := [some (kr 12), some (ki x1), some (ki x2_11)]) C (kdec dc_Parser_takePerson 50 rfl) 96 rfl rfl (by decide) rfl (by rw [ex2_11]; rfl) ?_
    refine kw_goto C (kdec dc_Parser_takePerson 51 rfl) 66 (by decide) ?_
    obtain rfl := Option.some.inj h
    exact (hC _ _ rfl)
theorem lp_pf_Parser_takePerson_12_l66 {x : kX} {l0 : Launch} {Q : State → Prop} (C : kCx x prog_6_method_4_code "PoetFines$Parser" none kcl yC 3 l0 R0_pf_Parser_takePerson_12) (x1 : Int) {ex : (kM)} (hX99 : ∀ (σ' : kM), ex = σ' → KW x 0 0 Q σ' 99 [some (kr 12), none, none] []) (n : Nat) (σ : kM) (x2 : Int) (h : kloop (fun st => pf_Parser_takePerson_12_l66 st.1 x1 st.2) n (σ, x2) = some ex) : KW x 0 0 Q σ 66 [some (kr 12), some (ki x1), some (ki x2)] [] :=
  kloop_ind (P := (fun st : kM × Int => KW x 0 0 Q st.1 66 [some (kr 12), some (ki x1), some (ki (st.2))] [])) (fun st out hb hc hx => bd_pf_Parser_takePerson_12_l66 C st.1 x1 st.2 hb (fun a0 a1 e => hc _ e) (fun a0 e => hX99 _ ((hx _ e).symm))) n (σ, x2) h
def pf_Parser_takePerson_12 (σ : kM) : Option (kM) :=
  if (σ 13 1) < 8 then
    klet (σ 13 1) fun x1_1 =>
    klet (kst σ 13 (kup (σ 13) 1 (w32 ((σ 13 1) + 1)))) fun σ_2 =>
    (pf_Tokens_advance_24 σ_2).bind fun σ_3 =>
    (pf_Parser_takeNumber_12 σ_3 0 99).bind fun (r_4, σ_5) =>
    kchk (0 ≤ (w32 (1 + x1_1)) ∧ (w32 (1 + x1_1)) < 85) <|
    klet (kst σ_5 23 (kup (σ_5 23) ((w32 (1 + x1_1)).toNat) r_4)) fun σ_7 =>
    (kloop (fun st => pf_Parser_takePerson_12_l66 st.1 x1_1 st.2) kFuel (σ_7, 0)).bind fun σ_16 =>
    (pf_Parser_takeSign_12 σ_16 59).bind fun σ_17 =>
    some σ_17
  else
    (pf_Parser_refuse_12 σ 2).bind fun σ_21 =>
    some σ_21
set_option maxHeartbeats 4000000 in
theorem bd_pf_Parser_takePerson_12 {x : kX} {l0 : Launch} {Q : State → Prop} (C : kCx x prog_6_method_4_code "PoetFines$Parser" none kcl yC 3 l0 R0_pf_Parser_takePerson_12) (σ : kM) {out : kM} (h : pf_Parser_takePerson_12 σ = some out) (hR : ∀ (τ : kM), out = τ → Q = kQ x none τ 0 0) : KW x 0 0 Q σ 0 [some (kr 12), none, none] [] := by
  unfold pf_Parser_takePerson_12 at h
  refine kw_aload_n C (kdec dc_Parser_takePerson 0 rfl) rfl 1 rfl rfl ?_
  refine kw_getR C (kdec dc_Parser_takePerson 1 rfl) 4 rfl fd_C_Parser_12_12 ?_
  refine kw_getI C (kdec dc_Parser_takePerson 2 rfl) 7 rfl fd_C_Parser_119_13 ?_
  refine kw_bipush (v := 8) C (kdec dc_Parser_takePerson 3 rfl) 9 rfl (by decide) ⟨by decide, by decide⟩ ?_
  refine kw_icmp_lt C (kdec dc_Parser_takePerson 4 rfl) 18 12 (by decide) rfl (fun hc9 => ?_) (fun hc9 => ?_)
  · rw [if_pos hc9] at h
    refine kw_aload_n C (kdec dc_Parser_takePerson 9 rfl) rfl 19 rfl rfl ?_
    refine kw_getR C (kdec dc_Parser_takePerson 10 rfl) 22 rfl fd_C_Parser_12_12 ?_
    refine kw_getI C (kdec dc_Parser_takePerson 11 rfl) 25 rfl fd_C_Parser_119_13 ?_
    obtain ⟨x1_1, ex1_1, h⟩ := klet_h h
    refine kw_top ex1_1 ?_
    refine kw_istore_n (L' := [some (kr 12), some (ki x1_1), none]) C (kdec dc_Parser_takePerson 12 rfl) rfl 26 rfl (by decide) rfl rfl ?_
    refine kw_aload_n C (kdec dc_Parser_takePerson 13 rfl) rfl 27 rfl rfl ?_
    refine kw_getR C (kdec dc_Parser_takePerson 14 rfl) 30 rfl fd_C_Parser_12_12 ?_
    refine kw_dup C (kdec dc_Parser_takePerson 15 rfl) 31 rfl rfl ?_
    refine kw_getI C (kdec dc_Parser_takePerson 16 rfl) 34 rfl fd_C_Parser_119_13 ?_
    refine kw_iconst C (kdec dc_Parser_takePerson 17 rfl) 35 rfl rfl ⟨by decide, by decide⟩ ?_
    refine kw_iadd C (kdec dc_Parser_takePerson 18 rfl) 36 rfl ?_
    obtain ⟨σ_2, eσ_2, h⟩ := klet_h h
    refine kw_putI C (kdec dc_Parser_takePerson 19 rfl) 39 rfl fp_C_Parser_119_13 ?_
    refine kw_sig eσ_2 ?_
    refine kw_aload_n C (kdec dc_Parser_takePerson 20 rfl) rfl 40 rfl rfl ?_
    refine kw_getR C (kdec dc_Parser_takePerson 21 rfl) 43 rfl fd_C_Parser_40_12 ?_
    obtain ⟨σ_3, hg_20, h⟩ := kbind_h h
    refine kw_callV (As := []) C (kdec dc_Parser_takePerson 22 rfl) 46 rfl cv_Parser_62 rfl rfl (mt_pf_Tokens_advance_24 l0 hg_20) ⟨rfl, rfl⟩ ⟨Nat.le_of_ble_eq_true rfl, Nat.le_of_ble_eq_true rfl⟩ ⟨Nat.zero_le _, Nat.zero_le _⟩ rfl (Nat.le_of_ble_eq_true rfl) ?_
    change KW x 0 0 Q σ_3 46 [some (kr 12), some (ki x1_1), none] []
    refine kw_aload_n C (kdec dc_Parser_takePerson 23 rfl) rfl 47 rfl rfl ?_
    refine kw_getR C (kdec dc_Parser_takePerson 24 rfl) 50 rfl fd_C_Parser_21_12 ?_
    refine kw_getR C (kdec dc_Parser_takePerson 25 rfl) 53 rfl fd_C_Parser_122_22 ?_
    refine kw_iconst C (kdec dc_Parser_takePerson 26 rfl) 54 rfl rfl ⟨by decide, by decide⟩ ?_
    refine kw_iload_n C (kdec dc_Parser_takePerson 27 rfl) rfl 55 rfl rfl ?_
    refine kw_iadd C (kdec dc_Parser_takePerson 28 rfl) 56 rfl ?_
    refine kw_aload_n C (kdec dc_Parser_takePerson 29 rfl) rfl 57 rfl rfl ?_
    refine kw_iconst C (kdec dc_Parser_takePerson 30 rfl) 58 rfl rfl ⟨by decide, by decide⟩ ?_
    refine kw_bipush (v := 99) C (kdec dc_Parser_takePerson 31 rfl) 60 rfl (by decide) ⟨by decide, by decide⟩ ?_
    obtain ⟨⟨r_4, σ_5⟩, hg_19, h⟩ := kbind_h h
    dsimp only at h
    refine kw_callV (As := [ki 0, ki 99]) C (kdec dc_Parser_takePerson 32 rfl) 63 rfl cv_Parser_65 rfl rfl (mt_pf_Parser_takeNumber_12 l0 hg_19) ⟨rfl, rfl⟩ ⟨Nat.le_of_ble_eq_true rfl, Nat.le_of_ble_eq_true rfl⟩ ⟨Nat.zero_le _, Nat.zero_le _⟩ rfl (Nat.le_of_ble_eq_true rfl) ?_
    change KW x 0 0 Q σ_5 63 [some (kr 12), some (ki x1_1), none] [ki r_4, ki (w32 (1 + x1_1)), kr 23]
    obtain ⟨hc_6, h⟩ := kchk_h h
    obtain ⟨σ_7, eσ_7, h⟩ := klet_h h
    refine kw_iast C (kdec dc_Parser_takePerson 33 rfl) 64 rfl rfl hc_6.1 hc_6.2 ?_
    refine kw_sig eσ_7 ?_
    refine kw_iconst C (kdec dc_Parser_takePerson 34 rfl) 65 rfl rfl ⟨by decide, by decide⟩ ?_
    refine kw_istore_n (L' := [some (kr 12), some (ki x1_1), some (ki 0)]) C (kdec dc_Parser_takePerson 35 rfl) rfl 66 rfl (by decide) rfl rfl ?_
    obtain ⟨ex_14, hl_15, h⟩ := kbind_h h
    refine lp_pf_Parser_takePerson_12_l66 C x1_1 ?_ kFuel σ_7 0 hl_15
    · intro σ_16 e
      subst ex_14
      try dsimp only at h
      refine kw_aload_n C (kdec dc_Parser_takePerson 52 rfl) rfl 100 rfl rfl ?_
      refine kw_bipush (v := 59) C (kdec dc_Parser_takePerson 53 rfl) 102 rfl (by decide) ⟨by decide, by decide⟩ ?_
      obtain ⟨σ_17, hg_18, h⟩ := kbind_h h
      refine kw_callV (As := [ki 59]) C (kdec dc_Parser_takePerson 54 rfl) 105 rfl cv_Parser_72 rfl rfl (mt_pf_Parser_takeSign_12 l0 hg_18) ⟨rfl, rfl⟩ ⟨Nat.le_of_ble_eq_true rfl, Nat.le_of_ble_eq_true rfl⟩ ⟨Nat.zero_le _, Nat.zero_le _⟩ rfl (Nat.le_of_ble_eq_true rfl) ?_
      change KW x 0 0 Q σ_17 105 [some (kr 12), none, none] []
      obtain rfl := Option.some.inj h
      exact kw_Q (hR _ rfl) (kw_return C (kdec dc_Parser_takePerson 55 rfl))
  · rw [if_neg hc9] at h
    refine kw_aload_n C (kdec dc_Parser_takePerson 5 rfl) rfl 13 rfl rfl ?_
    refine kw_iconst C (kdec dc_Parser_takePerson 6 rfl) 14 rfl rfl ⟨by decide, by decide⟩ ?_
    obtain ⟨σ_21, hg_22, h⟩ := kbind_h h
    refine kw_callV (As := [ki 2]) C (kdec dc_Parser_takePerson 7 rfl) 17 rfl cv_Parser_110 rfl rfl (mt_pf_Parser_refuse_12 l0 hg_22) ⟨rfl, rfl⟩ ⟨Nat.le_of_ble_eq_true rfl, Nat.le_of_ble_eq_true rfl⟩ ⟨Nat.zero_le _, Nat.zero_le _⟩ rfl (Nat.le_of_ble_eq_true rfl) ?_
    change KW x 0 0 Q σ_21 17 [some (kr 12), none, none] []
    obtain rfl := Option.some.inj h
    exact kw_Q (hR _ rfl) (kw_return C (kdec dc_Parser_takePerson 8 rfl))
theorem mt_pf_Parser_takePerson_12 (l0 : Launch) {σ : kM} {τ : kM} (h : pf_Parser_takePerson_12 σ = some τ) : kMet l0 ky_Parser_takePerson prog_6_method_4_code 3 none R0_pf_Parser_takePerson_12 kcl yC σ [kr 12] none τ := kMet.of' [some (kr 12), none, none] (by decide) (Nat.le_of_ble_eq_true rfl) ⟨rfl, trivial⟩ (fun x C => bd_pf_Parser_takePerson_12 C σ h (fun τ e => by subst e; rfl))
def R0_pf_Parser_parse_12 : Room := ({ frames := 86, cells := 0, slots := 0, locals := 2193 } : Room)
def pf_Parser_parse_12_l73_j176 (σ : kM) (x2 : Int) : Option ((kM × Int) ⊕ ((kM))) :=
  klet (w32 (x2 + 1)) fun x2_10 =>
  some (Sum.inl (σ, x2_10))
set_option maxHeartbeats 4000000 in
theorem bd_pf_Parser_parse_12_l73_j176 {x : kX} {l0 : Launch} {Q : State → Prop} (C : kCx x prog_6_method_2_code "PoetFines$Parser" (some .int) kcl yC 4 l0 R0_pf_Parser_parse_12) (σ : kM) (x2 : Int) {out : (kM × Int) ⊕ ((kM))} (h : pf_Parser_parse_12_l73_j176 σ x2 = some out) (hC : ∀ (σ' : kM) (x2' : Int), out = Sum.inl (σ', x2') → KW x 0 0 Q σ' 73 [some (kr 12), none, some (ki x2'), none] []) (hX182 : ∀ (σ' : kM), out = Sum.inr σ' → KW x 0 0 Q σ' 182 [some (kr 12), none, none, none] []) : KW x 0 0 Q σ 176 [some (kr 12), none, some (ki x2), none] [] := by
  unfold pf_Parser_parse_12_l73_j176 at h
  obtain ⟨x2_10, ex2_10, h⟩ := klet_h h
  refine kw_iinc (L' := [some (kr 12), none, some (ki x2_10), none]) C (kdec dc_Parser_parse 83 rfl) 179 rfl rfl (by decide) rfl (by rw [ex2_10]; rfl) ?_
  refine kw_goto C (kdec dc_Parser_parse 84 rfl) 73 (by decide) ?_
  obtain rfl := Option.some.inj h
  exact (hC _ _ rfl)
def pf_Parser_parse_12_l73 (σ : kM) (x2 : Int) : Option ((kM × Int) ⊕ ((kM))) :=
  if 700 ≤ x2 then
    some (Sum.inr σ)
  else
    (pf_Tokens_kind_24 σ).bind fun r_7 =>
    if r_7 = 0 then
      some (Sum.inr σ)
    else
      (pf_Tokens_word_24 σ).bind fun r_8 =>
      kchk (0 ≤ r_8 ∧ r_8 < 18) <|
      if r_8 = 1 then
        (pf_Parser_takePerson_12 σ).bind fun σ_24 =>
        pf_Parser_parse_12_l73_j176 σ_24 x2
      else
        kchk (0 ≤ r_8 ∧ r_8 < 18) <|
        if r_8 = 2 then
          (pf_Parser_takePoet_12 σ).bind fun σ_21 =>
          pf_Parser_parse_12_l73_j176 σ_21 x2
        else
          kchk (0 ≤ r_8 ∧ r_8 < 18) <|
          if r_8 = 3 then
            (pf_Parser_takeRule_12 σ 0).bind fun σ_18 =>
            pf_Parser_parse_12_l73_j176 σ_18 x2
          else
            kchk (0 ≤ r_8 ∧ r_8 < 18) <|
            if r_8 = 4 then
              (pf_Parser_takeRule_12 σ 1).bind fun σ_15 =>
              pf_Parser_parse_12_l73_j176 σ_15 x2
            else
              kchk (0 ≤ r_8 ∧ r_8 < 18) <|
              if r_8 = 5 then
                (pf_Parser_takeRule_12 σ 2).bind fun σ_12 =>
                pf_Parser_parse_12_l73_j176 σ_12 x2
              else
                (pf_Parser_refuse_12 σ 1).bind fun σ_9 =>
                pf_Parser_parse_12_l73_j176 σ_9 x2
set_option maxHeartbeats 4000000 in
theorem bd_pf_Parser_parse_12_l73 {x : kX} {l0 : Launch} {Q : State → Prop} (C : kCx x prog_6_method_2_code "PoetFines$Parser" (some .int) kcl yC 4 l0 R0_pf_Parser_parse_12) (σ : kM) (x2 : Int) {out : (kM × Int) ⊕ ((kM))} (h : pf_Parser_parse_12_l73 σ x2 = some out) (hC : ∀ (σ' : kM) (x2' : Int), out = Sum.inl (σ', x2') → KW x 0 0 Q σ' 73 [some (kr 12), none, some (ki x2'), none] []) (hX182 : ∀ (σ' : kM), out = Sum.inr σ' → KW x 0 0 Q σ' 182 [some (kr 12), none, none, none] []) : KW x 0 0 Q σ 73 [some (kr 12), none, some (ki x2), none] [] := by
  unfold pf_Parser_parse_12_l73 at h
  refine kw_iload_n C (kdec dc_Parser_parse 36 rfl) rfl 74 rfl rfl ?_
  refine kw_sipush (v := 700) C (kdec dc_Parser_parse 37 rfl) 77 rfl (by decide) ⟨by decide, by decide⟩ ?_
  refine kw_icmp_ge C (kdec dc_Parser_parse 38 rfl) 182 80 (by decide) rfl (fun hc77 => ?_) (fun hc77 => ?_)
  · rw [if_pos hc77] at h
    obtain rfl := Option.some.inj h
    exact kw_sub (L' := [some (kr 12), none, none, none]) ⟨rfl, trivial⟩ (hX182 _ rfl)
  · rw [if_neg hc77] at h
    refine kw_aload_n C (kdec dc_Parser_parse 39 rfl) rfl 81 rfl rfl ?_
    refine kw_getR C (kdec dc_Parser_parse 40 rfl) 84 rfl fd_C_Parser_40_12 ?_
    obtain ⟨r_7, hg_28, h⟩ := kbind_h h
    refine kw_callV (As := []) C (kdec dc_Parser_parse 41 rfl) 87 rfl cv_Parser_76 rfl rfl (mt_pf_Tokens_kind_24 l0 hg_28) ⟨rfl, rfl⟩ ⟨Nat.le_of_ble_eq_true rfl, Nat.le_of_ble_eq_true rfl⟩ ⟨Nat.zero_le _, Nat.zero_le _⟩ rfl (Nat.le_of_ble_eq_true rfl) ?_
    change KW x 0 0 Q σ 87 [some (kr 12), none, some (ki x2), none] [ki r_7]
    refine kw_if_eq C (kdec dc_Parser_parse 42 rfl) 182 90 (by decide) rfl (fun hc87 => ?_) (fun hc87 => ?_)
    · rw [if_pos hc87] at h
      obtain rfl := Option.some.inj h
      exact kw_sub (L' := [some (kr 12), none, none, none]) ⟨rfl, trivial⟩ (hX182 _ rfl)
    · rw [if_neg hc87] at h
      refine kw_aload_n C (kdec dc_Parser_parse 43 rfl) rfl 91 rfl rfl ?_
      refine kw_getR C (kdec dc_Parser_parse 44 rfl) 94 rfl fd_C_Parser_40_12 ?_
      obtain ⟨r_8, hg_27, h⟩ := kbind_h h
      refine kw_callV (As := []) C (kdec dc_Parser_parse 45 rfl) 97 rfl cv_Parser_80 rfl rfl (mt_pf_Tokens_word_24 l0 hg_27) ⟨rfl, rfl⟩ ⟨Nat.le_of_ble_eq_true rfl, Nat.le_of_ble_eq_true rfl⟩ ⟨Nat.zero_le _, Nat.zero_le _⟩ rfl (Nat.le_of_ble_eq_true rfl) ?_
      change KW x 0 0 Q σ 97 [some (kr 12), none, some (ki x2), none] [ke (4 * r_8)]
      refine kw_estore_n (L' := [some (kr 12), none, some (ki x2), some (ke (4 * r_8))]) C (kdec dc_Parser_parse 46 rfl) rfl 98 rfl (by decide) rfl rfl ?_
      refine kw_eload_n C (kdec dc_Parser_parse 47 rfl) rfl 99 rfl rfl ?_
      refine kw_gsE (i := 1) C (kdec dc_Parser_parse 48 rfl) 102 rfl (by decide) (by decide) wd_959 ?_
      obtain ⟨hc_26, h⟩ := kchk_h h
      refine kw_acmp_ne C (kdec dc_Parser_parse 49 rfl) 112 105 (by decide) rfl hc_26 ⟨by decide, by decide⟩ (fun hc102 => ?_) (fun hc102 => ?_)
      · rw [if_neg hc102] at h
        refine kw_eload_n C (kdec dc_Parser_parse 53 rfl) rfl 113 rfl rfl ?_
        refine kw_gsE (i := 2) C (kdec dc_Parser_parse 54 rfl) 116 rfl (by decide) (by decide) wd_969 ?_
        obtain ⟨hc_23, h⟩ := kchk_h h
        refine kw_acmp_ne C (kdec dc_Parser_parse 55 rfl) 126 119 (by decide) rfl hc_23 ⟨by decide, by decide⟩ (fun hc116 => ?_) (fun hc116 => ?_)
        · rw [if_neg hc116] at h
          refine kw_eload_n C (kdec dc_Parser_parse 59 rfl) rfl 127 rfl rfl ?_
          refine kw_gsE (i := 3) C (kdec dc_Parser_parse 60 rfl) 130 rfl (by decide) (by decide) wd_991 ?_
          obtain ⟨hc_20, h⟩ := kchk_h h
          refine kw_acmp_ne C (kdec dc_Parser_parse 61 rfl) 141 133 (by decide) rfl hc_20 ⟨by decide, by decide⟩ (fun hc130 => ?_) (fun hc130 => ?_)
          · rw [if_neg hc130] at h
            refine kw_eload_n C (kdec dc_Parser_parse 66 rfl) rfl 142 rfl rfl ?_
            refine kw_gsE (i := 4) C (kdec dc_Parser_parse 67 rfl) 145 rfl (by decide) (by decide) wd_1048 ?_
            obtain ⟨hc_17, h⟩ := kchk_h h
            refine kw_acmp_ne C (kdec dc_Parser_parse 68 rfl) 156 148 (by decide) rfl hc_17 ⟨by decide, by decide⟩ (fun hc145 => ?_) (fun hc145 => ?_)
            · rw [if_neg hc145] at h
              refine kw_eload_n C (kdec dc_Parser_parse 73 rfl) rfl 157 rfl rfl ?_
              refine kw_gsE (i := 5) C (kdec dc_Parser_parse 74 rfl) 160 rfl (by decide) (by decide) wd_1050 ?_
              obtain ⟨hc_14, h⟩ := kchk_h h
              refine kw_acmp_ne C (kdec dc_Parser_parse 75 rfl) 171 163 (by decide) rfl hc_14 ⟨by decide, by decide⟩ (fun hc160 => ?_) (fun hc160 => ?_)
              · rw [if_neg hc160] at h
                refine kw_aload_n C (kdec dc_Parser_parse 80 rfl) rfl 172 rfl rfl ?_
                refine kw_iconst C (kdec dc_Parser_parse 81 rfl) 173 rfl rfl ⟨by decide, by decide⟩ ?_
                obtain ⟨σ_9, hg_11, h⟩ := kbind_h h
                refine kw_callV (As := [ki 1]) C (kdec dc_Parser_parse 82 rfl) 176 rfl cv_Parser_110 rfl rfl (mt_pf_Parser_refuse_12 l0 hg_11) ⟨rfl, rfl⟩ ⟨Nat.le_of_ble_eq_true rfl, Nat.le_of_ble_eq_true rfl⟩ ⟨Nat.zero_le _, Nat.zero_le _⟩ rfl (Nat.le_of_ble_eq_true rfl) ?_
                change KW x 0 0 Q σ_9 176 [some (kr 12), none, some (ki x2), some (ke (4 * r_8))] []
                exact kw_sub (L' := [some (kr 12), none, some (ki x2), none]) ⟨rfl, rfl, trivial⟩ (bd_pf_Parser_parse_12_l73_j176 C σ_9 x2 h hC hX182)
              · rw [if_pos hc160] at h
                refine kw_aload_n C (kdec dc_Parser_parse 76 rfl) rfl 164 rfl rfl ?_
                refine kw_iconst C (kdec dc_Parser_parse 77 rfl) 165 rfl rfl ⟨by decide, by decide⟩ ?_
                obtain ⟨σ_12, hg_13, h⟩ := kbind_h h
                refine kw_callV (As := [ki 2]) C (kdec dc_Parser_parse 78 rfl) 168 rfl cv_Parser_101 rfl rfl (mt_pf_Parser_takeRule_12 l0 hg_13) ⟨rfl, rfl⟩ ⟨Nat.le_of_ble_eq_true rfl, Nat.le_of_ble_eq_true rfl⟩ ⟨Nat.zero_le _, Nat.zero_le _⟩ rfl (Nat.le_of_ble_eq_true rfl) ?_
                change KW x 0 0 Q σ_12 168 [some (kr 12), none, some (ki x2), some (ke (4 * r_8))] []
                refine kw_goto C (kdec dc_Parser_parse 79 rfl) 176 (by decide) ?_
                exact kw_sub (L' := [some (kr 12), none, some (ki x2), none]) ⟨rfl, rfl, trivial⟩ (bd_pf_Parser_parse_12_l73_j176 C σ_12 x2 h hC hX182)
            · rw [if_pos hc145] at h
              refine kw_aload_n C (kdec dc_Parser_parse 69 rfl) rfl 149 rfl rfl ?_
              refine kw_iconst C (kdec dc_Parser_parse 70 rfl) 150 rfl rfl ⟨by decide, by decide⟩ ?_
              obtain ⟨σ_15, hg_16, h⟩ := kbind_h h
              refine kw_callV (As := [ki 1]) C (kdec dc_Parser_parse 71 rfl) 153 rfl cv_Parser_101 rfl rfl (mt_pf_Parser_takeRule_12 l0 hg_16) ⟨rfl, rfl⟩ ⟨Nat.le_of_ble_eq_true rfl, Nat.le_of_ble_eq_true rfl⟩ ⟨Nat.zero_le _, Nat.zero_le _⟩ rfl (Nat.le_of_ble_eq_true rfl) ?_
              change KW x 0 0 Q σ_15 153 [some (kr 12), none, some (ki x2), some (ke (4 * r_8))] []
              refine kw_goto C (kdec dc_Parser_parse 72 rfl) 176 (by decide) ?_
              exact kw_sub (L' := [some (kr 12), none, some (ki x2), none]) ⟨rfl, rfl, trivial⟩ (bd_pf_Parser_parse_12_l73_j176 C σ_15 x2 h hC hX182)
          · rw [if_pos hc130] at h
            refine kw_aload_n C (kdec dc_Parser_parse 62 rfl) rfl 134 rfl rfl ?_
            refine kw_iconst C (kdec dc_Parser_parse 63 rfl) 135 rfl rfl ⟨by decide, by decide⟩ ?_
            obtain ⟨σ_18, hg_19, h⟩ := kbind_h h
            refine kw_callV (As := [ki 0]) C (kdec dc_Parser_parse 64 rfl) 138 rfl cv_Parser_101 rfl rfl (mt_pf_Parser_takeRule_12 l0 hg_19) ⟨rfl, rfl⟩ ⟨Nat.le_of_ble_eq_true rfl, Nat.le_of_ble_eq_true rfl⟩ ⟨Nat.zero_le _, Nat.zero_le _⟩ rfl (Nat.le_of_ble_eq_true rfl) ?_
            change KW x 0 0 Q σ_18 138 [some (kr 12), none, some (ki x2), some (ke (4 * r_8))] []
            refine kw_goto C (kdec dc_Parser_parse 65 rfl) 176 (by decide) ?_
            exact kw_sub (L' := [some (kr 12), none, some (ki x2), none]) ⟨rfl, rfl, trivial⟩ (bd_pf_Parser_parse_12_l73_j176 C σ_18 x2 h hC hX182)
        · rw [if_pos hc116] at h
          refine kw_aload_n C (kdec dc_Parser_parse 56 rfl) rfl 120 rfl rfl ?_
          obtain ⟨σ_21, hg_22, h⟩ := kbind_h h
          refine kw_callV (As := []) C (kdec dc_Parser_parse 57 rfl) 123 rfl cv_Parser_93 rfl rfl (mt_pf_Parser_takePoet_12 l0 hg_22) ⟨rfl, rfl⟩ ⟨Nat.le_of_ble_eq_true rfl, Nat.le_of_ble_eq_true rfl⟩ ⟨Nat.zero_le _, Nat.zero_le _⟩ rfl (Nat.le_of_ble_eq_true rfl) ?_
          change KW x 0 0 Q σ_21 123 [some (kr 12), none, some (ki x2), some (ke (4 * r_8))] []
          refine kw_goto C (kdec dc_Parser_parse 58 rfl) 176 (by decide) ?_
          exact kw_sub (L' := [some (kr 12), none, some (ki x2), none]) ⟨rfl, rfl, trivial⟩ (bd_pf_Parser_parse_12_l73_j176 C σ_21 x2 h hC hX182)
      · rw [if_pos hc102] at h
        refine kw_aload_n C (kdec dc_Parser_parse 50 rfl) rfl 106 rfl rfl ?_
        obtain ⟨σ_24, hg_25, h⟩ := kbind_h h
        refine kw_callV (As := []) C (kdec dc_Parser_parse 51 rfl) 109 rfl cv_Parser_87 rfl rfl (mt_pf_Parser_takePerson_12 l0 hg_25) ⟨rfl, rfl⟩ ⟨Nat.le_of_ble_eq_true rfl, Nat.le_of_ble_eq_true rfl⟩ ⟨Nat.zero_le _, Nat.zero_le _⟩ rfl (Nat.le_of_ble_eq_true rfl) ?_
        change KW x 0 0 Q σ_24 109 [some (kr 12), none, some (ki x2), some (ke (4 * r_8))] []
        refine kw_goto C (kdec dc_Parser_parse 52 rfl) 176 (by decide) ?_
        exact kw_sub (L' := [some (kr 12), none, some (ki x2), none]) ⟨rfl, rfl, trivial⟩ (bd_pf_Parser_parse_12_l73_j176 C σ_24 x2 h hC hX182)
theorem lp_pf_Parser_parse_12_l73 {x : kX} {l0 : Launch} {Q : State → Prop} (C : kCx x prog_6_method_2_code "PoetFines$Parser" (some .int) kcl yC 4 l0 R0_pf_Parser_parse_12) {ex : (kM)} (hX182 : ∀ (σ' : kM), ex = σ' → KW x 0 0 Q σ' 182 [some (kr 12), none, none, none] []) (n : Nat) (σ : kM) (x2 : Int) (h : kloop (fun st => pf_Parser_parse_12_l73 st.1 st.2) n (σ, x2) = some ex) : KW x 0 0 Q σ 73 [some (kr 12), none, some (ki x2), none] [] :=
  kloop_ind (P := (fun st : kM × Int => KW x 0 0 Q st.1 73 [some (kr 12), none, some (ki (st.2)), none] [])) (fun st out hb hc hx => bd_pf_Parser_parse_12_l73 C st.1 st.2 hb (fun a0 a1 e => hc _ e) (fun a0 e => hX182 _ ((hx _ e).symm))) n (σ, x2) h
def pf_Parser_parse_12_j71 (σ : kM) : Option (Int × kM) :=
  (kloop (fun st => pf_Parser_parse_12_l73 st.1 st.2) kFuel (σ, 0)).bind fun σ_31 =>
  some ((σ_31 12 3, σ_31))
set_option maxHeartbeats 4000000 in
theorem bd_pf_Parser_parse_12_j71 {x : kX} {l0 : Launch} {Q : State → Prop} (C : kCx x prog_6_method_2_code "PoetFines$Parser" (some .int) kcl yC 4 l0 R0_pf_Parser_parse_12) (σ : kM) {out : Int × kM} (h : pf_Parser_parse_12_j71 σ = some out) (hR : ∀ (r : Int) (τ : kM), out = (r, τ) → Q = kQ x (some (ki r)) τ 0 0) : KW x 0 0 Q σ 71 [some (kr 12), none, none, none] [] := by
  unfold pf_Parser_parse_12_j71 at h
  refine kw_iconst C (kdec dc_Parser_parse 34 rfl) 72 rfl rfl ⟨by decide, by decide⟩ ?_
  refine kw_istore_n (L' := [some (kr 12), none, some (ki 0), none]) C (kdec dc_Parser_parse 35 rfl) rfl 73 rfl (by decide) rfl rfl ?_
  obtain ⟨ex_29, hl_30, h⟩ := kbind_h h
  refine lp_pf_Parser_parse_12_l73 C ?_ kFuel σ 0 hl_30
  · intro σ_31 e
    subst ex_29
    try dsimp only at h
    refine kw_aload_n C (kdec dc_Parser_parse 85 rfl) rfl 183 rfl rfl ?_
    refine kw_getI C (kdec dc_Parser_parse 86 rfl) 186 rfl fd_C_Parser_29_12 ?_
    obtain rfl := Option.some.inj h
    exact kw_Q (hR _ _ rfl) (kw_ireturn C (kdec dc_Parser_parse 87 rfl))
def pf_Parser_parse_12 (σ : kM) (x1 : Int) : Option (Int × kM) :=
  klet (kst σ 12 (kup (σ 12) 3 0)) fun σ_1 =>
  klet (kst σ_1 12 (kup (σ_1 12) 2 ((-1)))) fun σ_2 =>
  (pf_Law_clear_13 σ_2).bind fun σ_3 =>
  (pf_World_clear_22 σ_3).bind fun σ_4 =>
  (pf_Tokens_scan_24 σ_4 x1).bind fun σ_5 =>
  (pf_Tokens_isWord_24 σ_5 0).bind fun r_6 =>
  if r_6 = 0 then
    pf_Parser_parse_12_j71 σ_5
  else
    (pf_Tokens_advance_24 σ_5).bind fun σ_32 =>
    (pf_Parser_takeNumber_12 σ_32 2 4).bind fun (r_33, σ_34) =>
    klet (kst σ_34 13 (kup (σ_34 13) 0 r_33)) fun σ_35 =>
    (pf_Parser_takeSign_12 σ_35 59).bind fun σ_36 =>
    pf_Parser_parse_12_j71 σ_36
set_option maxHeartbeats 4000000 in
theorem bd_pf_Parser_parse_12 {x : kX} {l0 : Launch} {Q : State → Prop} (C : kCx x prog_6_method_2_code "PoetFines$Parser" (some .int) kcl yC 4 l0 R0_pf_Parser_parse_12) (σ : kM) (x1 : Int) {out : Int × kM} (h : pf_Parser_parse_12 σ x1 = some out) (hR : ∀ (r : Int) (τ : kM), out = (r, τ) → Q = kQ x (some (ki r)) τ 0 0) : KW x 0 0 Q σ 0 [some (kr 12), some (ki x1), none, none] [] := by
  unfold pf_Parser_parse_12 at h
  refine kw_aload_n C (kdec dc_Parser_parse 0 rfl) rfl 1 rfl rfl ?_
  refine kw_iconst C (kdec dc_Parser_parse 1 rfl) 2 rfl rfl ⟨by decide, by decide⟩ ?_
  obtain ⟨σ_1, eσ_1, h⟩ := klet_h h
  refine kw_putI C (kdec dc_Parser_parse 2 rfl) 5 rfl fp_C_Parser_29_12 ?_
  refine kw_sig eσ_1 ?_
  refine kw_aload_n C (kdec dc_Parser_parse 3 rfl) rfl 6 rfl rfl ?_
  refine kw_iconst C (kdec dc_Parser_parse 4 rfl) 7 rfl rfl ⟨by decide, by decide⟩ ?_
  obtain ⟨σ_2, eσ_2, h⟩ := klet_h h
  refine kw_putI C (kdec dc_Parser_parse 5 rfl) 10 rfl fp_C_Parser_25_12 ?_
  refine kw_sig eσ_2 ?_
  refine kw_aload_n C (kdec dc_Parser_parse 6 rfl) rfl 11 rfl rfl ?_
  refine kw_getR C (kdec dc_Parser_parse 7 rfl) 14 rfl fd_C_Parser_12_12 ?_
  obtain ⟨σ_3, hg_43, h⟩ := kbind_h h
  refine kw_callV (As := []) C (kdec dc_Parser_parse 8 rfl) 17 rfl cv_Parser_44 rfl rfl (mt_pf_Law_clear_13 l0 hg_43) ⟨rfl, rfl⟩ ⟨Nat.le_of_ble_eq_true rfl, Nat.le_of_ble_eq_true rfl⟩ ⟨Nat.zero_le _, Nat.zero_le _⟩ rfl (Nat.le_of_ble_eq_true rfl) ?_
  change KW x 0 0 Q σ_3 17 [some (kr 12), some (ki x1), none, none] []
  refine kw_aload_n C (kdec dc_Parser_parse 9 rfl) rfl 18 rfl rfl ?_
  refine kw_getR C (kdec dc_Parser_parse 10 rfl) 21 rfl fd_C_Parser_21_12 ?_
  obtain ⟨σ_4, hg_42, h⟩ := kbind_h h
  refine kw_callV (As := []) C (kdec dc_Parser_parse 11 rfl) 24 rfl cv_Parser_47 rfl rfl (mt_pf_World_clear_22 l0 hg_42) ⟨rfl, rfl⟩ ⟨Nat.le_of_ble_eq_true rfl, Nat.le_of_ble_eq_true rfl⟩ ⟨Nat.zero_le _, Nat.zero_le _⟩ rfl (Nat.le_of_ble_eq_true rfl) ?_
  change KW x 0 0 Q σ_4 24 [some (kr 12), some (ki x1), none, none] []
  refine kw_aload_n C (kdec dc_Parser_parse 12 rfl) rfl 25 rfl rfl ?_
  refine kw_getR C (kdec dc_Parser_parse 13 rfl) 28 rfl fd_C_Parser_40_12 ?_
  refine kw_iload_n C (kdec dc_Parser_parse 14 rfl) rfl 29 rfl rfl ?_
  obtain ⟨σ_5, hg_41, h⟩ := kbind_h h
  refine kw_callV (As := [ki x1]) C (kdec dc_Parser_parse 15 rfl) 32 rfl cv_Parser_48 rfl rfl (mt_pf_Tokens_scan_24 l0 hg_41) ⟨rfl, rfl⟩ ⟨Nat.le_of_ble_eq_true rfl, Nat.le_of_ble_eq_true rfl⟩ ⟨Nat.zero_le _, Nat.zero_le _⟩ rfl (Nat.le_of_ble_eq_true rfl) ?_
  change KW x 0 0 Q σ_5 32 [some (kr 12), some (ki x1), none, none] []
  refine kw_aload_n C (kdec dc_Parser_parse 16 rfl) rfl 33 rfl rfl ?_
  refine kw_getR C (kdec dc_Parser_parse 17 rfl) 36 rfl fd_C_Parser_40_12 ?_
  refine kw_gsE (i := 0) C (kdec dc_Parser_parse 18 rfl) 39 rfl (by decide) (by decide) wd_906 ?_
  obtain ⟨r_6, hg_40, h⟩ := kbind_h h
  refine kw_callV (As := [ke (4 * 0)]) C (kdec dc_Parser_parse 19 rfl) 42 rfl cv_Parser_58 rfl rfl (mt_pf_Tokens_isWord_24 l0 hg_40) ⟨rfl, rfl⟩ ⟨Nat.le_of_ble_eq_true rfl, Nat.le_of_ble_eq_true rfl⟩ ⟨Nat.zero_le _, Nat.zero_le _⟩ rfl (Nat.le_of_ble_eq_true rfl) ?_
  change KW x 0 0 Q σ_5 42 [some (kr 12), some (ki x1), none, none] [ki r_6]
  refine kw_if_eq C (kdec dc_Parser_parse 20 rfl) 71 45 (by decide) rfl (fun hc42 => ?_) (fun hc42 => ?_)
  · rw [if_pos hc42] at h
    exact kw_sub (L' := [some (kr 12), none, none, none]) ⟨rfl, trivial⟩ (bd_pf_Parser_parse_12_j71 C σ_5 h hR)
  · rw [if_neg hc42] at h
    refine kw_aload_n C (kdec dc_Parser_parse 21 rfl) rfl 46 rfl rfl ?_
    refine kw_getR C (kdec dc_Parser_parse 22 rfl) 49 rfl fd_C_Parser_40_12 ?_
    obtain ⟨σ_32, hg_39, h⟩ := kbind_h h
    refine kw_callV (As := []) C (kdec dc_Parser_parse 23 rfl) 52 rfl cv_Parser_62 rfl rfl (mt_pf_Tokens_advance_24 l0 hg_39) ⟨rfl, rfl⟩ ⟨Nat.le_of_ble_eq_true rfl, Nat.le_of_ble_eq_true rfl⟩ ⟨Nat.zero_le _, Nat.zero_le _⟩ rfl (Nat.le_of_ble_eq_true rfl) ?_
    change KW x 0 0 Q σ_32 52 [some (kr 12), some (ki x1), none, none] []
    refine kw_aload_n C (kdec dc_Parser_parse 24 rfl) rfl 53 rfl rfl ?_
    refine kw_getR C (kdec dc_Parser_parse 25 rfl) 56 rfl fd_C_Parser_12_12 ?_
    refine kw_aload_n C (kdec dc_Parser_parse 26 rfl) rfl 57 rfl rfl ?_
    refine kw_iconst C (kdec dc_Parser_parse 27 rfl) 58 rfl rfl ⟨by decide, by decide⟩ ?_
    refine kw_iconst C (kdec dc_Parser_parse 28 rfl) 59 rfl rfl ⟨by decide, by decide⟩ ?_
    obtain ⟨⟨r_33, σ_34⟩, hg_38, h⟩ := kbind_h h
    dsimp only at h
    refine kw_callV (As := [ki 2, ki 4]) C (kdec dc_Parser_parse 29 rfl) 62 rfl cv_Parser_65 rfl rfl (mt_pf_Parser_takeNumber_12 l0 hg_38) ⟨rfl, rfl⟩ ⟨Nat.le_of_ble_eq_true rfl, Nat.le_of_ble_eq_true rfl⟩ ⟨Nat.zero_le _, Nat.zero_le _⟩ rfl (Nat.le_of_ble_eq_true rfl) ?_
    change KW x 0 0 Q σ_34 62 [some (kr 12), some (ki x1), none, none] [ki r_33, kr 13]
    obtain ⟨σ_35, eσ_35, h⟩ := klet_h h
    refine kw_putI C (kdec dc_Parser_parse 30 rfl) 65 rfl fp_C_Parser_69_13 ?_
    refine kw_sig eσ_35 ?_
    refine kw_aload_n C (kdec dc_Parser_parse 31 rfl) rfl 66 rfl rfl ?_
    refine kw_bipush (v := 59) C (kdec dc_Parser_parse 32 rfl) 68 rfl (by decide) ⟨by decide, by decide⟩ ?_
    obtain ⟨σ_36, hg_37, h⟩ := kbind_h h
    refine kw_callV (As := [ki 59]) C (kdec dc_Parser_parse 33 rfl) 71 rfl cv_Parser_72 rfl rfl (mt_pf_Parser_takeSign_12 l0 hg_37) ⟨rfl, rfl⟩ ⟨Nat.le_of_ble_eq_true rfl, Nat.le_of_ble_eq_true rfl⟩ ⟨Nat.zero_le _, Nat.zero_le _⟩ rfl (Nat.le_of_ble_eq_true rfl) ?_
    change KW x 0 0 Q σ_36 71 [some (kr 12), some (ki x1), none, none] []
    exact kw_sub (L' := [some (kr 12), none, none, none]) ⟨rfl, trivial⟩ (bd_pf_Parser_parse_12_j71 C σ_36 h hR)
theorem mt_pf_Parser_parse_12 (l0 : Launch) {σ : kM} {x1 : Int} {r : Int} {τ : kM} (h : pf_Parser_parse_12 σ x1 = some (r, τ)) : kMet l0 ky_Parser_parse prog_6_method_2_code 4 (some .int) R0_pf_Parser_parse_12 kcl yC σ [kr 12, ki x1] (some (ki r)) τ := kMet.of' [some (kr 12), some (ki x1), none, none] (by decide) (Nat.le_of_ble_eq_true rfl) ⟨rfl, rfl, trivial⟩ (fun x C => bd_pf_Parser_parse_12 C σ x1 h (fun r τ e => by cases e; rfl))
def R0_pf_Rules_copyFrom_7_17 : Room := ({ frames := 1, cells := 0, slots := 0, locals := 60 } : Room)
def pf_Rules_copyFrom_7_17_l27 (σ : kM) (x2 : Int) : Option ((kM × Int) ⊕ ((kM))) :=
  if 3 ≤ x2 then
    some (Sum.inr σ)
  else
    kchk (0 ≤ x2 ∧ x2 < 3) <|
    kchk (0 ≤ x2 ∧ x2 < 3) <|
    klet (kst σ 9 (kup (σ 9) x2.toNat (σ 19 x2.toNat))) fun σ_6 =>
    kchk (0 ≤ x2 ∧ x2 < 3) <|
    kchk (0 ≤ x2 ∧ x2 < 3) <|
    klet (kst σ_6 10 (kup (σ_6 10) x2.toNat (σ_6 20 x2.toNat))) fun σ_9 =>
    klet (w32 (x2 + 1)) fun x2_10 =>
    some (Sum.inl (σ_9, x2_10))
set_option maxHeartbeats 4000000 in
theorem bd_pf_Rules_copyFrom_7_17_l27 {x : kX} {l0 : Launch} {Q : State → Prop} (C : kCx x prog_7_method_3_code "PoetFines$Rules" none kcl yC 3 l0 R0_pf_Rules_copyFrom_7_17) (σ : kM) (x2 : Int) {out : (kM × Int) ⊕ ((kM))} (h : pf_Rules_copyFrom_7_17_l27 σ x2 = some out) (hC : ∀ (σ' : kM) (x2' : Int), out = Sum.inl (σ', x2') → KW x 0 0 Q σ' 27 [some (kr 7), some (kr 17), some (ki x2')] []) (hX62 : ∀ (σ' : kM), out = Sum.inr σ' → KW x 0 0 Q σ' 62 [none, none, none] []) : KW x 0 0 Q σ 27 [some (kr 7), some (kr 17), some (ki x2)] [] := by
  unfold pf_Rules_copyFrom_7_17_l27 at h
  refine kw_iload_n C (kdec dc_Rules_copyFrom 15 rfl) rfl 28 rfl rfl ?_
  refine kw_iconst C (kdec dc_Rules_copyFrom 16 rfl) 29 rfl rfl ⟨by decide, by decide⟩ ?_
  refine kw_icmp_ge C (kdec dc_Rules_copyFrom 17 rfl) 62 32 (by decide) rfl (fun hc29 => ?_) (fun hc29 => ?_)
  · rw [if_pos hc29] at h
    obtain rfl := Option.some.inj h
    exact kw_sub (L' := [none, none, none]) trivial (hX62 _ rfl)
  · rw [if_neg hc29] at h
    refine kw_aload_n C (kdec dc_Rules_copyFrom 18 rfl) rfl 33 rfl rfl ?_
    refine kw_getR C (kdec dc_Rules_copyFrom 19 rfl) 36 rfl fd_C_Rules_19_7 ?_
    refine kw_iload_n C (kdec dc_Rules_copyFrom 20 rfl) rfl 37 rfl rfl ?_
    refine kw_aload_n C (kdec dc_Rules_copyFrom 21 rfl) rfl 38 rfl rfl ?_
    refine kw_getR C (kdec dc_Rules_copyFrom 22 rfl) 41 rfl fd_C_Rules_19_17 ?_
    refine kw_iload_n C (kdec dc_Rules_copyFrom 23 rfl) rfl 42 rfl rfl ?_
    obtain ⟨hc_4, h⟩ := kchk_h h
    refine kw_iald C (kdec dc_Rules_copyFrom 24 rfl) 43 rfl rfl hc_4.1 hc_4.2 ?_
    obtain ⟨hc_5, h⟩ := kchk_h h
    obtain ⟨σ_6, eσ_6, h⟩ := klet_h h
    refine kw_iast C (kdec dc_Rules_copyFrom 25 rfl) 44 rfl rfl hc_5.1 hc_5.2 ?_
    refine kw_sig eσ_6 ?_
    refine kw_aload_n C (kdec dc_Rules_copyFrom 26 rfl) rfl 45 rfl rfl ?_
    refine kw_getR C (kdec dc_Rules_copyFrom 27 rfl) 48 rfl fd_C_Rules_22_7 ?_
    refine kw_iload_n C (kdec dc_Rules_copyFrom 28 rfl) rfl 49 rfl rfl ?_
    refine kw_aload_n C (kdec dc_Rules_copyFrom 29 rfl) rfl 50 rfl rfl ?_
    refine kw_getR C (kdec dc_Rules_copyFrom 30 rfl) 53 rfl fd_C_Rules_22_17 ?_
    refine kw_iload_n C (kdec dc_Rules_copyFrom 31 rfl) rfl 54 rfl rfl ?_
    obtain ⟨hc_7, h⟩ := kchk_h h
    refine kw_iald C (kdec dc_Rules_copyFrom 32 rfl) 55 rfl rfl hc_7.1 hc_7.2 ?_
    obtain ⟨hc_8, h⟩ := kchk_h h
    obtain ⟨σ_9, eσ_9, h⟩ := klet_h h
    refine kw_iast C (kdec dc_Rules_copyFrom 33 rfl) 56 rfl rfl hc_8.1 hc_8.2 ?_
    refine kw_sig eσ_9 ?_
    obtain ⟨x2_10, ex2_10, h⟩ := klet_h h
    refine kw_iinc (L' := [some (kr 7), some (kr 17), some (ki x2_10)]) C (kdec dc_Rules_copyFrom 34 rfl) 59 rfl rfl (by decide) rfl (by rw [ex2_10]; rfl) ?_
    refine kw_goto C (kdec dc_Rules_copyFrom 35 rfl) 27 (by decide) ?_
    obtain rfl := Option.some.inj h
    exact (hC _ _ rfl)
theorem lp_pf_Rules_copyFrom_7_17_l27 {x : kX} {l0 : Launch} {Q : State → Prop} (C : kCx x prog_7_method_3_code "PoetFines$Rules" none kcl yC 3 l0 R0_pf_Rules_copyFrom_7_17) {ex : (kM)} (hX62 : ∀ (σ' : kM), ex = σ' → KW x 0 0 Q σ' 62 [none, none, none] []) (n : Nat) (σ : kM) (x2 : Int) (h : kloop (fun st => pf_Rules_copyFrom_7_17_l27 st.1 st.2) n (σ, x2) = some ex) : KW x 0 0 Q σ 27 [some (kr 7), some (kr 17), some (ki x2)] [] :=
  kloop_ind (P := (fun st : kM × Int => KW x 0 0 Q st.1 27 [some (kr 7), some (kr 17), some (ki (st.2))] [])) (fun st out hb hc hx => bd_pf_Rules_copyFrom_7_17_l27 C st.1 st.2 hb (fun a0 a1 e => hc _ e) (fun a0 e => hX62 _ ((hx _ e).symm))) n (σ, x2) h
def pf_Rules_copyFrom_7_17 (σ : kM) : Option (kM) :=
  klet (kst σ 7 (kup (σ 7) 1 (σ 17 1))) fun σ_1 =>
  kchk ((0 : Int) ≤ 0 ∧ (0 : Int) ≤ 0 ∧ (0 : Int) ≤ (σ_1 7 1) ∧ 0 + (σ_1 7 1) ≤ (700 : Int) ∧ 0 + (σ_1 7 1) ≤ (700 : Int)) <|
  klet (kst σ_1 8 (va_cpy (σ_1 18) (σ_1 8) (0 : Int).toNat (0 : Int).toNat (σ_1 7 1).toNat)) fun σ_3 =>
  (kloop (fun st => pf_Rules_copyFrom_7_17_l27 st.1 st.2) kFuel (σ_3, 0)).bind fun σ_13 =>
  some σ_13
set_option maxHeartbeats 4000000 in
theorem bd_pf_Rules_copyFrom_7_17 {x : kX} {l0 : Launch} {Q : State → Prop} (C : kCx x prog_7_method_3_code "PoetFines$Rules" none kcl yC 3 l0 R0_pf_Rules_copyFrom_7_17) (σ : kM) {out : kM} (h : pf_Rules_copyFrom_7_17 σ = some out) (hR : ∀ (τ : kM), out = τ → Q = kQ x none τ 0 0) : KW x 0 0 Q σ 0 [some (kr 7), some (kr 17), none] [] := by
  unfold pf_Rules_copyFrom_7_17 at h
  refine kw_aload_n C (kdec dc_Rules_copyFrom 0 rfl) rfl 1 rfl rfl ?_
  refine kw_aload_n C (kdec dc_Rules_copyFrom 1 rfl) rfl 2 rfl rfl ?_
  refine kw_getI C (kdec dc_Rules_copyFrom 2 rfl) 5 rfl fd_C_Rules_15_17 ?_
  obtain ⟨σ_1, eσ_1, h⟩ := klet_h h
  refine kw_putI C (kdec dc_Rules_copyFrom 3 rfl) 8 rfl fp_C_Rules_15_7 ?_
  refine kw_sig eσ_1 ?_
  refine kw_aload_n C (kdec dc_Rules_copyFrom 4 rfl) rfl 9 rfl rfl ?_
  refine kw_getR C (kdec dc_Rules_copyFrom 5 rfl) 12 rfl fd_C_Rules_11_17 ?_
  refine kw_iconst C (kdec dc_Rules_copyFrom 6 rfl) 13 rfl rfl ⟨by decide, by decide⟩ ?_
  refine kw_aload_n C (kdec dc_Rules_copyFrom 7 rfl) rfl 14 rfl rfl ?_
  refine kw_getR C (kdec dc_Rules_copyFrom 8 rfl) 17 rfl fd_C_Rules_11_7 ?_
  refine kw_iconst C (kdec dc_Rules_copyFrom 9 rfl) 18 rfl rfl ⟨by decide, by decide⟩ ?_
  refine kw_aload_n C (kdec dc_Rules_copyFrom 10 rfl) rfl 19 rfl rfl ?_
  refine kw_getI C (kdec dc_Rules_copyFrom 11 rfl) 22 rfl fd_C_Rules_15_7 ?_
  obtain ⟨hc_2, h⟩ := kchk_h h
  obtain ⟨σ_3, eσ_3, h⟩ := klet_h h
  refine kw_copy C (kdec dc_Rules_copyFrom 12 rfl) 25 rfl ca_Rules_28 rfl rfl hc_2.1 hc_2.2.1 hc_2.2.2.1 hc_2.2.2.2.1 hc_2.2.2.2.2 ⟨Nat.le_of_ble_eq_true rfl, by decide⟩ (Nat.le_of_ble_eq_true rfl) ?_
  refine kw_sig eσ_3 ?_
  refine kw_iconst C (kdec dc_Rules_copyFrom 13 rfl) 26 rfl rfl ⟨by decide, by decide⟩ ?_
  refine kw_istore_n (L' := [some (kr 7), some (kr 17), some (ki 0)]) C (kdec dc_Rules_copyFrom 14 rfl) rfl 27 rfl (by decide) rfl rfl ?_
  obtain ⟨ex_11, hl_12, h⟩ := kbind_h h
  refine lp_pf_Rules_copyFrom_7_17_l27 C ?_ kFuel σ_3 0 hl_12
  · intro σ_13 e
    subst ex_11
    try dsimp only at h
    obtain rfl := Option.some.inj h
    exact kw_Q (hR _ rfl) (kw_return C (kdec dc_Rules_copyFrom 36 rfl))
theorem mt_pf_Rules_copyFrom_7_17 (l0 : Launch) {σ : kM} {τ : kM} (h : pf_Rules_copyFrom_7_17 σ = some τ) : kMet l0 ky_Rules_copyFrom prog_7_method_3_code 3 none R0_pf_Rules_copyFrom_7_17 kcl yC σ [kr 7, kr 17] none τ := kMet.of' [some (kr 7), some (kr 17), none] (by decide) (Nat.le_of_ble_eq_true rfl) ⟨rfl, rfl, trivial⟩ (fun x C => bd_pf_Rules_copyFrom_7_17 C σ h (fun τ e => by subst e; rfl))
def R0_pf_Law_copyFrom_3_13 : Room := ({ frames := 2, cells := 0, slots := 0, locals := 82 } : Room)
def pf_Law_copyFrom_3_13 (σ : kM) : Option (kM) :=
  klet (kst σ 3 (kup (σ 3) 0 (σ 13 0))) fun σ_1 =>
  klet (kst σ_1 3 (kup (σ_1 3) 1 (σ_1 13 1))) fun σ_2 =>
  klet (kst σ_2 3 (kup (σ_2 3) 2 (σ_2 13 2))) fun σ_3 =>
  klet (kst σ_3 4 (va_cpy (σ_3 14) (σ_3 4) (0 : Int).toNat (0 : Int).toNat (4 : Int).toNat)) fun σ_5 =>
  klet (kst σ_5 5 (va_cpy (σ_5 15) (σ_5 5) (0 : Int).toNat (0 : Int).toNat (32 : Int).toNat)) fun σ_7 =>
  klet (kst σ_7 6 (va_cpy (σ_7 16) (σ_7 6) (0 : Int).toNat (0 : Int).toNat (24 : Int).toNat)) fun σ_9 =>
  (pf_Rules_copyFrom_7_17 σ_9).bind fun σ_10 =>
  some σ_10
set_option maxHeartbeats 4000000 in
theorem bd_pf_Law_copyFrom_3_13 {x : kX} {l0 : Launch} {Q : State → Prop} (C : kCx x prog_4_method_3_code "PoetFines$Law" none kcl yC 2 l0 R0_pf_Law_copyFrom_3_13) (σ : kM) {out : kM} (h : pf_Law_copyFrom_3_13 σ = some out) (hR : ∀ (τ : kM), out = τ → Q = kQ x none τ 0 0) : KW x 0 0 Q σ 0 [some (kr 3), some (kr 13)] [] := by
  unfold pf_Law_copyFrom_3_13 at h
  refine kw_aload_n C (kdec dc_Law_copyFrom 0 rfl) rfl 1 rfl rfl ?_
  refine kw_aload_n C (kdec dc_Law_copyFrom 1 rfl) rfl 2 rfl rfl ?_
  refine kw_getI C (kdec dc_Law_copyFrom 2 rfl) 5 rfl fd_C_Law_11_13 ?_
  obtain ⟨σ_1, eσ_1, h⟩ := klet_h h
  refine kw_putI C (kdec dc_Law_copyFrom 3 rfl) 8 rfl fp_C_Law_11_3 ?_
  refine kw_sig eσ_1 ?_
  refine kw_aload_n C (kdec dc_Law_copyFrom 4 rfl) rfl 9 rfl rfl ?_
  refine kw_aload_n C (kdec dc_Law_copyFrom 5 rfl) rfl 10 rfl rfl ?_
  refine kw_getI C (kdec dc_Law_copyFrom 6 rfl) 13 rfl fd_C_Law_15_13 ?_
  obtain ⟨σ_2, eσ_2, h⟩ := klet_h h
  refine kw_putI C (kdec dc_Law_copyFrom 7 rfl) 16 rfl fp_C_Law_15_3 ?_
  refine kw_sig eσ_2 ?_
  refine kw_aload_n C (kdec dc_Law_copyFrom 8 rfl) rfl 17 rfl rfl ?_
  refine kw_aload_n C (kdec dc_Law_copyFrom 9 rfl) rfl 18 rfl rfl ?_
  refine kw_getI C (kdec dc_Law_copyFrom 10 rfl) 21 rfl fd_C_Law_18_13 ?_
  obtain ⟨σ_3, eσ_3, h⟩ := klet_h h
  refine kw_putI C (kdec dc_Law_copyFrom 11 rfl) 24 rfl fp_C_Law_18_3 ?_
  refine kw_sig eσ_3 ?_
  refine kw_aload_n C (kdec dc_Law_copyFrom 12 rfl) rfl 25 rfl rfl ?_
  refine kw_getR C (kdec dc_Law_copyFrom 13 rfl) 28 rfl fd_C_Law_21_13 ?_
  refine kw_iconst C (kdec dc_Law_copyFrom 14 rfl) 29 rfl rfl ⟨by decide, by decide⟩ ?_
  refine kw_aload_n C (kdec dc_Law_copyFrom 15 rfl) rfl 30 rfl rfl ?_
  refine kw_getR C (kdec dc_Law_copyFrom 16 rfl) 33 rfl fd_C_Law_21_3 ?_
  refine kw_iconst C (kdec dc_Law_copyFrom 17 rfl) 34 rfl rfl ⟨by decide, by decide⟩ ?_
  refine kw_aload_n C (kdec dc_Law_copyFrom 18 rfl) rfl 35 rfl rfl ?_
  refine kw_getR C (kdec dc_Law_copyFrom 19 rfl) 38 rfl fd_C_Law_21_3 ?_
  refine kw_alen (v := 4) C (kdec dc_Law_copyFrom 20 rfl) 39 rfl rfl (by decide) rfl ⟨by decide, by decide⟩ ?_
  obtain ⟨σ_5, eσ_5, h⟩ := klet_h h
  refine kw_copy C (kdec dc_Law_copyFrom 21 rfl) 42 rfl ca_Law_41 rfl rfl (by decide) (by decide) (by decide) (by decide) (by decide) ⟨Nat.le_of_ble_eq_true rfl, by decide⟩ (Nat.le_of_ble_eq_true rfl) ?_
  refine kw_sig eσ_5 ?_
  refine kw_aload_n C (kdec dc_Law_copyFrom 22 rfl) rfl 43 rfl rfl ?_
  refine kw_getR C (kdec dc_Law_copyFrom 23 rfl) 46 rfl fd_C_Law_25_13 ?_
  refine kw_iconst C (kdec dc_Law_copyFrom 24 rfl) 47 rfl rfl ⟨by decide, by decide⟩ ?_
  refine kw_aload_n C (kdec dc_Law_copyFrom 25 rfl) rfl 48 rfl rfl ?_
  refine kw_getR C (kdec dc_Law_copyFrom 26 rfl) 51 rfl fd_C_Law_25_3 ?_
  refine kw_iconst C (kdec dc_Law_copyFrom 27 rfl) 52 rfl rfl ⟨by decide, by decide⟩ ?_
  refine kw_aload_n C (kdec dc_Law_copyFrom 28 rfl) rfl 53 rfl rfl ?_
  refine kw_getR C (kdec dc_Law_copyFrom 29 rfl) 56 rfl fd_C_Law_25_3 ?_
  refine kw_alen (v := 32) C (kdec dc_Law_copyFrom 30 rfl) 57 rfl rfl (by decide) rfl ⟨by decide, by decide⟩ ?_
  obtain ⟨σ_7, eσ_7, h⟩ := klet_h h
  refine kw_copy C (kdec dc_Law_copyFrom 31 rfl) 60 rfl ca_Law_41 rfl rfl (by decide) (by decide) (by decide) (by decide) (by decide) ⟨Nat.le_of_ble_eq_true rfl, by decide⟩ (Nat.le_of_ble_eq_true rfl) ?_
  refine kw_sig eσ_7 ?_
  refine kw_aload_n C (kdec dc_Law_copyFrom 32 rfl) rfl 61 rfl rfl ?_
  refine kw_getR C (kdec dc_Law_copyFrom 33 rfl) 64 rfl fd_C_Law_28_13 ?_
  refine kw_iconst C (kdec dc_Law_copyFrom 34 rfl) 65 rfl rfl ⟨by decide, by decide⟩ ?_
  refine kw_aload_n C (kdec dc_Law_copyFrom 35 rfl) rfl 66 rfl rfl ?_
  refine kw_getR C (kdec dc_Law_copyFrom 36 rfl) 69 rfl fd_C_Law_28_3 ?_
  refine kw_iconst C (kdec dc_Law_copyFrom 37 rfl) 70 rfl rfl ⟨by decide, by decide⟩ ?_
  refine kw_aload_n C (kdec dc_Law_copyFrom 38 rfl) rfl 71 rfl rfl ?_
  refine kw_getR C (kdec dc_Law_copyFrom 39 rfl) 74 rfl fd_C_Law_28_3 ?_
  refine kw_alen (v := 24) C (kdec dc_Law_copyFrom 40 rfl) 75 rfl rfl (by decide) rfl ⟨by decide, by decide⟩ ?_
  obtain ⟨σ_9, eσ_9, h⟩ := klet_h h
  refine kw_copy C (kdec dc_Law_copyFrom 41 rfl) 78 rfl ca_Law_41 rfl rfl (by decide) (by decide) (by decide) (by decide) (by decide) ⟨Nat.le_of_ble_eq_true rfl, by decide⟩ (Nat.le_of_ble_eq_true rfl) ?_
  refine kw_sig eσ_9 ?_
  refine kw_aload_n C (kdec dc_Law_copyFrom 42 rfl) rfl 79 rfl rfl ?_
  refine kw_getR C (kdec dc_Law_copyFrom 43 rfl) 82 rfl fd_C_Law_34_3 ?_
  refine kw_aload_n C (kdec dc_Law_copyFrom 44 rfl) rfl 83 rfl rfl ?_
  refine kw_getR C (kdec dc_Law_copyFrom 45 rfl) 86 rfl fd_C_Law_34_13 ?_
  obtain ⟨σ_10, hg_11, h⟩ := kbind_h h
  refine kw_callV (As := [kr 17]) C (kdec dc_Law_copyFrom 46 rfl) 89 rfl cv_Law_47 rfl rfl (mt_pf_Rules_copyFrom_7_17 l0 hg_11) ⟨rfl, rfl⟩ ⟨Nat.le_of_ble_eq_true rfl, Nat.le_of_ble_eq_true rfl⟩ ⟨Nat.zero_le _, Nat.zero_le _⟩ rfl (Nat.le_of_ble_eq_true rfl) ?_
  change KW x 0 0 Q σ_10 89 [some (kr 3), some (kr 13)] []
  obtain rfl := Option.some.inj h
  exact kw_Q (hR _ rfl) (kw_return C (kdec dc_Law_copyFrom 47 rfl))
theorem mt_pf_Law_copyFrom_3_13 (l0 : Launch) {σ : kM} {τ : kM} (h : pf_Law_copyFrom_3_13 σ = some τ) : kMet l0 ky_Law_copyFrom prog_4_method_3_code 2 none R0_pf_Law_copyFrom_3_13 kcl yC σ [kr 3, kr 13] none τ := kMet.of' [some (kr 3), some (kr 13)] (by decide) (Nat.le_of_ble_eq_true rfl) ⟨rfl, rfl, trivial⟩ (fun x C => bd_pf_Law_copyFrom_3_13 C σ h (fun τ e => by subst e; rfl))
def R0_pf_World_copyFrom_30_22 : Room := ({ frames := 1, cells := 0, slots := 0, locals := 60 } : Room)
def pf_World_copyFrom_30_22 (σ : kM) : Option (kM) :=
  klet (kst σ 31 (va_cpy (σ 23) (σ 31) (0 : Int).toNat (0 : Int).toNat (85 : Int).toNat)) fun σ_2 =>
  some σ_2
set_option maxHeartbeats 4000000 in
theorem bd_pf_World_copyFrom_30_22 {x : kX} {l0 : Launch} {Q : State → Prop} (C : kCx x prog_12_method_3_code "PoetFines$World" none kcl yC 2 l0 R0_pf_World_copyFrom_30_22) (σ : kM) {out : kM} (h : pf_World_copyFrom_30_22 σ = some out) (hR : ∀ (τ : kM), out = τ → Q = kQ x none τ 0 0) : KW x 0 0 Q σ 0 [some (kr 30), some (kr 22)] [] := by
  unfold pf_World_copyFrom_30_22 at h
  refine kw_aload_n C (kdec dc_World_copyFrom 0 rfl) rfl 1 rfl rfl ?_
  refine kw_getR C (kdec dc_World_copyFrom 1 rfl) 4 rfl fd_C_World_11_22 ?_
  refine kw_iconst C (kdec dc_World_copyFrom 2 rfl) 5 rfl rfl ⟨by decide, by decide⟩ ?_
  refine kw_aload_n C (kdec dc_World_copyFrom 3 rfl) rfl 6 rfl rfl ?_
  refine kw_getR C (kdec dc_World_copyFrom 4 rfl) 9 rfl fd_C_World_11_30 ?_
  refine kw_iconst C (kdec dc_World_copyFrom 5 rfl) 10 rfl rfl ⟨by decide, by decide⟩ ?_
  refine kw_bipush (v := 85) C (kdec dc_World_copyFrom 6 rfl) 12 rfl (by decide) ⟨by decide, by decide⟩ ?_
  obtain ⟨σ_2, eσ_2, h⟩ := klet_h h
  refine kw_copy C (kdec dc_World_copyFrom 7 rfl) 15 rfl ca_World_15 rfl rfl (by decide) (by decide) (by decide) (by decide) (by decide) ⟨Nat.le_of_ble_eq_true rfl, by decide⟩ (Nat.le_of_ble_eq_true rfl) ?_
  refine kw_sig eσ_2 ?_
  obtain rfl := Option.some.inj h
  exact kw_Q (hR _ rfl) (kw_return C (kdec dc_World_copyFrom 8 rfl))
theorem mt_pf_World_copyFrom_30_22 (l0 : Launch) {σ : kM} {τ : kM} (h : pf_World_copyFrom_30_22 σ = some τ) : kMet l0 ky_World_copyFrom prog_12_method_3_code 2 none R0_pf_World_copyFrom_30_22 kcl yC σ [kr 30, kr 22] none τ := kMet.of' [some (kr 30), some (kr 22)] (by decide) (Nat.le_of_ble_eq_true rfl) ⟨rfl, rfl, trivial⟩ (fun x C => bd_pf_World_copyFrom_30_22 C σ h (fun τ e => by subst e; rfl))
def R0_pf_Chronicle_beginWith_29_22 : Room := ({ frames := 2, cells := 0, slots := 0, locals := 81 } : Room)
def pf_Chronicle_beginWith_29_22 (σ : kM) : Option (kM) :=
  (pf_World_copyFrom_30_22 σ).bind fun σ_1 =>
  klet (kst σ_1 29 (kup (σ_1 29) 1 0)) fun σ_2 =>
  klet (kst σ_2 29 (kup (σ_2 29) 3 0)) fun σ_3 =>
  klet (kst σ_3 29 (kup (σ_3 29) 4 0)) fun σ_4 =>
  some σ_4
set_option maxHeartbeats 4000000 in
theorem bd_pf_Chronicle_beginWith_29_22 {x : kX} {l0 : Launch} {Q : State → Prop} (C : kCx x prog_2_method_2_code "PoetFines$Chronicle" none kcl yC 2 l0 R0_pf_Chronicle_beginWith_29_22) (σ : kM) {out : kM} (h : pf_Chronicle_beginWith_29_22 σ = some out) (hR : ∀ (τ : kM), out = τ → Q = kQ x none τ 0 0) : KW x 0 0 Q σ 0 [some (kr 29), some (kr 22)] [] := by
  unfold pf_Chronicle_beginWith_29_22 at h
  refine kw_aload_n C (kdec dc_Chronicle_beginWith 0 rfl) rfl 1 rfl rfl ?_
  refine kw_getR C (kdec dc_Chronicle_beginWith 1 rfl) 4 rfl fd_C_Chronicle_12_29 ?_
  refine kw_aload_n C (kdec dc_Chronicle_beginWith 2 rfl) rfl 5 rfl rfl ?_
  obtain ⟨σ_1, hg_5, h⟩ := kbind_h h
  refine kw_callV (As := [kr 22]) C (kdec dc_Chronicle_beginWith 3 rfl) 8 rfl cv_Chronicle_41 rfl rfl (mt_pf_World_copyFrom_30_22 l0 hg_5) ⟨rfl, rfl⟩ ⟨Nat.le_of_ble_eq_true rfl, Nat.le_of_ble_eq_true rfl⟩ ⟨Nat.zero_le _, Nat.zero_le _⟩ rfl (Nat.le_of_ble_eq_true rfl) ?_
  change KW x 0 0 Q σ_1 8 [some (kr 29), some (kr 22)] []
  refine kw_aload_n C (kdec dc_Chronicle_beginWith 4 rfl) rfl 9 rfl rfl ?_
  refine kw_iconst C (kdec dc_Chronicle_beginWith 5 rfl) 10 rfl rfl ⟨by decide, by decide⟩ ?_
  obtain ⟨σ_2, eσ_2, h⟩ := klet_h h
  refine kw_putI C (kdec dc_Chronicle_beginWith 6 rfl) 13 rfl fp_C_Chronicle_18_29 ?_
  refine kw_sig eσ_2 ?_
  refine kw_aload_n C (kdec dc_Chronicle_beginWith 7 rfl) rfl 14 rfl rfl ?_
  refine kw_iconst C (kdec dc_Chronicle_beginWith 8 rfl) 15 rfl rfl ⟨by decide, by decide⟩ ?_
  obtain ⟨σ_3, eσ_3, h⟩ := klet_h h
  refine kw_putI C (kdec dc_Chronicle_beginWith 9 rfl) 18 rfl fp_C_Chronicle_26_29 ?_
  refine kw_sig eσ_3 ?_
  refine kw_aload_n C (kdec dc_Chronicle_beginWith 10 rfl) rfl 19 rfl rfl ?_
  refine kw_iconst C (kdec dc_Chronicle_beginWith 11 rfl) 20 rfl rfl ⟨by decide, by decide⟩ ?_
  obtain ⟨σ_4, eσ_4, h⟩ := klet_h h
  refine kw_putI C (kdec dc_Chronicle_beginWith 12 rfl) 23 rfl fp_C_Chronicle_29_29 ?_
  refine kw_sig eσ_4 ?_
  obtain rfl := Option.some.inj h
  exact kw_Q (hR _ rfl) (kw_return C (kdec dc_Chronicle_beginWith 13 rfl))
theorem mt_pf_Chronicle_beginWith_29_22 (l0 : Launch) {σ : kM} {τ : kM} (h : pf_Chronicle_beginWith_29_22 σ = some τ) : kMet l0 ky_Chronicle_beginWith prog_2_method_2_code 2 none R0_pf_Chronicle_beginWith_29_22 kcl yC σ [kr 29, kr 22] none τ := kMet.of' [some (kr 29), some (kr 22)] (by decide) (Nat.le_of_ble_eq_true rfl) ⟨rfl, rfl, trivial⟩ (fun x C => bd_pf_Chronicle_beginWith_29_22 C σ h (fun τ e => by subst e; rfl))
def R0_pf_P_state_0 : Room := ({ frames := 87, cells := 1, slots := 6, locals := 2216 } : Room)
def pf_P_state_0 (σ : kM) (x1 : Int) : Option ((String ⊕ Int) × kM) :=
  if x1 < 0 then
    some (.inl "java/lang/IllegalArgumentException", σ)
  else
    if x1 ≤ (σ 0 1) then
      klet (kst σ 0 (kup (σ 0) 1 0)) fun σ_1 =>
      (pf_Parser_parse_12 σ_1 x1).bind fun (r_2, σ_3) =>
      klet (kst σ_3 0 (kup (σ_3 0) 2 (σ_3 12 2))) fun σ_4 =>
      if r_2 = 0 then
        (pf_Law_copyFrom_3_13 σ_4).bind fun σ_5 =>
        (pf_Chronicle_beginWith_29_22 σ_5).bind fun σ_6 =>
        klet (kst σ_6 0 (kup (σ_6 0) 8 0)) fun σ_7 =>
        some ((.inr 0, σ_7))
      else
        klet (kst σ_4 2 (kup (σ_4 2) ((0 : Int).toNat) (w32 ((σ_4 2 (0 : Int).toNat) + 1)))) fun σ_10 =>
        some ((.inr r_2, σ_10))
    else
      some (.inl "java/lang/IllegalArgumentException", σ)
set_option maxHeartbeats 4000000 in
theorem bd_pf_P_state_0 {x : kX} {l0 : Launch} {Q : State → Prop} (C : kCx x prog_1_method_3_code "PoetFines" (some .int) kcl yC 3 l0 R0_pf_P_state_0) (hT : kTb x) (hfl : l0.stackTraces = false) (σ : kM) (x1 : Int) {out : (String ⊕ Int) × kM} (h : pf_P_state_0 σ x1 = some out) (hR : ∀ (r : Int) (τ : kM), out = (.inr r, τ) → Q = kQX x (.inr (some (ki r))) τ 1 6) (hE : ∀ (E : String) (τ : kM), out = (.inl E, τ) → Q = kQX x (.inl E) τ 1 6) : KW x 0 0 Q σ 0 [some (kr 0), some (ki x1), none] [] := by
  unfold pf_P_state_0 at h
  refine kw_iload_n C (kdec dc_P_state 0 rfl) rfl 1 rfl rfl ?_
  refine kw_if_lt C (kdec dc_P_state 1 rfl) 12 4 (by decide) rfl (fun hc1 => ?_) (fun hc1 => ?_)
  · rw [if_pos hc1] at h
    obtain rfl := Option.some.inj h
    exact kw_Q (hE _ _ rfl) (kw_throw C hT hfl th_P_91_93 (kdec dc_P_state 6 rfl) (kdec dc_P_state 7 rfl) (kdec dc_P_state 8 rfl) (kdec dc_P_state 9 rfl) (kdec dc_P_state 10 rfl) (Nat.le_of_ble_eq_true rfl) ⟨Nat.le_of_ble_eq_true rfl, Nat.le_of_ble_eq_true rfl, Nat.le_of_ble_eq_true rfl, Nat.le_of_ble_eq_true rfl⟩ (Nat.le_of_ble_eq_true rfl) (Nat.le_of_ble_eq_true rfl))
  · rw [if_neg hc1] at h
    refine kw_iload_n C (kdec dc_P_state 2 rfl) rfl 5 rfl rfl ?_
    refine kw_aload_n C (kdec dc_P_state 3 rfl) rfl 6 rfl rfl ?_
    refine kw_getI C (kdec dc_P_state 4 rfl) 9 rfl fd_C_P_13_0 ?_
    refine kw_icmp_le C (kdec dc_P_state 5 rfl) 22 12 (by decide) rfl (fun hc9 => ?_) (fun hc9 => ?_)
    · rw [if_pos hc9] at h
      refine kw_aload_n C (kdec dc_P_state 11 rfl) rfl 23 rfl rfl ?_
      refine kw_iconst C (kdec dc_P_state 12 rfl) 24 rfl rfl ⟨by decide, by decide⟩ ?_
      obtain ⟨σ_1, eσ_1, h⟩ := klet_h h
      refine kw_putI C (kdec dc_P_state 13 rfl) 27 rfl fp_C_P_13_0 ?_
      refine kw_sig eσ_1 ?_
      refine kw_aload_n C (kdec dc_P_state 14 rfl) rfl 28 rfl rfl ?_
      refine kw_getR C (kdec dc_P_state 15 rfl) 31 rfl fd_C_P_36_0 ?_
      refine kw_iload_n C (kdec dc_P_state 16 rfl) rfl 32 rfl rfl ?_
      obtain ⟨⟨r_2, σ_3⟩, hg_11, h⟩ := kbind_h h
      dsimp only at h
      refine kw_callV (As := [ki x1]) C (kdec dc_P_state 17 rfl) 35 rfl cv_P_96 rfl rfl (mt_pf_Parser_parse_12 l0 hg_11) ⟨rfl, rfl⟩ ⟨Nat.le_of_ble_eq_true rfl, Nat.le_of_ble_eq_true rfl⟩ ⟨Nat.le_of_ble_eq_true rfl, Nat.le_of_ble_eq_true rfl⟩ rfl (Nat.le_of_ble_eq_true rfl) ?_
      change KW x 0 0 Q σ_3 35 [some (kr 0), some (ki x1), none] [ki r_2]
      refine kw_istore_n (L' := [some (kr 0), some (ki x1), some (ki r_2)]) C (kdec dc_P_state 18 rfl) rfl 36 rfl (by decide) rfl rfl ?_
      refine kw_aload_n C (kdec dc_P_state 19 rfl) rfl 37 rfl rfl ?_
      refine kw_aload_n C (kdec dc_P_state 20 rfl) rfl 38 rfl rfl ?_
      refine kw_getR C (kdec dc_P_state 21 rfl) 41 rfl fd_C_P_36_0 ?_
      refine kw_getI C (kdec dc_P_state 22 rfl) 44 rfl fd_C_P_100_12 ?_
      obtain ⟨σ_4, eσ_4, h⟩ := klet_h h
      refine kw_putI C (kdec dc_P_state 23 rfl) 47 rfl fp_C_P_17_0 ?_
      refine kw_sig eσ_4 ?_
      refine kw_iload_n C (kdec dc_P_state 24 rfl) rfl 48 rfl rfl ?_
      refine kw_if_eq C (kdec dc_P_state 25 rfl) 63 51 (by decide) rfl (fun hc48 => ?_) (fun hc48 => ?_)
      · rw [if_pos hc48] at h
        refine kw_aload_n C (kdec dc_P_state 36 rfl) rfl 64 rfl rfl ?_
        refine kw_getR C (kdec dc_P_state 37 rfl) 67 rfl fd_C_P_27_0 ?_
        refine kw_aload_n C (kdec dc_P_state 38 rfl) rfl 68 rfl rfl ?_
        refine kw_getR C (kdec dc_P_state 39 rfl) 71 rfl fd_C_P_36_0 ?_
        refine kw_getR C (kdec dc_P_state 40 rfl) 74 rfl fd_C_P_101_12 ?_
        obtain ⟨σ_5, hg_9, h⟩ := kbind_h h
        refine kw_callV (As := [kr 13]) C (kdec dc_P_state 41 rfl) 77 rfl cv_P_102 rfl rfl (mt_pf_Law_copyFrom_3_13 l0 hg_9) ⟨rfl, rfl⟩ ⟨Nat.le_of_ble_eq_true rfl, Nat.le_of_ble_eq_true rfl⟩ ⟨Nat.le_of_ble_eq_true rfl, Nat.le_of_ble_eq_true rfl⟩ rfl (Nat.le_of_ble_eq_true rfl) ?_
        change KW x 0 0 Q σ_5 77 [some (kr 0), some (ki x1), some (ki r_2)] []
        refine kw_aload_n C (kdec dc_P_state 42 rfl) rfl 78 rfl rfl ?_
        refine kw_getR C (kdec dc_P_state 43 rfl) 81 rfl fd_C_P_43_0 ?_
        refine kw_aload_n C (kdec dc_P_state 44 rfl) rfl 82 rfl rfl ?_
        refine kw_getR C (kdec dc_P_state 45 rfl) 85 rfl fd_C_P_36_0 ?_
        refine kw_getR C (kdec dc_P_state 46 rfl) 88 rfl fd_C_P_106_12 ?_
        obtain ⟨σ_6, hg_8, h⟩ := kbind_h h
        refine kw_callV (As := [kr 22]) C (kdec dc_P_state 47 rfl) 91 rfl cv_P_109 rfl rfl (mt_pf_Chronicle_beginWith_29_22 l0 hg_8) ⟨rfl, rfl⟩ ⟨Nat.le_of_ble_eq_true rfl, Nat.le_of_ble_eq_true rfl⟩ ⟨Nat.le_of_ble_eq_true rfl, Nat.le_of_ble_eq_true rfl⟩ rfl (Nat.le_of_ble_eq_true rfl) ?_
        change KW x 0 0 Q σ_6 91 [some (kr 0), some (ki x1), some (ki r_2)] []
        refine kw_aload_n C (kdec dc_P_state 48 rfl) rfl 92 rfl rfl ?_
        refine kw_iconst C (kdec dc_P_state 49 rfl) 93 rfl rfl ⟨by decide, by decide⟩ ?_
        obtain ⟨σ_7, eσ_7, h⟩ := klet_h h
        refine kw_putZ C (kdec dc_P_state 50 rfl) 96 rfl fp_C_P_50_0 (by decide) ?_
        refine kw_sig eσ_7 ?_
        refine kw_iconst C (kdec dc_P_state 51 rfl) 97 rfl rfl ⟨by decide, by decide⟩ ?_
        obtain rfl := Option.some.inj h
        exact kw_Q (hR _ _ rfl) (kw_xret (by decide) (by decide) (kw_ireturn C (kdec dc_P_state 52 rfl)))
      · rw [if_neg hc48] at h
        refine kw_aload_n C (kdec dc_P_state 26 rfl) rfl 52 rfl rfl ?_
        refine kw_getR C (kdec dc_P_state 27 rfl) 55 rfl fd_C_P_20_0 ?_
        refine kw_iconst C (kdec dc_P_state 28 rfl) 56 rfl rfl ⟨by decide, by decide⟩ ?_
        refine kw_dup2 C (kdec dc_P_state 29 rfl) 57 rfl rfl rfl ?_
        refine kw_iald C (kdec dc_P_state 30 rfl) 58 rfl rfl (by decide) (by decide) ?_
        refine kw_iconst C (kdec dc_P_state 31 rfl) 59 rfl rfl ⟨by decide, by decide⟩ ?_
        refine kw_iadd C (kdec dc_P_state 32 rfl) 60 rfl ?_
        obtain ⟨σ_10, eσ_10, h⟩ := klet_h h
        refine kw_iast C (kdec dc_P_state 33 rfl) 61 rfl rfl (by decide) (by decide) ?_
        refine kw_sig eσ_10 ?_
        refine kw_iload_n C (kdec dc_P_state 34 rfl) rfl 62 rfl rfl ?_
        obtain rfl := Option.some.inj h
        exact kw_Q (hR _ _ rfl) (kw_xret (by decide) (by decide) (kw_ireturn C (kdec dc_P_state 35 rfl)))
    · rw [if_neg hc9] at h
      obtain rfl := Option.some.inj h
      exact kw_Q (hE _ _ rfl) (kw_throw C hT hfl th_P_91_93 (kdec dc_P_state 6 rfl) (kdec dc_P_state 7 rfl) (kdec dc_P_state 8 rfl) (kdec dc_P_state 9 rfl) (kdec dc_P_state 10 rfl) (Nat.le_of_ble_eq_true rfl) ⟨Nat.le_of_ble_eq_true rfl, Nat.le_of_ble_eq_true rfl, Nat.le_of_ble_eq_true rfl, Nat.le_of_ble_eq_true rfl⟩ (Nat.le_of_ble_eq_true rfl) (Nat.le_of_ble_eq_true rfl))
theorem mx_pf_P_state_0 (l0 : Launch) (hfl : l0.stackTraces = false) {σ : kM} {x1 : Int} {r : Int} {τ : kM} (h : pf_P_state_0 σ x1 = some (.inr r, τ)) : kXet l0 ky_P_state prog_1_method_3_code 3 (some .int) R0_pf_P_state_0 kcl yC σ [kr 0, ki x1] (.inr (some (ki r))) τ 1 6 := kXet.of [some (kr 0), some (ki x1), none] (by decide) (Nat.le_of_ble_eq_true rfl) ⟨rfl, rfl, trivial⟩ (fun x C hT => bd_pf_P_state_0 C hT hfl σ x1 h (fun r τ e => by cases e; rfl) (fun E τ e => by cases e))
theorem me_pf_P_state_0 (l0 : Launch) (hfl : l0.stackTraces = false) {σ : kM} {x1 : Int} {E : String} {τ : kM} (h : pf_P_state_0 σ x1 = some (.inl E, τ)) : kXet l0 ky_P_state prog_1_method_3_code 3 (some .int) R0_pf_P_state_0 kcl yC σ [kr 0, ki x1] (.inl E) τ 1 6 := kXet.of [some (kr 0), some (ki x1), none] (by decide) (Nat.le_of_ble_eq_true rfl) ⟨rfl, rfl, trivial⟩ (fun x C hT => bd_pf_P_state_0 C hT hfl σ x1 h (fun r τ e => by cases e) (fun E τ e => by cases e; rfl))
def R0_pf_P_fault_0 : Room := ({ frames := 0, cells := 0, slots := 0, locals := 0 } : Room)
def pf_P_fault_0 (σ : kM) : Option (Int) :=
  some (σ 0 2)
set_option maxHeartbeats 4000000 in
theorem bd_pf_P_fault_0 {x : kX} {l0 : Launch} {Q : State → Prop} (C : kCx x prog_1_method_4_code "PoetFines" (some .int) kcl yC 1 l0 R0_pf_P_fault_0) (σ : kM) {out : Int} (h : pf_P_fault_0 σ = some out) (hR : ∀ (r : Int), out = r → Q = kQ x (some (ki r)) σ 0 0) : KW x 0 0 Q σ 0 [some (kr 0)] [] := by
  unfold pf_P_fault_0 at h
  refine kw_aload_n C (kdec dc_P_fault 0 rfl) rfl 1 rfl rfl ?_
  refine kw_getI C (kdec dc_P_fault 1 rfl) 4 rfl fd_C_P_17_0 ?_
  obtain rfl := Option.some.inj h
  exact kw_Q (hR _ rfl) (kw_ireturn C (kdec dc_P_fault 2 rfl))
theorem mt_pf_P_fault_0 (l0 : Launch) {σ : kM} {r : Int} (h : pf_P_fault_0 σ = some r) : kMet l0 ky_P_fault prog_1_method_4_code 1 (some .int) R0_pf_P_fault_0 kcl yC σ [kr 0] (some (ki r)) σ := kMet.of' [some (kr 0)] (by decide) (Nat.le_of_ble_eq_true rfl) ⟨rfl, trivial⟩ (fun x C => bd_pf_P_fault_0 C σ h (fun r e => by subst e; rfl))
def R0_pf_World_total_30 : Room := ({ frames := 0, cells := 0, slots := 0, locals := 0 } : Room)
def pf_World_total_30_l5 (σ : kM) (x1 : Int) (x2 : Int) (x3 : Int) (x4 : Int) : Option ((Int × Int) ⊕ ((Int))) :=
  if x2 ≤ x4 then
    some (Sum.inr x3)
  else
    kchk (0 ≤ (w32 (x1 + x4)) ∧ (w32 (x1 + x4)) < 85) <|
    klet (w32 (x3 + (σ 31 (w32 (x1 + x4)).toNat))) fun x3_2 =>
    klet (w32 (x4 + 1)) fun x4_3 =>
    some (Sum.inl (x3_2, x4_3))
set_option maxHeartbeats 4000000 in
theorem bd_pf_World_total_30_l5 {x : kX} {l0 : Launch} {Q : State → Prop} (C : kCx x prog_12_method_8_code "PoetFines$World" (some .int) kcl yC 5 l0 R0_pf_World_total_30) (σ : kM) (x1 : Int) (x2 : Int) (x3 : Int) (x4 : Int) {out : (Int × Int) ⊕ ((Int))} (h : pf_World_total_30_l5 σ x1 x2 x3 x4 = some out) (hC : ∀ (x3' : Int) (x4' : Int), out = Sum.inl (x3', x4') → KW x 0 0 Q σ 5 [some (kr 30), some (ki x1), some (ki x2), some (ki x3'), some (ki x4')] []) (hX29 : ∀ (x3' : Int), out = Sum.inr x3' → KW x 0 0 Q σ 29 [none, none, none, some (ki x3'), none] []) : KW x 0 0 Q σ 5 [some (kr 30), some (ki x1), some (ki x2), some (ki x3), some (ki x4)] [] := by
  unfold pf_World_total_30_l5 at h
  refine kw_iload C (kdec dc_World_total 4 rfl) 7 rfl rfl ?_
  refine kw_iload_n C (kdec dc_World_total 5 rfl) rfl 8 rfl rfl ?_
  refine kw_icmp_ge C (kdec dc_World_total 6 rfl) 29 11 (by decide) rfl (fun hc8 => ?_) (fun hc8 => ?_)
  · rw [if_pos hc8] at h
    obtain rfl := Option.some.inj h
    exact kw_sub (L' := [none, none, none, some (ki x3), none]) ⟨rfl, trivial⟩ (hX29 _ rfl)
  · rw [if_neg hc8] at h
    refine kw_iload_n C (kdec dc_World_total 7 rfl) rfl 12 rfl rfl ?_
    refine kw_aload_n C (kdec dc_World_total 8 rfl) rfl 13 rfl rfl ?_
    refine kw_getR C (kdec dc_World_total 9 rfl) 16 rfl fd_C_World_11_30 ?_
    refine kw_iload_n C (kdec dc_World_total 10 rfl) rfl 17 rfl rfl ?_
    refine kw_iload C (kdec dc_World_total 11 rfl) 19 rfl rfl ?_
    refine kw_iadd C (kdec dc_World_total 12 rfl) 20 rfl ?_
    obtain ⟨hc_1, h⟩ := kchk_h h
    refine kw_iald C (kdec dc_World_total 13 rfl) 21 rfl rfl hc_1.1 hc_1.2 ?_
    refine kw_iadd C (kdec dc_World_total 14 rfl) 22 rfl ?_
    obtain ⟨x3_2, ex3_2, h⟩ := klet_h h
    refine kw_top ex3_2 ?_
    refine kw_istore_n (L' := [some (kr 30), some (ki x1), some (ki x2), some (ki x3_2), some (ki x4)]) C (kdec dc_World_total 15 rfl) rfl 23 rfl (by decide) rfl rfl ?_
    obtain ⟨x4_3, ex4_3, h⟩ := klet_h h
    refine kw_iinc (L' := [some (kr 30), some (ki x1), some (ki x2), some (ki x3_2), some (ki x4_3)]) C (kdec dc_World_total 16 rfl) 26 rfl rfl (by decide) rfl (by rw [ex4_3]; rfl) ?_
    refine kw_goto C (kdec dc_World_total 17 rfl) 5 (by decide) ?_
    obtain rfl := Option.some.inj h
    exact (hC _ _ rfl)
theorem lp_pf_World_total_30_l5 {x : kX} {l0 : Launch} {Q : State → Prop} (C : kCx x prog_12_method_8_code "PoetFines$World" (some .int) kcl yC 5 l0 R0_pf_World_total_30) (σ : kM) (x1 : Int) (x2 : Int) {ex : (Int)} (hX29 : ∀ (x3' : Int), ex = x3' → KW x 0 0 Q σ 29 [none, none, none, some (ki x3'), none] []) (n : Nat) (x3 : Int) (x4 : Int) (h : kloop (fun st => pf_World_total_30_l5 σ x1 x2 st.1 st.2) n (x3, x4) = some ex) : KW x 0 0 Q σ 5 [some (kr 30), some (ki x1), some (ki x2), some (ki x3), some (ki x4)] [] :=
  kloop_ind (P := (fun st : Int × Int => KW x 0 0 Q σ 5 [some (kr 30), some (ki x1), some (ki x2), some (ki (st.1)), some (ki (st.2))] [])) (fun st out hb hc hx => bd_pf_World_total_30_l5 C σ x1 x2 st.1 st.2 hb (fun a0 a1 e => hc _ e) (fun a0 e => hX29 _ ((hx _ e).symm))) n (x3, x4) h
def pf_World_total_30 (σ : kM) (x1 : Int) (x2 : Int) : Option (Int) :=
  (kloop (fun st => pf_World_total_30_l5 σ x1 x2 st.1 st.2) kFuel (0, 0)).bind fun x3_6 =>
  some x3_6
set_option maxHeartbeats 4000000 in
theorem bd_pf_World_total_30 {x : kX} {l0 : Launch} {Q : State → Prop} (C : kCx x prog_12_method_8_code "PoetFines$World" (some .int) kcl yC 5 l0 R0_pf_World_total_30) (σ : kM) (x1 : Int) (x2 : Int) {out : Int} (h : pf_World_total_30 σ x1 x2 = some out) (hR : ∀ (r : Int), out = r → Q = kQ x (some (ki r)) σ 0 0) : KW x 0 0 Q σ 0 [some (kr 30), some (ki x1), some (ki x2), none, none] [] := by
  unfold pf_World_total_30 at h
  refine kw_iconst C (kdec dc_World_total 0 rfl) 1 rfl rfl ⟨by decide, by decide⟩ ?_
  refine kw_istore_n (L' := [some (kr 30), some (ki x1), some (ki x2), some (ki 0), none]) C (kdec dc_World_total 1 rfl) rfl 2 rfl (by decide) rfl rfl ?_
  refine kw_iconst C (kdec dc_World_total 2 rfl) 3 rfl rfl ⟨by decide, by decide⟩ ?_
  refine kw_istore (L' := [some (kr 30), some (ki x1), some (ki x2), some (ki 0), some (ki 0)]) C (kdec dc_World_total 3 rfl) 5 rfl (by decide) rfl rfl ?_
  obtain ⟨ex_4, hl_5, h⟩ := kbind_h h
  refine lp_pf_World_total_30_l5 C σ x1 x2 ?_ kFuel 0 0 hl_5
  · intro x3_6 e
    subst ex_4
    try dsimp only at h
    refine kw_iload_n C (kdec dc_World_total 18 rfl) rfl 30 rfl rfl ?_
    obtain rfl := Option.some.inj h
    exact kw_Q (hR _ rfl) (kw_ireturn C (kdec dc_World_total 19 rfl))
theorem mt_pf_World_total_30 (l0 : Launch) {σ : kM} {x1 : Int} {x2 : Int} {r : Int} (h : pf_World_total_30 σ x1 x2 = some r) : kMet l0 ky_World_total prog_12_method_8_code 5 (some .int) R0_pf_World_total_30 kcl yC σ [kr 30, ki x1, ki x2] (some (ki r)) σ := kMet.of' [some (kr 30), some (ki x1), some (ki x2), none, none] (by decide) (Nat.le_of_ble_eq_true rfl) ⟨rfl, rfl, rfl, trivial⟩ (fun x C => bd_pf_World_total_30 C σ x1 x2 h (fun r e => by subst e; rfl))
def R0_pf_World_unscarred_30 : Room := ({ frames := 0, cells := 0, slots := 0, locals := 0 } : Room)
def pf_World_unscarred_30_l4_j29 (σ : kM) (x1 : Int) (x3 : Int) (s0 : Int) (s1 : Int) : Option ((Int × Int) ⊕ ((Int))) :=
  klet (kor s1 s0) fun x2_2 =>
  klet (w32 (x3 + 1)) fun x3_3 =>
  some (Sum.inl (x2_2, x3_3))
set_option maxHeartbeats 4000000 in
theorem bd_pf_World_unscarred_30_l4_j29 {x : kX} {l0 : Launch} {Q : State → Prop} (C : kCx x prog_12_method_9_code "PoetFines$World" (some .int) kcl yC 4 l0 R0_pf_World_unscarred_30) (σ : kM) (x1 : Int) (x3 : Int) (s0 : Int) (s1 : Int) {out : (Int × Int) ⊕ ((Int))} (h : pf_World_unscarred_30_l4_j29 σ x1 x3 s0 s1 = some out) (hC : ∀ (x2' : Int) (x3' : Int), out = Sum.inl (x2', x3') → KW x 0 0 Q σ 4 [some (kr 30), some (ki x1), some (ki x2'), some (ki x3')] []) (hX37 : ∀ (x2' : Int), out = Sum.inr x2' → KW x 0 0 Q σ 37 [none, none, some (ki x2'), none] []) : KW x 0 0 Q σ 29 [some (kr 30), some (ki x1), none, some (ki x3)] [ki s0, ki s1] := by
  unfold pf_World_unscarred_30_l4_j29 at h
  refine kw_ior C (kdec dc_World_unscarred 20 rfl) 30 rfl ?_
  obtain ⟨x2_2, ex2_2, h⟩ := klet_h h
  refine kw_top ex2_2 ?_
  refine kw_istore_n (L' := [some (kr 30), some (ki x1), some (ki x2_2), some (ki x3)]) C (kdec dc_World_unscarred 21 rfl) rfl 31 rfl (by decide) rfl rfl ?_
  obtain ⟨x3_3, ex3_3, h⟩ := klet_h h
  refine kw_iinc (L' := [some (kr 30), some (ki x1), some (ki x2_2), some (ki x3_3)]) C (kdec dc_World_unscarred 22 rfl) 34 rfl rfl (by decide) rfl (by rw [ex3_3]; rfl) ?_
  refine kw_goto C (kdec dc_World_unscarred 23 rfl) 4 (by decide) ?_
  obtain rfl := Option.some.inj h
  exact (hC _ _ rfl)
def pf_World_unscarred_30_l4 (σ : kM) (x1 : Int) (x2 : Int) (x3 : Int) : Option ((Int × Int) ⊕ ((Int))) :=
  if x1 ≤ x3 then
    some (Sum.inr x2)
  else
    kchk (0 ≤ (w32 (9 + x3)) ∧ (w32 (9 + x3)) < 85) <|
    if (σ 31 (w32 (9 + x3)).toNat) = 0 then
      pf_World_unscarred_30_l4_j29 σ x1 x3 (kshl 1 x3) x2
    else
      pf_World_unscarred_30_l4_j29 σ x1 x3 0 x2
set_option maxHeartbeats 4000000 in
theorem bd_pf_World_unscarred_30_l4 {x : kX} {l0 : Launch} {Q : State → Prop} (C : kCx x prog_12_method_9_code "PoetFines$World" (some .int) kcl yC 4 l0 R0_pf_World_unscarred_30) (σ : kM) (x1 : Int) (x2 : Int) (x3 : Int) {out : (Int × Int) ⊕ ((Int))} (h : pf_World_unscarred_30_l4 σ x1 x2 x3 = some out) (hC : ∀ (x2' : Int) (x3' : Int), out = Sum.inl (x2', x3') → KW x 0 0 Q σ 4 [some (kr 30), some (ki x1), some (ki x2'), some (ki x3')] []) (hX37 : ∀ (x2' : Int), out = Sum.inr x2' → KW x 0 0 Q σ 37 [none, none, some (ki x2'), none] []) : KW x 0 0 Q σ 4 [some (kr 30), some (ki x1), some (ki x2), some (ki x3)] [] := by
  unfold pf_World_unscarred_30_l4 at h
  refine kw_iload_n C (kdec dc_World_unscarred 4 rfl) rfl 5 rfl rfl ?_
  refine kw_iload_n C (kdec dc_World_unscarred 5 rfl) rfl 6 rfl rfl ?_
  refine kw_icmp_ge C (kdec dc_World_unscarred 6 rfl) 37 9 (by decide) rfl (fun hc6 => ?_) (fun hc6 => ?_)
  · rw [if_pos hc6] at h
    obtain rfl := Option.some.inj h
    exact kw_sub (L' := [none, none, some (ki x2), none]) ⟨rfl, trivial⟩ (hX37 _ rfl)
  · rw [if_neg hc6] at h
    refine kw_iload_n C (kdec dc_World_unscarred 7 rfl) rfl 10 rfl rfl ?_
    refine kw_aload_n C (kdec dc_World_unscarred 8 rfl) rfl 11 rfl rfl ?_
    refine kw_getR C (kdec dc_World_unscarred 9 rfl) 14 rfl fd_C_World_11_30 ?_
    refine kw_bipush (v := 9) C (kdec dc_World_unscarred 10 rfl) 16 rfl (by decide) ⟨by decide, by decide⟩ ?_
    refine kw_iload_n C (kdec dc_World_unscarred 11 rfl) rfl 17 rfl rfl ?_
    refine kw_iadd C (kdec dc_World_unscarred 12 rfl) 18 rfl ?_
    obtain ⟨hc_1, h⟩ := kchk_h h
    refine kw_iald C (kdec dc_World_unscarred 13 rfl) 19 rfl rfl hc_1.1 hc_1.2 ?_
    refine kw_if_ne C (kdec dc_World_unscarred 14 rfl) 28 22 (by decide) rfl (fun hc19 => ?_) (fun hc19 => ?_)
    · rw [if_neg hc19] at h
      refine kw_iconst C (kdec dc_World_unscarred 19 rfl) 29 rfl rfl ⟨by decide, by decide⟩ ?_
      exact kw_sub (L' := [some (kr 30), some (ki x1), none, some (ki x3)]) ⟨rfl, rfl, rfl, trivial⟩ (bd_pf_World_unscarred_30_l4_j29 C σ x1 x3 0 x2 h hC hX37)
    · rw [if_pos hc19] at h
      refine kw_iconst C (kdec dc_World_unscarred 15 rfl) 23 rfl rfl ⟨by decide, by decide⟩ ?_
      refine kw_iload_n C (kdec dc_World_unscarred 16 rfl) rfl 24 rfl rfl ?_
      refine kw_ishl C (kdec dc_World_unscarred 17 rfl) 25 rfl ?_
      refine kw_goto C (kdec dc_World_unscarred 18 rfl) 29 (by decide) ?_
      exact kw_sub (L' := [some (kr 30), some (ki x1), none, some (ki x3)]) ⟨rfl, rfl, rfl, trivial⟩ (bd_pf_World_unscarred_30_l4_j29 C σ x1 x3 (kshl 1 x3) x2 h hC hX37)
theorem lp_pf_World_unscarred_30_l4 {x : kX} {l0 : Launch} {Q : State → Prop} (C : kCx x prog_12_method_9_code "PoetFines$World" (some .int) kcl yC 4 l0 R0_pf_World_unscarred_30) (σ : kM) (x1 : Int) {ex : (Int)} (hX37 : ∀ (x2' : Int), ex = x2' → KW x 0 0 Q σ 37 [none, none, some (ki x2'), none] []) (n : Nat) (x2 : Int) (x3 : Int) (h : kloop (fun st => pf_World_unscarred_30_l4 σ x1 st.1 st.2) n (x2, x3) = some ex) : KW x 0 0 Q σ 4 [some (kr 30), some (ki x1), some (ki x2), some (ki x3)] [] :=
  kloop_ind (P := (fun st : Int × Int => KW x 0 0 Q σ 4 [some (kr 30), some (ki x1), some (ki (st.1)), some (ki (st.2))] [])) (fun st out hb hc hx => bd_pf_World_unscarred_30_l4 C σ x1 st.1 st.2 hb (fun a0 a1 e => hc _ e) (fun a0 e => hX37 _ ((hx _ e).symm))) n (x2, x3) h
def pf_World_unscarred_30 (σ : kM) (x1 : Int) : Option (Int) :=
  (kloop (fun st => pf_World_unscarred_30_l4 σ x1 st.1 st.2) kFuel (0, 0)).bind fun x2_6 =>
  some x2_6
set_option maxHeartbeats 4000000 in
theorem bd_pf_World_unscarred_30 {x : kX} {l0 : Launch} {Q : State → Prop} (C : kCx x prog_12_method_9_code "PoetFines$World" (some .int) kcl yC 4 l0 R0_pf_World_unscarred_30) (σ : kM) (x1 : Int) {out : Int} (h : pf_World_unscarred_30 σ x1 = some out) (hR : ∀ (r : Int), out = r → Q = kQ x (some (ki r)) σ 0 0) : KW x 0 0 Q σ 0 [some (kr 30), some (ki x1), none, none] [] := by
  unfold pf_World_unscarred_30 at h
  refine kw_iconst C (kdec dc_World_unscarred 0 rfl) 1 rfl rfl ⟨by decide, by decide⟩ ?_
  refine kw_istore_n (L' := [some (kr 30), some (ki x1), some (ki 0), none]) C (kdec dc_World_unscarred 1 rfl) rfl 2 rfl (by decide) rfl rfl ?_
  refine kw_iconst C (kdec dc_World_unscarred 2 rfl) 3 rfl rfl ⟨by decide, by decide⟩ ?_
  refine kw_istore_n (L' := [some (kr 30), some (ki x1), some (ki 0), some (ki 0)]) C (kdec dc_World_unscarred 3 rfl) rfl 4 rfl (by decide) rfl rfl ?_
  obtain ⟨ex_4, hl_5, h⟩ := kbind_h h
  refine lp_pf_World_unscarred_30_l4 C σ x1 ?_ kFuel 0 0 hl_5
  · intro x2_6 e
    subst ex_4
    try dsimp only at h
    refine kw_iload_n C (kdec dc_World_unscarred 24 rfl) rfl 38 rfl rfl ?_
    obtain rfl := Option.some.inj h
    exact kw_Q (hR _ rfl) (kw_ireturn C (kdec dc_World_unscarred 25 rfl))
theorem mt_pf_World_unscarred_30 (l0 : Launch) {σ : kM} {x1 : Int} {r : Int} (h : pf_World_unscarred_30 σ x1 = some r) : kMet l0 ky_World_unscarred prog_12_method_9_code 4 (some .int) R0_pf_World_unscarred_30 kcl yC σ [kr 30, ki x1] (some (ki r)) σ := kMet.of' [some (kr 30), some (ki x1), none, none] (by decide) (Nat.le_of_ble_eq_true rfl) ⟨rfl, rfl, trivial⟩ (fun x C => bd_pf_World_unscarred_30 C σ x1 h (fun r e => by subst e; rfl))
def R0_pf_World_sitting_30 : Room := ({ frames := 0, cells := 0, slots := 0, locals := 0 } : Room)
def pf_World_sitting_30_l4_j29 (σ : kM) (x1 : Int) (x3 : Int) (s0 : Int) (s1 : Int) : Option ((Int × Int) ⊕ ((Int))) :=
  klet (kor s1 s0) fun x2_2 =>
  klet (w32 (x3 + 1)) fun x3_3 =>
  some (Sum.inl (x2_2, x3_3))
set_option maxHeartbeats 4000000 in
theorem bd_pf_World_sitting_30_l4_j29 {x : kX} {l0 : Launch} {Q : State → Prop} (C : kCx x prog_12_method_10_code "PoetFines$World" (some .int) kcl yC 4 l0 R0_pf_World_sitting_30) (σ : kM) (x1 : Int) (x3 : Int) (s0 : Int) (s1 : Int) {out : (Int × Int) ⊕ ((Int))} (h : pf_World_sitting_30_l4_j29 σ x1 x3 s0 s1 = some out) (hC : ∀ (x2' : Int) (x3' : Int), out = Sum.inl (x2', x3') → KW x 0 0 Q σ 4 [some (kr 30), some (ki x1), some (ki x2'), some (ki x3')] []) (hX37 : ∀ (x2' : Int), out = Sum.inr x2' → KW x 0 0 Q σ 37 [none, none, some (ki x2'), none] []) : KW x 0 0 Q σ 29 [some (kr 30), some (ki x1), none, some (ki x3)] [ki s0, ki s1] := by
  unfold pf_World_sitting_30_l4_j29 at h
  refine kw_ior C (kdec dc_World_sitting 20 rfl) 30 rfl ?_
  obtain ⟨x2_2, ex2_2, h⟩ := klet_h h
  refine kw_top ex2_2 ?_
  refine kw_istore_n (L' := [some (kr 30), some (ki x1), some (ki x2_2), some (ki x3)]) C (kdec dc_World_sitting 21 rfl) rfl 31 rfl (by decide) rfl rfl ?_
  obtain ⟨x3_3, ex3_3, h⟩ := klet_h h
  refine kw_iinc (L' := [some (kr 30), some (ki x1), some (ki x2_2), some (ki x3_3)]) C (kdec dc_World_sitting 22 rfl) 34 rfl rfl (by decide) rfl (by rw [ex3_3]; rfl) ?_
  refine kw_goto C (kdec dc_World_sitting 23 rfl) 4 (by decide) ?_
  obtain rfl := Option.some.inj h
  exact (hC _ _ rfl)
def pf_World_sitting_30_l4 (σ : kM) (x1 : Int) (x2 : Int) (x3 : Int) : Option ((Int × Int) ⊕ ((Int))) :=
  if x1 ≤ x3 then
    some (Sum.inr x2)
  else
    kchk (0 ≤ (w32 (57 + x3)) ∧ (w32 (57 + x3)) < 85) <|
    if (σ 31 (w32 (57 + x3)).toNat) ≤ 0 then
      pf_World_sitting_30_l4_j29 σ x1 x3 0 x2
    else
      pf_World_sitting_30_l4_j29 σ x1 x3 (kshl 1 x3) x2
set_option maxHeartbeats 4000000 in
theorem bd_pf_World_sitting_30_l4 {x : kX} {l0 : Launch} {Q : State → Prop} (C : kCx x prog_12_method_10_code "PoetFines$World" (some .int) kcl yC 4 l0 R0_pf_World_sitting_30) (σ : kM) (x1 : Int) (x2 : Int) (x3 : Int) {out : (Int × Int) ⊕ ((Int))} (h : pf_World_sitting_30_l4 σ x1 x2 x3 = some out) (hC : ∀ (x2' : Int) (x3' : Int), out = Sum.inl (x2', x3') → KW x 0 0 Q σ 4 [some (kr 30), some (ki x1), some (ki x2'), some (ki x3')] []) (hX37 : ∀ (x2' : Int), out = Sum.inr x2' → KW x 0 0 Q σ 37 [none, none, some (ki x2'), none] []) : KW x 0 0 Q σ 4 [some (kr 30), some (ki x1), some (ki x2), some (ki x3)] [] := by
  unfold pf_World_sitting_30_l4 at h
  refine kw_iload_n C (kdec dc_World_sitting 4 rfl) rfl 5 rfl rfl ?_
  refine kw_iload_n C (kdec dc_World_sitting 5 rfl) rfl 6 rfl rfl ?_
  refine kw_icmp_ge C (kdec dc_World_sitting 6 rfl) 37 9 (by decide) rfl (fun hc6 => ?_) (fun hc6 => ?_)
  · rw [if_pos hc6] at h
    obtain rfl := Option.some.inj h
    exact kw_sub (L' := [none, none, some (ki x2), none]) ⟨rfl, trivial⟩ (hX37 _ rfl)
  · rw [if_neg hc6] at h
    refine kw_iload_n C (kdec dc_World_sitting 7 rfl) rfl 10 rfl rfl ?_
    refine kw_aload_n C (kdec dc_World_sitting 8 rfl) rfl 11 rfl rfl ?_
    refine kw_getR C (kdec dc_World_sitting 9 rfl) 14 rfl fd_C_World_11_30 ?_
    refine kw_bipush (v := 57) C (kdec dc_World_sitting 10 rfl) 16 rfl (by decide) ⟨by decide, by decide⟩ ?_
    refine kw_iload_n C (kdec dc_World_sitting 11 rfl) rfl 17 rfl rfl ?_
    refine kw_iadd C (kdec dc_World_sitting 12 rfl) 18 rfl ?_
    obtain ⟨hc_1, h⟩ := kchk_h h
    refine kw_iald C (kdec dc_World_sitting 13 rfl) 19 rfl rfl hc_1.1 hc_1.2 ?_
    refine kw_if_le C (kdec dc_World_sitting 14 rfl) 28 22 (by decide) rfl (fun hc19 => ?_) (fun hc19 => ?_)
    · rw [if_pos hc19] at h
      refine kw_iconst C (kdec dc_World_sitting 19 rfl) 29 rfl rfl ⟨by decide, by decide⟩ ?_
      exact kw_sub (L' := [some (kr 30), some (ki x1), none, some (ki x3)]) ⟨rfl, rfl, rfl, trivial⟩ (bd_pf_World_sitting_30_l4_j29 C σ x1 x3 0 x2 h hC hX37)
    · rw [if_neg hc19] at h
      refine kw_iconst C (kdec dc_World_sitting 15 rfl) 23 rfl rfl ⟨by decide, by decide⟩ ?_
      refine kw_iload_n C (kdec dc_World_sitting 16 rfl) rfl 24 rfl rfl ?_
      refine kw_ishl C (kdec dc_World_sitting 17 rfl) 25 rfl ?_
      refine kw_goto C (kdec dc_World_sitting 18 rfl) 29 (by decide) ?_
      exact kw_sub (L' := [some (kr 30), some (ki x1), none, some (ki x3)]) ⟨rfl, rfl, rfl, trivial⟩ (bd_pf_World_sitting_30_l4_j29 C σ x1 x3 (kshl 1 x3) x2 h hC hX37)
theorem lp_pf_World_sitting_30_l4 {x : kX} {l0 : Launch} {Q : State → Prop} (C : kCx x prog_12_method_10_code "PoetFines$World" (some .int) kcl yC 4 l0 R0_pf_World_sitting_30) (σ : kM) (x1 : Int) {ex : (Int)} (hX37 : ∀ (x2' : Int), ex = x2' → KW x 0 0 Q σ 37 [none, none, some (ki x2'), none] []) (n : Nat) (x2 : Int) (x3 : Int) (h : kloop (fun st => pf_World_sitting_30_l4 σ x1 st.1 st.2) n (x2, x3) = some ex) : KW x 0 0 Q σ 4 [some (kr 30), some (ki x1), some (ki x2), some (ki x3)] [] :=
  kloop_ind (P := (fun st : Int × Int => KW x 0 0 Q σ 4 [some (kr 30), some (ki x1), some (ki (st.1)), some (ki (st.2))] [])) (fun st out hb hc hx => bd_pf_World_sitting_30_l4 C σ x1 st.1 st.2 hb (fun a0 a1 e => hc _ e) (fun a0 e => hX37 _ ((hx _ e).symm))) n (x2, x3) h
def pf_World_sitting_30 (σ : kM) (x1 : Int) : Option (Int) :=
  (kloop (fun st => pf_World_sitting_30_l4 σ x1 st.1 st.2) kFuel (0, 0)).bind fun x2_6 =>
  some x2_6
set_option maxHeartbeats 4000000 in
theorem bd_pf_World_sitting_30 {x : kX} {l0 : Launch} {Q : State → Prop} (C : kCx x prog_12_method_10_code "PoetFines$World" (some .int) kcl yC 4 l0 R0_pf_World_sitting_30) (σ : kM) (x1 : Int) {out : Int} (h : pf_World_sitting_30 σ x1 = some out) (hR : ∀ (r : Int), out = r → Q = kQ x (some (ki r)) σ 0 0) : KW x 0 0 Q σ 0 [some (kr 30), some (ki x1), none, none] [] := by
  unfold pf_World_sitting_30 at h
  refine kw_iconst C (kdec dc_World_sitting 0 rfl) 1 rfl rfl ⟨by decide, by decide⟩ ?_
  refine kw_istore_n (L' := [some (kr 30), some (ki x1), some (ki 0), none]) C (kdec dc_World_sitting 1 rfl) rfl 2 rfl (by decide) rfl rfl ?_
  refine kw_iconst C (kdec dc_World_sitting 2 rfl) 3 rfl rfl ⟨by decide, by decide⟩ ?_
  refine kw_istore_n (L' := [some (kr 30), some (ki x1), some (ki 0), some (ki 0)]) C (kdec dc_World_sitting 3 rfl) rfl 4 rfl (by decide) rfl rfl ?_
  obtain ⟨ex_4, hl_5, h⟩ := kbind_h h
  refine lp_pf_World_sitting_30_l4 C σ x1 ?_ kFuel 0 0 hl_5
  · intro x2_6 e
    subst ex_4
    try dsimp only at h
    refine kw_iload_n C (kdec dc_World_sitting 24 rfl) rfl 38 rfl rfl ?_
    obtain rfl := Option.some.inj h
    exact kw_Q (hR _ rfl) (kw_ireturn C (kdec dc_World_sitting 25 rfl))
theorem mt_pf_World_sitting_30 (l0 : Launch) {σ : kM} {x1 : Int} {r : Int} (h : pf_World_sitting_30 σ x1 = some r) : kMet l0 ky_World_sitting prog_12_method_10_code 4 (some .int) R0_pf_World_sitting_30 kcl yC σ [kr 30, ki x1] (some (ki r)) σ := kMet.of' [some (kr 30), some (ki x1), none, none] (by decide) (Nat.le_of_ble_eq_true rfl) ⟨rfl, rfl, trivial⟩ (fun x C => bd_pf_World_sitting_30 C σ x1 h (fun r e => by subst e; rfl))
def R0_pf_P_count_0 : Room := ({ frames := 6, cells := 1, slots := 6, locals := 100 } : Room)
def pf_P_count_0 (σ : kM) (x1 : Int) : Option ((String ⊕ Int) × kM) :=
  if x1 = 0 then
    some ((.inr (σ 3 0), σ))
  else
    if x1 = 1 then
      some ((.inr (σ 3 1), σ))
    else
      if x1 = 2 then
        some ((.inr (σ 3 2), σ))
      else
        if x1 = 3 then
          some ((.inr (σ 31 (0 : Int).toNat), σ))
        else
          if x1 = 4 then
            (pf_World_total_30 σ 1 (σ 3 1)).bind fun r_1 =>
            some ((.inr r_1, σ))
          else
            if x1 = 5 then
              (pf_World_total_30 σ 49 (σ 3 2)).bind fun r_3 =>
              some ((.inr r_3, σ))
            else
              if x1 = 6 then
                (pf_World_total_30 σ 9 (σ 3 1)).bind fun r_5 =>
                some ((.inr r_5, σ))
              else
                if x1 = 7 then
                  (pf_World_unscarred_30 σ (σ 3 1)).bind fun r_7 =>
                  some ((.inr r_7, σ))
                else
                  if x1 = 8 then
                    (pf_World_sitting_30 σ (σ 3 2)).bind fun r_9 =>
                    some ((.inr r_9, σ))
                  else
                    if x1 = 9 then
                      some ((.inr (σ 29 1), σ))
                    else
                      if x1 = 10 then
                        some ((.inr (σ 29 4), σ))
                      else
                        if x1 = 11 then
                          some ((.inr (σ 0 1), σ))
                        else
                          if x1 = 12 then
                            some ((.inr (σ 2 (0 : Int).toNat), σ))
                          else
                            if x1 = 13 then
                              some ((.inr (σ 2 (1 : Int).toNat), σ))
                            else
                              if x1 = 14 then
                                some ((.inr (σ 2 (2 : Int).toNat), σ))
                              else
                                some (.inl "java/util/NoSuchElementException", σ)
set_option maxHeartbeats 4000000 in
theorem bd_pf_P_count_0 {x : kX} {l0 : Launch} {Q : State → Prop} (C : kCx x prog_1_method_5_code "PoetFines" (some .int) kcl yC 3 l0 R0_pf_P_count_0) (hT : kTb x) (hfl : l0.stackTraces = false) (σ : kM) (x1 : Int) {out : (String ⊕ Int) × kM} (h : pf_P_count_0 σ x1 = some out) (hR : ∀ (r : Int) (τ : kM), out = (.inr r, τ) → Q = kQX x (.inr (some (ki r))) τ 1 6) (hE : ∀ (E : String) (τ : kM), out = (.inl E, τ) → Q = kQX x (.inl E) τ 1 6) : KW x 0 0 Q σ 0 [some (kr 0), some (ki x1), none] [] := by
  unfold pf_P_count_0 at h
  refine kw_aload_n C (kdec dc_P_count 0 rfl) rfl 1 rfl rfl ?_
  refine kw_getR C (kdec dc_P_count 1 rfl) 4 rfl fd_C_P_43_0 ?_
  refine kw_getR C (kdec dc_P_count 2 rfl) 7 rfl fd_C_P_56_29 ?_
  refine kw_astore_n (L' := [some (kr 0), some (ki x1), some (kr 30)]) C (kdec dc_P_count 3 rfl) rfl 8 rfl (by decide) rfl rfl ?_
  refine kw_iload_n C (kdec dc_P_count 4 rfl) rfl 9 rfl rfl ?_
  by_cases hc9_0 : x1 = 0
  · rw [if_pos hc9_0] at h
    refine kw_table C (kdec dc_P_count 5 rfl) 84 (Or.inr ⟨by omega, by omega, _, by rw [hc9_0]; rfl, by decide⟩) ?_
    refine kw_aload_n C (kdec dc_P_count 6 rfl) rfl 85 rfl rfl ?_
    refine kw_getR C (kdec dc_P_count 7 rfl) 88 rfl fd_C_P_27_0 ?_
    refine kw_getI C (kdec dc_P_count 8 rfl) 91 rfl fd_C_P_113_3 ?_
    obtain rfl := Option.some.inj h
    exact kw_Q (hR _ _ rfl) (kw_xret (by decide) (by decide) (kw_ireturn C (kdec dc_P_count 9 rfl)))
  · rw [if_neg hc9_0] at h
    by_cases hc9_1 : x1 = 1
    · rw [if_pos hc9_1] at h
      refine kw_table C (kdec dc_P_count 5 rfl) 92 (Or.inr ⟨by omega, by omega, _, by rw [hc9_1]; rfl, by decide⟩) ?_
      refine kw_aload_n C (kdec dc_P_count 10 rfl) rfl 93 rfl rfl ?_
      refine kw_getR C (kdec dc_P_count 11 rfl) 96 rfl fd_C_P_27_0 ?_
      refine kw_getI C (kdec dc_P_count 12 rfl) 99 rfl fd_C_P_116_3 ?_
      obtain rfl := Option.some.inj h
      exact kw_Q (hR _ _ rfl) (kw_xret (by decide) (by decide) (kw_ireturn C (kdec dc_P_count 13 rfl)))
    · rw [if_neg hc9_1] at h
      by_cases hc9_2 : x1 = 2
      · rw [if_pos hc9_2] at h
        refine kw_table C (kdec dc_P_count 5 rfl) 100 (Or.inr ⟨by omega, by omega, _, by rw [hc9_2]; rfl, by decide⟩) ?_
        refine kw_aload_n C (kdec dc_P_count 14 rfl) rfl 101 rfl rfl ?_
        refine kw_getR C (kdec dc_P_count 15 rfl) 104 rfl fd_C_P_27_0 ?_
        refine kw_getI C (kdec dc_P_count 16 rfl) 107 rfl fd_C_P_119_3 ?_
        obtain rfl := Option.some.inj h
        exact kw_Q (hR _ _ rfl) (kw_xret (by decide) (by decide) (kw_ireturn C (kdec dc_P_count 17 rfl)))
      · rw [if_neg hc9_2] at h
        by_cases hc9_3 : x1 = 3
        · rw [if_pos hc9_3] at h
          refine kw_table C (kdec dc_P_count 5 rfl) 108 (Or.inr ⟨by omega, by omega, _, by rw [hc9_3]; rfl, by decide⟩) ?_
          refine kw_aload_n C (kdec dc_P_count 18 rfl) rfl 109 rfl rfl ?_
          refine kw_getR C (kdec dc_P_count 19 rfl) 112 rfl fd_C_P_122_30 ?_
          refine kw_iconst C (kdec dc_P_count 20 rfl) 113 rfl rfl ⟨by decide, by decide⟩ ?_
          refine kw_iald C (kdec dc_P_count 21 rfl) 114 rfl rfl (by decide) (by decide) ?_
          obtain rfl := Option.some.inj h
          exact kw_Q (hR _ _ rfl) (kw_xret (by decide) (by decide) (kw_ireturn C (kdec dc_P_count 22 rfl)))
        · rw [if_neg hc9_3] at h
          by_cases hc9_4 : x1 = 4
          · rw [if_pos hc9_4] at h
            refine kw_table C (kdec dc_P_count 5 rfl) 115 (Or.inr ⟨by omega, by omega, _, by rw [hc9_4]; rfl, by decide⟩) ?_
            refine kw_aload_n C (kdec dc_P_count 23 rfl) rfl 116 rfl rfl ?_
            refine kw_iconst C (kdec dc_P_count 24 rfl) 117 rfl rfl ⟨by decide, by decide⟩ ?_
            refine kw_aload_n C (kdec dc_P_count 25 rfl) rfl 118 rfl rfl ?_
            refine kw_getR C (kdec dc_P_count 26 rfl) 121 rfl fd_C_P_27_0 ?_
            refine kw_getI C (kdec dc_P_count 27 rfl) 124 rfl fd_C_P_116_3 ?_
            obtain ⟨r_1, hg_2, h⟩ := kbind_h h
            refine kw_callV (As := [ki 1, ki (σ 3 1)]) C (kdec dc_P_count 28 rfl) 127 rfl cv_P_127 rfl rfl (mt_pf_World_total_30 l0 hg_2) ⟨rfl, rfl⟩ ⟨Nat.le_of_ble_eq_true rfl, Nat.le_of_ble_eq_true rfl⟩ ⟨Nat.le_of_ble_eq_true rfl, Nat.le_of_ble_eq_true rfl⟩ rfl (Nat.le_of_ble_eq_true rfl) ?_
            change KW x 0 0 Q σ 127 [some (kr 0), some (ki x1), some (kr 30)] [ki r_1]
            obtain rfl := Option.some.inj h
            exact kw_Q (hR _ _ rfl) (kw_xret (by decide) (by decide) (kw_ireturn C (kdec dc_P_count 29 rfl)))
          · rw [if_neg hc9_4] at h
            by_cases hc9_5 : x1 = 5
            · rw [if_pos hc9_5] at h
              refine kw_table C (kdec dc_P_count 5 rfl) 128 (Or.inr ⟨by omega, by omega, _, by rw [hc9_5]; rfl, by decide⟩) ?_
              refine kw_aload_n C (kdec dc_P_count 30 rfl) rfl 129 rfl rfl ?_
              refine kw_bipush (v := 49) C (kdec dc_P_count 31 rfl) 131 rfl (by decide) ⟨by decide, by decide⟩ ?_
              refine kw_aload_n C (kdec dc_P_count 32 rfl) rfl 132 rfl rfl ?_
              refine kw_getR C (kdec dc_P_count 33 rfl) 135 rfl fd_C_P_27_0 ?_
              refine kw_getI C (kdec dc_P_count 34 rfl) 138 rfl fd_C_P_119_3 ?_
              obtain ⟨r_3, hg_4, h⟩ := kbind_h h
              refine kw_callV (As := [ki 49, ki (σ 3 2)]) C (kdec dc_P_count 35 rfl) 141 rfl cv_P_127 rfl rfl (mt_pf_World_total_30 l0 hg_4) ⟨rfl, rfl⟩ ⟨Nat.le_of_ble_eq_true rfl, Nat.le_of_ble_eq_true rfl⟩ ⟨Nat.le_of_ble_eq_true rfl, Nat.le_of_ble_eq_true rfl⟩ rfl (Nat.le_of_ble_eq_true rfl) ?_
              change KW x 0 0 Q σ 141 [some (kr 0), some (ki x1), some (kr 30)] [ki r_3]
              obtain rfl := Option.some.inj h
              exact kw_Q (hR _ _ rfl) (kw_xret (by decide) (by decide) (kw_ireturn C (kdec dc_P_count 36 rfl)))
            · rw [if_neg hc9_5] at h
              by_cases hc9_6 : x1 = 6
              · rw [if_pos hc9_6] at h
                refine kw_table C (kdec dc_P_count 5 rfl) 142 (Or.inr ⟨by omega, by omega, _, by rw [hc9_6]; rfl, by decide⟩) ?_
                refine kw_aload_n C (kdec dc_P_count 37 rfl) rfl 143 rfl rfl ?_
                refine kw_bipush (v := 9) C (kdec dc_P_count 38 rfl) 145 rfl (by decide) ⟨by decide, by decide⟩ ?_
                refine kw_aload_n C (kdec dc_P_count 39 rfl) rfl 146 rfl rfl ?_
                refine kw_getR C (kdec dc_P_count 40 rfl) 149 rfl fd_C_P_27_0 ?_
                refine kw_getI C (kdec dc_P_count 41 rfl) 152 rfl fd_C_P_116_3 ?_
                obtain ⟨r_5, hg_6, h⟩ := kbind_h h
                refine kw_callV (As := [ki 9, ki (σ 3 1)]) C (kdec dc_P_count 42 rfl) 155 rfl cv_P_127 rfl rfl (mt_pf_World_total_30 l0 hg_6) ⟨rfl, rfl⟩ ⟨Nat.le_of_ble_eq_true rfl, Nat.le_of_ble_eq_true rfl⟩ ⟨Nat.le_of_ble_eq_true rfl, Nat.le_of_ble_eq_true rfl⟩ rfl (Nat.le_of_ble_eq_true rfl) ?_
                change KW x 0 0 Q σ 155 [some (kr 0), some (ki x1), some (kr 30)] [ki r_5]
                obtain rfl := Option.some.inj h
                exact kw_Q (hR _ _ rfl) (kw_xret (by decide) (by decide) (kw_ireturn C (kdec dc_P_count 43 rfl)))
              · rw [if_neg hc9_6] at h
                by_cases hc9_7 : x1 = 7
                · rw [if_pos hc9_7] at h
                  refine kw_table C (kdec dc_P_count 5 rfl) 156 (Or.inr ⟨by omega, by omega, _, by rw [hc9_7]; rfl, by decide⟩) ?_
                  refine kw_aload_n C (kdec dc_P_count 44 rfl) rfl 157 rfl rfl ?_
                  refine kw_aload_n C (kdec dc_P_count 45 rfl) rfl 158 rfl rfl ?_
                  refine kw_getR C (kdec dc_P_count 46 rfl) 161 rfl fd_C_P_27_0 ?_
                  refine kw_getI C (kdec dc_P_count 47 rfl) 164 rfl fd_C_P_116_3 ?_
                  obtain ⟨r_7, hg_8, h⟩ := kbind_h h
                  refine kw_callV (As := [ki (σ 3 1)]) C (kdec dc_P_count 48 rfl) 167 rfl cv_P_131 rfl rfl (mt_pf_World_unscarred_30 l0 hg_8) ⟨rfl, rfl⟩ ⟨Nat.le_of_ble_eq_true rfl, Nat.le_of_ble_eq_true rfl⟩ ⟨Nat.le_of_ble_eq_true rfl, Nat.le_of_ble_eq_true rfl⟩ rfl (Nat.le_of_ble_eq_true rfl) ?_
                  change KW x 0 0 Q σ 167 [some (kr 0), some (ki x1), some (kr 30)] [ki r_7]
                  obtain rfl := Option.some.inj h
                  exact kw_Q (hR _ _ rfl) (kw_xret (by decide) (by decide) (kw_ireturn C (kdec dc_P_count 49 rfl)))
                · rw [if_neg hc9_7] at h
                  by_cases hc9_8 : x1 = 8
                  · rw [if_pos hc9_8] at h
                    refine kw_table C (kdec dc_P_count 5 rfl) 168 (Or.inr ⟨by omega, by omega, _, by rw [hc9_8]; rfl, by decide⟩) ?_
                    refine kw_aload_n C (kdec dc_P_count 50 rfl) rfl 169 rfl rfl ?_
                    refine kw_aload_n C (kdec dc_P_count 51 rfl) rfl 170 rfl rfl ?_
                    refine kw_getR C (kdec dc_P_count 52 rfl) 173 rfl fd_C_P_27_0 ?_
                    refine kw_getI C (kdec dc_P_count 53 rfl) 176 rfl fd_C_P_119_3 ?_
                    obtain ⟨r_9, hg_10, h⟩ := kbind_h h
                    refine kw_callV (As := [ki (σ 3 2)]) C (kdec dc_P_count 54 rfl) 179 rfl cv_P_134 rfl rfl (mt_pf_World_sitting_30 l0 hg_10) ⟨rfl, rfl⟩ ⟨Nat.le_of_ble_eq_true rfl, Nat.le_of_ble_eq_true rfl⟩ ⟨Nat.le_of_ble_eq_true rfl, Nat.le_of_ble_eq_true rfl⟩ rfl (Nat.le_of_ble_eq_true rfl) ?_
                    change KW x 0 0 Q σ 179 [some (kr 0), some (ki x1), some (kr 30)] [ki r_9]
                    obtain rfl := Option.some.inj h
                    exact kw_Q (hR _ _ rfl) (kw_xret (by decide) (by decide) (kw_ireturn C (kdec dc_P_count 55 rfl)))
                  · rw [if_neg hc9_8] at h
                    by_cases hc9_9 : x1 = 9
                    · rw [if_pos hc9_9] at h
                      refine kw_table C (kdec dc_P_count 5 rfl) 180 (Or.inr ⟨by omega, by omega, _, by rw [hc9_9]; rfl, by decide⟩) ?_
                      refine kw_aload_n C (kdec dc_P_count 56 rfl) rfl 181 rfl rfl ?_
                      refine kw_getR C (kdec dc_P_count 57 rfl) 184 rfl fd_C_P_43_0 ?_
                      refine kw_getI C (kdec dc_P_count 58 rfl) 187 rfl fd_C_P_137_29 ?_
                      obtain rfl := Option.some.inj h
                      exact kw_Q (hR _ _ rfl) (kw_xret (by decide) (by decide) (kw_ireturn C (kdec dc_P_count 59 rfl)))
                    · rw [if_neg hc9_9] at h
                      by_cases hc9_10 : x1 = 10
                      · rw [if_pos hc9_10] at h
                        refine kw_table C (kdec dc_P_count 5 rfl) 188 (Or.inr ⟨by omega, by omega, _, by rw [hc9_10]; rfl, by decide⟩) ?_
                        refine kw_aload_n C (kdec dc_P_count 60 rfl) rfl 189 rfl rfl ?_
                        refine kw_getR C (kdec dc_P_count 61 rfl) 192 rfl fd_C_P_43_0 ?_
                        refine kw_getI C (kdec dc_P_count 62 rfl) 195 rfl fd_C_P_140_29 ?_
                        obtain rfl := Option.some.inj h
                        exact kw_Q (hR _ _ rfl) (kw_xret (by decide) (by decide) (kw_ireturn C (kdec dc_P_count 63 rfl)))
                      · rw [if_neg hc9_10] at h
                        by_cases hc9_11 : x1 = 11
                        · rw [if_pos hc9_11] at h
                          refine kw_table C (kdec dc_P_count 5 rfl) 196 (Or.inr ⟨by omega, by omega, _, by rw [hc9_11]; rfl, by decide⟩) ?_
                          refine kw_aload_n C (kdec dc_P_count 64 rfl) rfl 197 rfl rfl ?_
                          refine kw_getI C (kdec dc_P_count 65 rfl) 200 rfl fd_C_P_13_0 ?_
                          obtain rfl := Option.some.inj h
                          exact kw_Q (hR _ _ rfl) (kw_xret (by decide) (by decide) (kw_ireturn C (kdec dc_P_count 66 rfl)))
                        · rw [if_neg hc9_11] at h
                          by_cases hc9_12 : x1 = 12
                          · rw [if_pos hc9_12] at h
                            refine kw_table C (kdec dc_P_count 5 rfl) 201 (Or.inr ⟨by omega, by omega, _, by rw [hc9_12]; rfl, by decide⟩) ?_
                            refine kw_aload_n C (kdec dc_P_count 67 rfl) rfl 202 rfl rfl ?_
                            refine kw_getR C (kdec dc_P_count 68 rfl) 205 rfl fd_C_P_20_0 ?_
                            refine kw_iconst C (kdec dc_P_count 69 rfl) 206 rfl rfl ⟨by decide, by decide⟩ ?_
                            refine kw_iald C (kdec dc_P_count 70 rfl) 207 rfl rfl (by decide) (by decide) ?_
                            obtain rfl := Option.some.inj h
                            exact kw_Q (hR _ _ rfl) (kw_xret (by decide) (by decide) (kw_ireturn C (kdec dc_P_count 71 rfl)))
                          · rw [if_neg hc9_12] at h
                            by_cases hc9_13 : x1 = 13
                            · rw [if_pos hc9_13] at h
                              refine kw_table C (kdec dc_P_count 5 rfl) 208 (Or.inr ⟨by omega, by omega, _, by rw [hc9_13]; rfl, by decide⟩) ?_
                              refine kw_aload_n C (kdec dc_P_count 72 rfl) rfl 209 rfl rfl ?_
                              refine kw_getR C (kdec dc_P_count 73 rfl) 212 rfl fd_C_P_20_0 ?_
                              refine kw_iconst C (kdec dc_P_count 74 rfl) 213 rfl rfl ⟨by decide, by decide⟩ ?_
                              refine kw_iald C (kdec dc_P_count 75 rfl) 214 rfl rfl (by decide) (by decide) ?_
                              obtain rfl := Option.some.inj h
                              exact kw_Q (hR _ _ rfl) (kw_xret (by decide) (by decide) (kw_ireturn C (kdec dc_P_count 76 rfl)))
                            · rw [if_neg hc9_13] at h
                              by_cases hc9_14 : x1 = 14
                              · rw [if_pos hc9_14] at h
                                refine kw_table C (kdec dc_P_count 5 rfl) 215 (Or.inr ⟨by omega, by omega, _, by rw [hc9_14]; rfl, by decide⟩) ?_
                                refine kw_aload_n C (kdec dc_P_count 77 rfl) rfl 216 rfl rfl ?_
                                refine kw_getR C (kdec dc_P_count 78 rfl) 219 rfl fd_C_P_20_0 ?_
                                refine kw_iconst C (kdec dc_P_count 79 rfl) 220 rfl rfl ⟨by decide, by decide⟩ ?_
                                refine kw_iald C (kdec dc_P_count 80 rfl) 221 rfl rfl (by decide) (by decide) ?_
                                obtain rfl := Option.some.inj h
                                exact kw_Q (hR _ _ rfl) (kw_xret (by decide) (by decide) (kw_ireturn C (kdec dc_P_count 81 rfl)))
                              · rw [if_neg hc9_14] at h
                                refine kw_table C (kdec dc_P_count 5 rfl) 222 (Or.inl ⟨by omega, by decide⟩) ?_
                                obtain rfl := Option.some.inj h
                                exact kw_Q (hE _ _ rfl) (kw_throw C hT hfl th_P_145_147 (kdec dc_P_count 82 rfl) (kdec dc_P_count 83 rfl) (kdec dc_P_count 84 rfl) (kdec dc_P_count 85 rfl) (kdec dc_P_count 86 rfl) (Nat.le_of_ble_eq_true rfl) ⟨Nat.le_of_ble_eq_true rfl, Nat.le_of_ble_eq_true rfl, Nat.le_of_ble_eq_true rfl, Nat.le_of_ble_eq_true rfl⟩ (Nat.le_of_ble_eq_true rfl) (Nat.le_of_ble_eq_true rfl))
theorem mx_pf_P_count_0 (l0 : Launch) (hfl : l0.stackTraces = false) {σ : kM} {x1 : Int} {r : Int} {τ : kM} (h : pf_P_count_0 σ x1 = some (.inr r, τ)) : kXet l0 ky_P_count prog_1_method_5_code 3 (some .int) R0_pf_P_count_0 kcl yC σ [kr 0, ki x1] (.inr (some (ki r))) τ 1 6 := kXet.of [some (kr 0), some (ki x1), none] (by decide) (Nat.le_of_ble_eq_true rfl) ⟨rfl, rfl, trivial⟩ (fun x C hT => bd_pf_P_count_0 C hT hfl σ x1 h (fun r τ e => by cases e; rfl) (fun E τ e => by cases e))
theorem me_pf_P_count_0 (l0 : Launch) (hfl : l0.stackTraces = false) {σ : kM} {x1 : Int} {E : String} {τ : kM} (h : pf_P_count_0 σ x1 = some (.inl E, τ)) : kXet l0 ky_P_count prog_1_method_5_code 3 (some .int) R0_pf_P_count_0 kcl yC σ [kr 0, ki x1] (.inl E) τ 1 6 := kXet.of [some (kr 0), some (ki x1), none] (by decide) (Nat.le_of_ble_eq_true rfl) ⟨rfl, rfl, trivial⟩ (fun x C hT => bd_pf_P_count_0 C hT hfl σ x1 h (fun r τ e => by cases e) (fun E τ e => by cases e; rfl))

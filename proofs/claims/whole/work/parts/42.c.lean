def R0_pf_Word_spelt_1 : Room := ({ frames := 5, cells := 0, slots := 0, locals := 109 } : Room)
def pf_Word_spelt_1_l2 (σ : kM) (x1 : Int) (x2 : Int) (x3 : Int) : Option ((Int) ⊕ ((Int) ⊕ (Unit))) :=
  if 18 ≤ x3 then
    some (Sum.inr (Sum.inr ()))
  else
    kchk (0 ≤ x3 ∧ x3 < 18) <|
    kchk (0 ≤ x3 ∧ x3 < 18) <|
    (pf_Word_isSpelt_1 σ x3 x1 x2).bind fun r_2 =>
    if r_2 = 0 then
      klet (w32 (x3 + 1)) fun x3_3 =>
      some (Sum.inl x3_3)
    else
      some (Sum.inr (Sum.inl x3))
set_option maxHeartbeats 4000000 in
theorem bd_pf_Word_spelt_1_l2 {x : kX} {l0 : Launch} {Q : State → Prop} (C : kCx x prog_11_method_5_code "PoetFines$Word" (some .int) kcl yC 4 l0 R0_pf_Word_spelt_1) (σ : kM) (x1 : Int) (x2 : Int) (x3 : Int) {out : (Int) ⊕ ((Int) ⊕ (Unit))} (h : pf_Word_spelt_1_l2 σ x1 x2 x3 = some out) (hC : ∀ (x3' : Int), out = Sum.inl x3' → KW x 0 0 Q σ 2 [some (kr 1), some (ki x1), some (ki x2), some (ki x3')] []) (hX24 : ∀ (x3' : Int), out = Sum.inr (Sum.inl x3') → KW x 0 0 Q σ 24 [none, none, none, some (ki x3')] []) (hX32 : out = Sum.inr (Sum.inr ()) → KW x 0 0 Q σ 32 [none, none, none, none] []) : KW x 0 0 Q σ 2 [some (kr 1), some (ki x1), some (ki x2), some (ki x3)] [] := by
  unfold pf_Word_spelt_1_l2 at h
  refine kw_iload_n C (kdec dc_Word_spelt 2 rfl) rfl 3 rfl rfl ?_
  refine kw_gsA C (kdec dc_Word_spelt 3 rfl) 6 rfl wd_791 ?_
  refine kw_alenA C (kdec dc_Word_spelt 4 rfl) 7 rfl ?_
  refine kw_icmp_ge C (kdec dc_Word_spelt 5 rfl) 32 10 (by decide) rfl (fun hc7 => ?_) (fun hc7 => ?_)
  · rw [if_pos hc7] at h
    obtain rfl := Option.some.inj h
    exact kw_sub (L' := [none, none, none, none]) trivial (hX32 rfl)
  · rw [if_neg hc7] at h
    refine kw_gsA C (kdec dc_Word_spelt 6 rfl) 13 rfl wd_791 ?_
    refine kw_iload_n C (kdec dc_Word_spelt 7 rfl) rfl 14 rfl rfl ?_
    obtain ⟨hc_1, h⟩ := kchk_h h
    refine kw_aald C (kdec dc_Word_spelt 8 rfl) 15 rfl hc_1.1 hc_1.2 ?_
    refine kw_aload_n C (kdec dc_Word_spelt 9 rfl) rfl 16 rfl rfl ?_
    refine kw_iload_n C (kdec dc_Word_spelt 10 rfl) rfl 17 rfl rfl ?_
    refine kw_iload_n C (kdec dc_Word_spelt 11 rfl) rfl 18 rfl rfl ?_
    obtain ⟨hc_5, h⟩ := kchk_h h
    obtain ⟨r_2, hg_4, h⟩ := kbind_h h
    refine kw_callE (As := [kr 1, ki x1, ki x2]) C (kdec dc_Word_spelt 12 rfl) 21 rfl hc_5.1 hc_5.2 cv_Word_93 (mt_pf_Word_isSpelt_1 l0 hg_4) ⟨rfl, rfl⟩ ⟨Nat.le_of_ble_eq_true rfl, Nat.le_of_ble_eq_true rfl⟩ ⟨Nat.zero_le _, Nat.zero_le _⟩ rfl (Nat.le_of_ble_eq_true rfl) ?_
    change KW x 0 0 Q σ 21 [some (kr 1), some (ki x1), some (ki x2), some (ki x3)] [ki r_2]
    refine kw_if_eq C (kdec dc_Word_spelt 13 rfl) 26 24 (by decide) rfl (fun hc21 => ?_) (fun hc21 => ?_)
    · rw [if_pos hc21] at h
      obtain ⟨x3_3, ex3_3, h⟩ := klet_h h
      refine kw_iinc (L' := [some (kr 1), some (ki x1), some (ki x2), some (ki x3_3)]) C (kdec dc_Word_spelt 16 rfl) 29 rfl rfl (by decide) rfl (by rw [ex3_3]; rfl) ?_
      refine kw_goto C (kdec dc_Word_spelt 17 rfl) 2 (by decide) ?_
      obtain rfl := Option.some.inj h
      exact (hC _ rfl)
    · rw [if_neg hc21] at h
      obtain rfl := Option.some.inj h
      exact kw_sub (L' := [none, none, none, some (ki x3)]) ⟨rfl, trivial⟩ (hX24 _ rfl)
theorem lp_pf_Word_spelt_1_l2 {x : kX} {l0 : Launch} {Q : State → Prop} (C : kCx x prog_11_method_5_code "PoetFines$Word" (some .int) kcl yC 4 l0 R0_pf_Word_spelt_1) (σ : kM) (x1 : Int) (x2 : Int) {ex : (Int) ⊕ (Unit)} (hX24 : ∀ (x3' : Int), ex = (Sum.inl x3') → KW x 0 0 Q σ 24 [none, none, none, some (ki x3')] []) (hX32 : ex = (Sum.inr ()) → KW x 0 0 Q σ 32 [none, none, none, none] []) (n : Nat) (x3 : Int) (h : kloop (fun st => pf_Word_spelt_1_l2 σ x1 x2 st) n x3 = some ex) : KW x 0 0 Q σ 2 [some (kr 1), some (ki x1), some (ki x2), some (ki x3)] [] :=
  kloop_ind (P := (fun st : Int => KW x 0 0 Q σ 2 [some (kr 1), some (ki x1), some (ki x2), some (ki st)] [])) (fun st out hb hc hx => bd_pf_Word_spelt_1_l2 C σ x1 x2 st hb (fun a0 e => hc _ e) (fun a0 e => hX24 _ ((hx _ e).symm)) (fun e => hX32 ((hx _ e).symm))) n x3 h
def pf_Word_spelt_1 (σ : kM) (x1 : Int) (x2 : Int) : Option (Int) :=
  (kloop (fun st => pf_Word_spelt_1_l2 σ x1 x2 st) kFuel 0).bind fun ex_6 => match ex_6 with
    | (Sum.inl x3_8) =>
      some x3_8
    | (Sum.inr ()) =>
      some (w32 (18 - 1))
set_option maxHeartbeats 4000000 in
theorem bd_pf_Word_spelt_1 {x : kX} {l0 : Launch} {Q : State → Prop} (C : kCx x prog_11_method_5_code "PoetFines$Word" (some .int) kcl yC 4 l0 R0_pf_Word_spelt_1) (σ : kM) (x1 : Int) (x2 : Int) {out : Int} (h : pf_Word_spelt_1 σ x1 x2 = some out) (hR : ∀ (r : Int), out = r → Q = kQ x (some (ki r)) σ 0 0) : KW x 0 0 Q σ 0 [some (kr 1), some (ki x1), some (ki x2), none] [] := by
  unfold pf_Word_spelt_1 at h
  refine kw_iconst C (kdec dc_Word_spelt 0 rfl) 1 rfl rfl ⟨by decide, by decide⟩ ?_
  refine kw_istore_n (L' := [some (kr 1), some (ki x1), some (ki x2), some (ki 0)]) C (kdec dc_Word_spelt 1 rfl) rfl 2 rfl (by decide) rfl rfl ?_
  obtain ⟨ex_6, hl_7, h⟩ := kbind_h h
  refine lp_pf_Word_spelt_1_l2 C σ x1 x2 ?_ ?_ kFuel 0 hl_7
  · intro x3_8 e
    subst ex_6
    try dsimp only at h
    refine kw_iload_n C (kdec dc_Word_spelt 14 rfl) rfl 25 rfl rfl ?_
    obtain rfl := Option.some.inj h
    exact kw_Q (hR _ rfl) (kw_ireturn C (kdec dc_Word_spelt 15 rfl))
  · intro e
    subst ex_6
    try dsimp only at h
    refine kw_gsA C (kdec dc_Word_spelt 18 rfl) 35 rfl wd_791 ?_
    refine kw_alenA C (kdec dc_Word_spelt 19 rfl) 36 rfl ?_
    refine kw_iconst C (kdec dc_Word_spelt 20 rfl) 37 rfl rfl ⟨by decide, by decide⟩ ?_
    refine kw_isub C (kdec dc_Word_spelt 21 rfl) 38 rfl ?_
    obtain rfl := Option.some.inj h
    exact kw_Q (hR _ rfl) (kw_ireturn C (kdec dc_Word_spelt 22 rfl))
theorem mt_pf_Word_spelt_1 (l0 : Launch) {σ : kM} {x1 : Int} {x2 : Int} {r : Int} (h : pf_Word_spelt_1 σ x1 x2 = some r) : kMet l0 ky_Word_spelt prog_11_method_5_code 4 (some .int) R0_pf_Word_spelt_1 kcl yC σ [kr 1, ki x1, ki x2] (some (ki r)) σ := kMet.of' [some (kr 1), some (ki x1), some (ki x2), none] (by decide) (Nat.le_of_ble_eq_true rfl) ⟨rfl, rfl, rfl, trivial⟩ (fun x C => bd_pf_Word_spelt_1 C σ x1 x2 h (fun r e => by subst e; rfl))
def R0_pf_Tokens_addToken_24 : Room := ({ frames := 6, cells := 0, slots := 0, locals := 132 } : Room)
def pf_Tokens_addToken_24_j171 (σ : kM) : Option (kM) :=
  klet (kst σ 24 (kup (σ 24) 5 (w32 ((σ 24 5) + 1)))) fun σ_15 =>
  some σ_15
set_option maxHeartbeats 4000000 in
theorem bd_pf_Tokens_addToken_24_j171 {x : kX} {l0 : Launch} {Q : State → Prop} (C : kCx x prog_10_method_13_code "PoetFines$Tokens" none kcl yC 4 l0 R0_pf_Tokens_addToken_24) (σ : kM) {out : kM} (h : pf_Tokens_addToken_24_j171 σ = some out) (hR : ∀ (τ : kM), out = τ → Q = kQ x none τ 0 0) : KW x 0 0 Q σ 171 [some (kr 24), none, none, none] [] := by
  unfold pf_Tokens_addToken_24_j171 at h
  refine kw_aload_n C (kdec dc_Tokens_addToken 95 rfl) rfl 172 rfl rfl ?_
  refine kw_dup C (kdec dc_Tokens_addToken 96 rfl) 173 rfl rfl ?_
  refine kw_getI C (kdec dc_Tokens_addToken 97 rfl) 176 rfl fd_C_Tokens_24_24 ?_
  refine kw_iconst C (kdec dc_Tokens_addToken 98 rfl) 177 rfl rfl ⟨by decide, by decide⟩ ?_
  refine kw_iadd C (kdec dc_Tokens_addToken 99 rfl) 178 rfl ?_
  obtain ⟨σ_15, eσ_15, h⟩ := klet_h h
  refine kw_putI C (kdec dc_Tokens_addToken 100 rfl) 181 rfl fp_C_Tokens_24_24 ?_
  refine kw_sig eσ_15 ?_
  obtain rfl := Option.some.inj h
  exact kw_Q (hR _ rfl) (kw_return C (kdec dc_Tokens_addToken 101 rfl))
def pf_Tokens_addToken_24_j160 (σ : kM) (x3 : Int) (s0 : Int) (s1 : Int) : Option (kM) :=
  kchk (0 ≤ s1 ∧ s1 < 701) <|
  klet (kst σ 25 (kup (σ 25) s1.toNat s0)) fun σ_12 =>
  kchk (0 ≤ (σ_12 24 5) ∧ (σ_12 24 5) < 701) <|
  klet (kst σ_12 28 (kup (σ_12 28) ((σ_12 24 5).toNat) x3)) fun σ_14 =>
  pf_Tokens_addToken_24_j171 σ_14
set_option maxHeartbeats 4000000 in
theorem bd_pf_Tokens_addToken_24_j160 {x : kX} {l0 : Launch} {Q : State → Prop} (C : kCx x prog_10_method_13_code "PoetFines$Tokens" none kcl yC 4 l0 R0_pf_Tokens_addToken_24) (σ : kM) (x3 : Int) (s0 : Int) (s1 : Int) {out : kM} (h : pf_Tokens_addToken_24_j160 σ x3 s0 s1 = some out) (hR : ∀ (τ : kM), out = τ → Q = kQ x none τ 0 0) : KW x 0 0 Q σ 160 [some (kr 24), none, none, some (ki x3)] [ki s0, ki s1, kr 25] := by
  unfold pf_Tokens_addToken_24_j160 at h
  obtain ⟨hc_11, h⟩ := kchk_h h
  obtain ⟨σ_12, eσ_12, h⟩ := klet_h h
  refine kw_iast C (kdec dc_Tokens_addToken 88 rfl) 161 rfl rfl hc_11.1 hc_11.2 ?_
  refine kw_sig eσ_12 ?_
  refine kw_aload_n C (kdec dc_Tokens_addToken 89 rfl) rfl 162 rfl rfl ?_
  refine kw_getR C (kdec dc_Tokens_addToken 90 rfl) 165 rfl fd_C_Tokens_21_24 ?_
  refine kw_aload_n C (kdec dc_Tokens_addToken 91 rfl) rfl 166 rfl rfl ?_
  refine kw_getI C (kdec dc_Tokens_addToken 92 rfl) 169 rfl fd_C_Tokens_24_24 ?_
  refine kw_iload_n C (kdec dc_Tokens_addToken 93 rfl) rfl 170 rfl rfl ?_
  obtain ⟨hc_13, h⟩ := kchk_h h
  obtain ⟨σ_14, eσ_14, h⟩ := klet_h h
  refine kw_iast C (kdec dc_Tokens_addToken 94 rfl) 171 rfl rfl hc_13.1 hc_13.2 ?_
  refine kw_sig eσ_14 ?_
  exact kw_sub (L' := [some (kr 24), none, none, none]) ⟨rfl, trivial⟩ (bd_pf_Tokens_addToken_24_j171 C σ_14 h hR)
def pf_Tokens_addToken_24_j137 (σ : kM) (s0 : Int) : Option (kM) :=
  (pf_String_indexOf_0f7a4 σ 18 s0).bind fun r_10 =>
  if r_10 < 0 then
    pf_Tokens_addToken_24_j160 σ s0 4 (σ 24 5)
  else
    pf_Tokens_addToken_24_j160 σ s0 3 (σ 24 5)
set_option maxHeartbeats 4000000 in
theorem bd_pf_Tokens_addToken_24_j137 {x : kX} {l0 : Launch} {Q : State → Prop} (C : kCx x prog_10_method_13_code "PoetFines$Tokens" none kcl yC 4 l0 R0_pf_Tokens_addToken_24) (σ : kM) (s0 : Int) {out : kM} (h : pf_Tokens_addToken_24_j137 σ s0 = some out) (hR : ∀ (τ : kM), out = τ → Q = kQ x none τ 0 0) : KW x 0 0 Q σ 137 [some (kr 24), none, none, none] [ki s0] := by
  unfold pf_Tokens_addToken_24_j137 at h
  refine kw_istore_n (L' := [some (kr 24), none, none, some (ki s0)]) C (kdec dc_Tokens_addToken 76 rfl) rfl 138 rfl (by decide) rfl rfl ?_
  refine kw_aload_n C (kdec dc_Tokens_addToken 77 rfl) rfl 139 rfl rfl ?_
  refine kw_getR C (kdec dc_Tokens_addToken 78 rfl) 142 rfl fd_C_Tokens_9_24 ?_
  refine kw_aload_n C (kdec dc_Tokens_addToken 79 rfl) rfl 143 rfl rfl ?_
  refine kw_getI C (kdec dc_Tokens_addToken 80 rfl) 146 rfl fd_C_Tokens_24_24 ?_
  refine kw_ldcT C (kdec dc_Tokens_addToken 81 rfl) 148 rfl rfl ?_
  refine kw_iload_n C (kdec dc_Tokens_addToken 82 rfl) rfl 149 rfl rfl ?_
  obtain ⟨r_10, hg_16, h⟩ := kbind_h h
  refine kw_callT (As := [ki s0]) C (kdec dc_Tokens_addToken 83 rfl) 152 rfl (by decide) (by decide) cv_Tokens_74 (mt_pf_String_indexOf_0f7a4 l0 hg_16) ⟨rfl, rfl⟩ ⟨Nat.le_of_ble_eq_true rfl, Nat.le_of_ble_eq_true rfl⟩ ⟨Nat.zero_le _, Nat.zero_le _⟩ rfl (Nat.le_of_ble_eq_true rfl) ?_
  change KW x 0 0 Q σ 152 [some (kr 24), none, none, some (ki s0)] [ki r_10, ki (σ 24 5), kr 25]
  refine kw_if_lt C (kdec dc_Tokens_addToken 84 rfl) 159 155 (by decide) rfl (fun hc152 => ?_) (fun hc152 => ?_)
  · rw [if_pos hc152] at h
    refine kw_iconst C (kdec dc_Tokens_addToken 87 rfl) 160 rfl rfl ⟨by decide, by decide⟩ ?_
    exact bd_pf_Tokens_addToken_24_j160 C σ s0 4 (σ 24 5) h hR
  · rw [if_neg hc152] at h
    refine kw_iconst C (kdec dc_Tokens_addToken 85 rfl) 156 rfl rfl ⟨by decide, by decide⟩ ?_
    refine kw_goto C (kdec dc_Tokens_addToken 86 rfl) 160 (by decide) ?_
    exact bd_pf_Tokens_addToken_24_j160 C σ s0 3 (σ 24 5) h hR
def pf_Tokens_addToken_24 (σ : kM) (x1 : Int) (x2 : Int) : Option (kM) :=
  if (σ 24 5) < 700 then
    kchk (0 ≤ (σ 24 5) ∧ (σ 24 5) < 701) <|
    klet (kst σ 26 (kup (σ 26) ((σ 24 5).toNat) x1)) fun σ_2 =>
    kchk (0 ≤ (σ_2 24 5) ∧ (σ_2 24 5) < 701) <|
    klet (kst σ_2 27 (kup (σ_2 27) ((σ_2 24 5).toNat) (w32 (x2 - x1)))) fun σ_4 =>
    kchk (0 ≤ x1 ∧ x1 < 700) <|
    (pf_Tokens_isLetter σ_4 (σ_4 1 x1.toNat)).bind fun r_6 =>
    if r_6 = 0 then
      kchk (0 ≤ x1 ∧ x1 < 700) <|
      (pf_Tokens_isDigit σ_4 (σ_4 1 x1.toNat)).bind fun r_8 =>
      if r_8 = 0 then
        kchk (0 ≤ x1 ∧ x1 < 700) <|
        if (σ_4 1 x1.toNat) ≤ 0 then
          pf_Tokens_addToken_24_j137 σ_4 32
        else
          kchk (0 ≤ x1 ∧ x1 < 700) <|
          pf_Tokens_addToken_24_j137 σ_4 (kc16 (σ_4 1 x1.toNat))
      else
        kchk (0 ≤ (σ_4 24 5) ∧ (σ_4 24 5) < 701) <|
        klet (kst σ_4 25 (kup (σ_4 25) ((σ_4 24 5).toNat) 1)) fun σ_20 =>
        (pf_Tokens_valueOf_24 σ_20 x1 x2).bind fun r_21 =>
        kchk (0 ≤ (σ_20 24 5) ∧ (σ_20 24 5) < 701) <|
        klet (kst σ_20 28 (kup (σ_20 28) ((σ_20 24 5).toNat) r_21)) fun σ_23 =>
        pf_Tokens_addToken_24_j171 σ_23
    else
      kchk (0 ≤ (σ_4 24 5) ∧ (σ_4 24 5) < 701) <|
      klet (kst σ_4 25 (kup (σ_4 25) ((σ_4 24 5).toNat) 2)) fun σ_27 =>
      (pf_Word_spelt_1 σ_27 x1 x2).bind fun r_28 =>
      kchk (0 ≤ (σ_27 24 5) ∧ (σ_27 24 5) < 701) <|
      klet (kst σ_27 28 (kup (σ_27 28) ((σ_27 24 5).toNat) r_28)) fun σ_30 =>
      pf_Tokens_addToken_24_j171 σ_30
  else
    some σ
set_option maxHeartbeats 4000000 in
theorem bd_pf_Tokens_addToken_24 {x : kX} {l0 : Launch} {Q : State → Prop} (C : kCx x prog_10_method_13_code "PoetFines$Tokens" none kcl yC 4 l0 R0_pf_Tokens_addToken_24) (σ : kM) (x1 : Int) (x2 : Int) {out : kM} (h : pf_Tokens_addToken_24 σ x1 x2 = some out) (hR : ∀ (τ : kM), out = τ → Q = kQ x none τ 0 0) : KW x 0 0 Q σ 0 [some (kr 24), some (ki x1), some (ki x2), none] [] := by
  unfold pf_Tokens_addToken_24 at h
  refine kw_aload_n C (kdec dc_Tokens_addToken 0 rfl) rfl 1 rfl rfl ?_
  refine kw_getI C (kdec dc_Tokens_addToken 1 rfl) 4 rfl fd_C_Tokens_24_24 ?_
  refine kw_sipush (v := 700) C (kdec dc_Tokens_addToken 2 rfl) 7 rfl (by decide) ⟨by decide, by decide⟩ ?_
  refine kw_icmp_lt C (kdec dc_Tokens_addToken 3 rfl) 11 10 (by decide) rfl (fun hc7 => ?_) (fun hc7 => ?_)
  · rw [if_pos hc7] at h
    refine kw_aload_n C (kdec dc_Tokens_addToken 5 rfl) rfl 12 rfl rfl ?_
    refine kw_getR C (kdec dc_Tokens_addToken 6 rfl) 15 rfl fd_C_Tokens_15_24 ?_
    refine kw_aload_n C (kdec dc_Tokens_addToken 7 rfl) rfl 16 rfl rfl ?_
    refine kw_getI C (kdec dc_Tokens_addToken 8 rfl) 19 rfl fd_C_Tokens_24_24 ?_
    refine kw_iload_n C (kdec dc_Tokens_addToken 9 rfl) rfl 20 rfl rfl ?_
    obtain ⟨hc_1, h⟩ := kchk_h h
    obtain ⟨σ_2, eσ_2, h⟩ := klet_h h
    refine kw_iast C (kdec dc_Tokens_addToken 10 rfl) 21 rfl rfl hc_1.1 hc_1.2 ?_
    refine kw_sig eσ_2 ?_
    refine kw_aload_n C (kdec dc_Tokens_addToken 11 rfl) rfl 22 rfl rfl ?_
    refine kw_getR C (kdec dc_Tokens_addToken 12 rfl) 25 rfl fd_C_Tokens_18_24 ?_
    refine kw_aload_n C (kdec dc_Tokens_addToken 13 rfl) rfl 26 rfl rfl ?_
    refine kw_getI C (kdec dc_Tokens_addToken 14 rfl) 29 rfl fd_C_Tokens_24_24 ?_
    refine kw_iload_n C (kdec dc_Tokens_addToken 15 rfl) rfl 30 rfl rfl ?_
    refine kw_iload_n C (kdec dc_Tokens_addToken 16 rfl) rfl 31 rfl rfl ?_
    refine kw_isub C (kdec dc_Tokens_addToken 17 rfl) 32 rfl ?_
    obtain ⟨hc_3, h⟩ := kchk_h h
    obtain ⟨σ_4, eσ_4, h⟩ := klet_h h
    refine kw_iast C (kdec dc_Tokens_addToken 18 rfl) 33 rfl rfl hc_3.1 hc_3.2 ?_
    refine kw_sig eσ_4 ?_
    refine kw_aload_n C (kdec dc_Tokens_addToken 19 rfl) rfl 34 rfl rfl ?_
    refine kw_getR C (kdec dc_Tokens_addToken 20 rfl) 37 rfl fd_C_Tokens_31_24 ?_
    refine kw_iload_n C (kdec dc_Tokens_addToken 21 rfl) rfl 38 rfl rfl ?_
    obtain ⟨hc_5, h⟩ := kchk_h h
    refine kw_bald C (kdec dc_Tokens_addToken 22 rfl) 39 rfl rfl hc_5.1 hc_5.2 ?_
    obtain ⟨r_6, hg_32, h⟩ := kbind_h h
    refine kw_callS (As := [ki (σ_4 1 x1.toNat)]) C (kdec dc_Tokens_addToken 23 rfl) 42 rfl cs_Tokens_58 (mt_pf_Tokens_isLetter l0 hg_32) ⟨rfl, rfl⟩ ⟨Nat.le_of_ble_eq_true rfl, Nat.le_of_ble_eq_true rfl⟩ ⟨Nat.zero_le _, Nat.zero_le _⟩ rfl (Nat.le_of_ble_eq_true rfl) ?_
    change KW x 0 0 Q σ_4 42 [some (kr 24), some (ki x1), some (ki x2), none] [ki r_6]
    refine kw_if_eq C (kdec dc_Tokens_addToken 24 rfl) 76 45 (by decide) rfl (fun hc42 => ?_) (fun hc42 => ?_)
    · rw [if_pos hc42] at h
      refine kw_aload_n C (kdec dc_Tokens_addToken 42 rfl) rfl 77 rfl rfl ?_
      refine kw_getR C (kdec dc_Tokens_addToken 43 rfl) 80 rfl fd_C_Tokens_31_24 ?_
      refine kw_iload_n C (kdec dc_Tokens_addToken 44 rfl) rfl 81 rfl rfl ?_
      obtain ⟨hc_7, h⟩ := kchk_h h
      refine kw_bald C (kdec dc_Tokens_addToken 45 rfl) 82 rfl rfl hc_7.1 hc_7.2 ?_
      obtain ⟨r_8, hg_25, h⟩ := kbind_h h
      refine kw_callS (As := [ki (σ_4 1 x1.toNat)]) C (kdec dc_Tokens_addToken 46 rfl) 85 rfl cs_Tokens_62 (mt_pf_Tokens_isDigit l0 hg_25) ⟨rfl, rfl⟩ ⟨Nat.le_of_ble_eq_true rfl, Nat.le_of_ble_eq_true rfl⟩ ⟨Nat.zero_le _, Nat.zero_le _⟩ rfl (Nat.le_of_ble_eq_true rfl) ?_
      change KW x 0 0 Q σ_4 85 [some (kr 24), some (ki x1), some (ki x2), none] [ki r_8]
      refine kw_if_eq C (kdec dc_Tokens_addToken 47 rfl) 116 88 (by decide) rfl (fun hc85 => ?_) (fun hc85 => ?_)
      · rw [if_pos hc85] at h
        refine kw_aload_n C (kdec dc_Tokens_addToken 64 rfl) rfl 117 rfl rfl ?_
        refine kw_getR C (kdec dc_Tokens_addToken 65 rfl) 120 rfl fd_C_Tokens_31_24 ?_
        refine kw_iload_n C (kdec dc_Tokens_addToken 66 rfl) rfl 121 rfl rfl ?_
        obtain ⟨hc_9, h⟩ := kchk_h h
        refine kw_bald C (kdec dc_Tokens_addToken 67 rfl) 122 rfl rfl hc_9.1 hc_9.2 ?_
        refine kw_if_le C (kdec dc_Tokens_addToken 68 rfl) 135 125 (by decide) rfl (fun hc122 => ?_) (fun hc122 => ?_)
        · rw [if_pos hc122] at h
          refine kw_bipush (v := 32) C (kdec dc_Tokens_addToken 75 rfl) 137 rfl (by decide) ⟨by decide, by decide⟩ ?_
          exact kw_sub (L' := [some (kr 24), none, none, none]) ⟨rfl, trivial⟩ (bd_pf_Tokens_addToken_24_j137 C σ_4 32 h hR)
        · rw [if_neg hc122] at h
          refine kw_aload_n C (kdec dc_Tokens_addToken 69 rfl) rfl 126 rfl rfl ?_
          refine kw_getR C (kdec dc_Tokens_addToken 70 rfl) 129 rfl fd_C_Tokens_31_24 ?_
          refine kw_iload_n C (kdec dc_Tokens_addToken 71 rfl) rfl 130 rfl rfl ?_
          obtain ⟨hc_18, h⟩ := kchk_h h
          refine kw_bald C (kdec dc_Tokens_addToken 72 rfl) 131 rfl rfl hc_18.1 hc_18.2 ?_
          refine kw_i2c C (kdec dc_Tokens_addToken 73 rfl) 132 rfl ?_
          refine kw_goto C (kdec dc_Tokens_addToken 74 rfl) 137 (by decide) ?_
          exact kw_sub (L' := [some (kr 24), none, none, none]) ⟨rfl, trivial⟩ (bd_pf_Tokens_addToken_24_j137 C σ_4 (kc16 (σ_4 1 x1.toNat)) h hR)
      · rw [if_neg hc85] at h
        refine kw_aload_n C (kdec dc_Tokens_addToken 48 rfl) rfl 89 rfl rfl ?_
        refine kw_getR C (kdec dc_Tokens_addToken 49 rfl) 92 rfl fd_C_Tokens_9_24 ?_
        refine kw_aload_n C (kdec dc_Tokens_addToken 50 rfl) rfl 93 rfl rfl ?_
        refine kw_getI C (kdec dc_Tokens_addToken 51 rfl) 96 rfl fd_C_Tokens_24_24 ?_
        refine kw_iconst C (kdec dc_Tokens_addToken 52 rfl) 97 rfl rfl ⟨by decide, by decide⟩ ?_
        obtain ⟨hc_19, h⟩ := kchk_h h
        obtain ⟨σ_20, eσ_20, h⟩ := klet_h h
        refine kw_iast C (kdec dc_Tokens_addToken 53 rfl) 98 rfl rfl hc_19.1 hc_19.2 ?_
        refine kw_sig eσ_20 ?_
        refine kw_aload_n C (kdec dc_Tokens_addToken 54 rfl) rfl 99 rfl rfl ?_
        refine kw_getR C (kdec dc_Tokens_addToken 55 rfl) 102 rfl fd_C_Tokens_21_24 ?_
        refine kw_aload_n C (kdec dc_Tokens_addToken 56 rfl) rfl 103 rfl rfl ?_
        refine kw_getI C (kdec dc_Tokens_addToken 57 rfl) 106 rfl fd_C_Tokens_24_24 ?_
        refine kw_aload_n C (kdec dc_Tokens_addToken 58 rfl) rfl 107 rfl rfl ?_
        refine kw_iload_n C (kdec dc_Tokens_addToken 59 rfl) rfl 108 rfl rfl ?_
        refine kw_iload_n C (kdec dc_Tokens_addToken 60 rfl) rfl 109 rfl rfl ?_
        obtain ⟨r_21, hg_24, h⟩ := kbind_h h
        refine kw_callV (As := [ki x1, ki x2]) C (kdec dc_Tokens_addToken 61 rfl) 112 rfl cv_Tokens_69 rfl rfl (mt_pf_Tokens_valueOf_24 l0 hg_24) ⟨rfl, rfl⟩ ⟨Nat.le_of_ble_eq_true rfl, Nat.le_of_ble_eq_true rfl⟩ ⟨Nat.zero_le _, Nat.zero_le _⟩ rfl (Nat.le_of_ble_eq_true rfl) ?_
        change KW x 0 0 Q σ_20 112 [some (kr 24), some (ki x1), some (ki x2), none] [ki r_21, ki (σ_20 24 5), kr 28]
        obtain ⟨hc_22, h⟩ := kchk_h h
        obtain ⟨σ_23, eσ_23, h⟩ := klet_h h
        refine kw_iast C (kdec dc_Tokens_addToken 62 rfl) 113 rfl rfl hc_22.1 hc_22.2 ?_
        refine kw_sig eσ_23 ?_
        refine kw_goto C (kdec dc_Tokens_addToken 63 rfl) 171 (by decide) ?_
        exact kw_sub (L' := [some (kr 24), none, none, none]) ⟨rfl, trivial⟩ (bd_pf_Tokens_addToken_24_j171 C σ_23 h hR)
    · rw [if_neg hc42] at h
      refine kw_aload_n C (kdec dc_Tokens_addToken 25 rfl) rfl 46 rfl rfl ?_
      refine kw_getR C (kdec dc_Tokens_addToken 26 rfl) 49 rfl fd_C_Tokens_9_24 ?_
      refine kw_aload_n C (kdec dc_Tokens_addToken 27 rfl) rfl 50 rfl rfl ?_
      refine kw_getI C (kdec dc_Tokens_addToken 28 rfl) 53 rfl fd_C_Tokens_24_24 ?_
      refine kw_iconst C (kdec dc_Tokens_addToken 29 rfl) 54 rfl rfl ⟨by decide, by decide⟩ ?_
      obtain ⟨hc_26, h⟩ := kchk_h h
      obtain ⟨σ_27, eσ_27, h⟩ := klet_h h
      refine kw_iast C (kdec dc_Tokens_addToken 30 rfl) 55 rfl rfl hc_26.1 hc_26.2 ?_
      refine kw_sig eσ_27 ?_
      refine kw_aload_n C (kdec dc_Tokens_addToken 31 rfl) rfl 56 rfl rfl ?_
      refine kw_getR C (kdec dc_Tokens_addToken 32 rfl) 59 rfl fd_C_Tokens_21_24 ?_
      refine kw_aload_n C (kdec dc_Tokens_addToken 33 rfl) rfl 60 rfl rfl ?_
      refine kw_getI C (kdec dc_Tokens_addToken 34 rfl) 63 rfl fd_C_Tokens_24_24 ?_
      refine kw_aload_n C (kdec dc_Tokens_addToken 35 rfl) rfl 64 rfl rfl ?_
      refine kw_getR C (kdec dc_Tokens_addToken 36 rfl) 67 rfl fd_C_Tokens_31_24 ?_
      refine kw_iload_n C (kdec dc_Tokens_addToken 37 rfl) rfl 68 rfl rfl ?_
      refine kw_iload_n C (kdec dc_Tokens_addToken 38 rfl) rfl 69 rfl rfl ?_
      obtain ⟨r_28, hg_31, h⟩ := kbind_h h
      refine kw_callS (As := [kr 1, ki x1, ki x2]) C (kdec dc_Tokens_addToken 39 rfl) 72 rfl cs_Tokens_65 (mt_pf_Word_spelt_1 l0 hg_31) ⟨rfl, rfl⟩ ⟨Nat.le_of_ble_eq_true rfl, Nat.le_of_ble_eq_true rfl⟩ ⟨Nat.zero_le _, Nat.zero_le _⟩ rfl (Nat.le_of_ble_eq_true rfl) ?_
      change KW x 0 0 Q σ_27 72 [some (kr 24), some (ki x1), some (ki x2), none] [ki r_28, ki (σ_27 24 5), kr 28]
      obtain ⟨hc_29, h⟩ := kchk_h h
      obtain ⟨σ_30, eσ_30, h⟩ := klet_h h
      refine kw_iast C (kdec dc_Tokens_addToken 40 rfl) 73 rfl rfl hc_29.1 hc_29.2 ?_
      refine kw_sig eσ_30 ?_
      refine kw_goto C (kdec dc_Tokens_addToken 41 rfl) 171 (by decide) ?_
      exact kw_sub (L' := [some (kr 24), none, none, none]) ⟨rfl, trivial⟩ (bd_pf_Tokens_addToken_24_j171 C σ_30 h hR)
  · rw [if_neg hc7] at h
    obtain rfl := Option.some.inj h
    exact kw_Q (hR _ rfl) (kw_return C (kdec dc_Tokens_addToken 4 rfl))
theorem mt_pf_Tokens_addToken_24 (l0 : Launch) {σ : kM} {x1 : Int} {x2 : Int} {τ : kM} (h : pf_Tokens_addToken_24 σ x1 x2 = some τ) : kMet l0 ky_Tokens_addToken prog_10_method_13_code 4 none R0_pf_Tokens_addToken_24 kcl yC σ [kr 24, ki x1, ki x2] none τ := kMet.of' [some (kr 24), some (ki x1), some (ki x2), none] (by decide) (Nat.le_of_ble_eq_true rfl) ⟨rfl, rfl, rfl, trivial⟩ (fun x C => bd_pf_Tokens_addToken_24 C σ x1 x2 h (fun τ e => by subst e; rfl))
def R0_pf_Tokens_scan_24 : Room := ({ frames := 7, cells := 0, slots := 0, locals := 155 } : Room)
def pf_Tokens_scan_24_l23_j74 (σ : kM) (x2 : Int) (x3 : Int) (x4 : Int) : Option ((kM × Int × Int) ⊕ ((kM))) :=
  klet (w32 (x4 + 1)) fun x4_4 =>
  some (Sum.inl (σ, x3, x4_4))
set_option maxHeartbeats 4000000 in
theorem bd_pf_Tokens_scan_24_l23_j74 {x : kX} {l0 : Launch} {Q : State → Prop} (C : kCx x prog_10_method_2_code "PoetFines$Tokens" none kcl yC 5 l0 R0_pf_Tokens_scan_24) (σ : kM) (x2 : Int) (x3 : Int) (x4 : Int) {out : (kM × Int × Int) ⊕ ((kM))} (h : pf_Tokens_scan_24_l23_j74 σ x2 x3 x4 = some out) (hC : ∀ (σ' : kM) (x3' : Int) (x4' : Int), out = Sum.inl (σ', x3', x4') → KW x 0 0 Q σ' 23 [some (kr 24), none, some (ki x2), some (ki x3'), some (ki x4')] []) (hX80 : ∀ (σ' : kM), out = Sum.inr σ' → KW x 0 0 Q σ' 80 [some (kr 24), none, some (ki x2), none, none] []) : KW x 0 0 Q σ 74 [some (kr 24), none, some (ki x2), some (ki x3), some (ki x4)] [] := by
  unfold pf_Tokens_scan_24_l23_j74 at h
  obtain ⟨x4_4, ex4_4, h⟩ := klet_h h
  refine kw_iinc (L' := [some (kr 24), none, some (ki x2), some (ki x3), some (ki x4_4)]) C (kdec dc_Tokens_scan 41 rfl) 77 rfl rfl (by decide) rfl (by rw [ex4_4]; rfl) ?_
  refine kw_goto C (kdec dc_Tokens_scan 42 rfl) 23 (by decide) ?_
  obtain rfl := Option.some.inj h
  exact (hC _ _ _ rfl)
def pf_Tokens_scan_24_l23 (σ : kM) (x2 : Int) (x3 : Int) (x4 : Int) : Option ((kM × Int × Int) ⊕ ((kM))) :=
  if x2 ≤ x4 then
    some (Sum.inr σ)
  else
    if x4 < x3 then
      pf_Tokens_scan_24_l23_j74 σ x2 x3 x4
    else
      kchk (0 ≤ x4 ∧ x4 < 700) <|
      if (σ 1 x4.toNat) = 32 then
        pf_Tokens_scan_24_l23_j74 σ x2 x3 x4
      else
        kchk (0 ≤ x4 ∧ x4 < 700) <|
        if (σ 1 x4.toNat) = 10 then
          pf_Tokens_scan_24_l23_j74 σ x2 x3 x4
        else
          (pf_Tokens_endOf_24 σ x4 x2).bind fun r_7 =>
          (pf_Tokens_addToken_24 σ x4 r_7).bind fun σ_8 =>
          pf_Tokens_scan_24_l23_j74 σ_8 x2 r_7 x4
set_option maxHeartbeats 4000000 in
theorem bd_pf_Tokens_scan_24_l23 {x : kX} {l0 : Launch} {Q : State → Prop} (C : kCx x prog_10_method_2_code "PoetFines$Tokens" none kcl yC 5 l0 R0_pf_Tokens_scan_24) (σ : kM) (x2 : Int) (x3 : Int) (x4 : Int) {out : (kM × Int × Int) ⊕ ((kM))} (h : pf_Tokens_scan_24_l23 σ x2 x3 x4 = some out) (hC : ∀ (σ' : kM) (x3' : Int) (x4' : Int), out = Sum.inl (σ', x3', x4') → KW x 0 0 Q σ' 23 [some (kr 24), none, some (ki x2), some (ki x3'), some (ki x4')] []) (hX80 : ∀ (σ' : kM), out = Sum.inr σ' → KW x 0 0 Q σ' 80 [some (kr 24), none, some (ki x2), none, none] []) : KW x 0 0 Q σ 23 [some (kr 24), none, some (ki x2), some (ki x3), some (ki x4)] [] := by
  unfold pf_Tokens_scan_24_l23 at h
  refine kw_iload C (kdec dc_Tokens_scan 14 rfl) 25 rfl rfl ?_
  refine kw_iload_n C (kdec dc_Tokens_scan 15 rfl) rfl 26 rfl rfl ?_
  refine kw_icmp_ge C (kdec dc_Tokens_scan 16 rfl) 80 29 (by decide) rfl (fun hc26 => ?_) (fun hc26 => ?_)
  · rw [if_pos hc26] at h
    obtain rfl := Option.some.inj h
    exact kw_sub (L' := [some (kr 24), none, some (ki x2), none, none]) ⟨rfl, rfl, trivial⟩ (hX80 _ rfl)
  · rw [if_neg hc26] at h
    refine kw_iload C (kdec dc_Tokens_scan 17 rfl) 31 rfl rfl ?_
    refine kw_iload_n C (kdec dc_Tokens_scan 18 rfl) rfl 32 rfl rfl ?_
    refine kw_icmp_lt C (kdec dc_Tokens_scan 19 rfl) 74 35 (by decide) rfl (fun hc32 => ?_) (fun hc32 => ?_)
    · rw [if_pos hc32] at h
      exact bd_pf_Tokens_scan_24_l23_j74 C σ x2 x3 x4 h hC hX80
    · rw [if_neg hc32] at h
      refine kw_aload_n C (kdec dc_Tokens_scan 20 rfl) rfl 36 rfl rfl ?_
      refine kw_getR C (kdec dc_Tokens_scan 21 rfl) 39 rfl fd_C_Tokens_31_24 ?_
      refine kw_iload C (kdec dc_Tokens_scan 22 rfl) 41 rfl rfl ?_
      obtain ⟨hc_5, h⟩ := kchk_h h
      refine kw_bald C (kdec dc_Tokens_scan 23 rfl) 42 rfl rfl hc_5.1 hc_5.2 ?_
      refine kw_bipush (v := 32) C (kdec dc_Tokens_scan 24 rfl) 44 rfl (by decide) ⟨by decide, by decide⟩ ?_
      refine kw_icmp_eq C (kdec dc_Tokens_scan 25 rfl) 74 47 (by decide) rfl (fun hc44 => ?_) (fun hc44 => ?_)
      · rw [if_pos hc44] at h
        exact bd_pf_Tokens_scan_24_l23_j74 C σ x2 x3 x4 h hC hX80
      · rw [if_neg hc44] at h
        refine kw_aload_n C (kdec dc_Tokens_scan 26 rfl) rfl 48 rfl rfl ?_
        refine kw_getR C (kdec dc_Tokens_scan 27 rfl) 51 rfl fd_C_Tokens_31_24 ?_
        refine kw_iload C (kdec dc_Tokens_scan 28 rfl) 53 rfl rfl ?_
        obtain ⟨hc_6, h⟩ := kchk_h h
        refine kw_bald C (kdec dc_Tokens_scan 29 rfl) 54 rfl rfl hc_6.1 hc_6.2 ?_
        refine kw_bipush (v := 10) C (kdec dc_Tokens_scan 30 rfl) 56 rfl (by decide) ⟨by decide, by decide⟩ ?_
        refine kw_icmp_eq C (kdec dc_Tokens_scan 31 rfl) 74 59 (by decide) rfl (fun hc56 => ?_) (fun hc56 => ?_)
        · rw [if_pos hc56] at h
          exact bd_pf_Tokens_scan_24_l23_j74 C σ x2 x3 x4 h hC hX80
        · rw [if_neg hc56] at h
          refine kw_aload_n C (kdec dc_Tokens_scan 32 rfl) rfl 60 rfl rfl ?_
          refine kw_iload C (kdec dc_Tokens_scan 33 rfl) 62 rfl rfl ?_
          refine kw_iload_n C (kdec dc_Tokens_scan 34 rfl) rfl 63 rfl rfl ?_
          obtain ⟨r_7, hg_10, h⟩ := kbind_h h
          refine kw_callV (As := [ki x4, ki x2]) C (kdec dc_Tokens_scan 35 rfl) 66 rfl cv_Tokens_41 rfl rfl (mt_pf_Tokens_endOf_24 l0 hg_10) ⟨rfl, rfl⟩ ⟨Nat.le_of_ble_eq_true rfl, Nat.le_of_ble_eq_true rfl⟩ ⟨Nat.zero_le _, Nat.zero_le _⟩ rfl (Nat.le_of_ble_eq_true rfl) ?_
          change KW x 0 0 Q σ 66 [some (kr 24), none, some (ki x2), some (ki x3), some (ki x4)] [ki r_7]
          refine kw_istore_n (L' := [some (kr 24), none, some (ki x2), some (ki r_7), some (ki x4)]) C (kdec dc_Tokens_scan 36 rfl) rfl 67 rfl (by decide) rfl rfl ?_
          refine kw_aload_n C (kdec dc_Tokens_scan 37 rfl) rfl 68 rfl rfl ?_
          refine kw_iload C (kdec dc_Tokens_scan 38 rfl) 70 rfl rfl ?_
          refine kw_iload_n C (kdec dc_Tokens_scan 39 rfl) rfl 71 rfl rfl ?_
          obtain ⟨σ_8, hg_9, h⟩ := kbind_h h
          refine kw_callV (As := [ki x4, ki r_7]) C (kdec dc_Tokens_scan 40 rfl) 74 rfl cv_Tokens_44 rfl rfl (mt_pf_Tokens_addToken_24 l0 hg_9) ⟨rfl, rfl⟩ ⟨Nat.le_of_ble_eq_true rfl, Nat.le_of_ble_eq_true rfl⟩ ⟨Nat.zero_le _, Nat.zero_le _⟩ rfl (Nat.le_of_ble_eq_true rfl) ?_
          change KW x 0 0 Q σ_8 74 [some (kr 24), none, some (ki x2), some (ki r_7), some (ki x4)] []
          exact bd_pf_Tokens_scan_24_l23_j74 C σ_8 x2 r_7 x4 h hC hX80
theorem lp_pf_Tokens_scan_24_l23 {x : kX} {l0 : Launch} {Q : State → Prop} (C : kCx x prog_10_method_2_code "PoetFines$Tokens" none kcl yC 5 l0 R0_pf_Tokens_scan_24) (x2 : Int) {ex : (kM)} (hX80 : ∀ (σ' : kM), ex = σ' → KW x 0 0 Q σ' 80 [some (kr 24), none, some (ki x2), none, none] []) (n : Nat) (σ : kM) (x3 : Int) (x4 : Int) (h : kloop (fun st => pf_Tokens_scan_24_l23 st.1 x2 st.2.1 st.2.2) n (σ, x3, x4) = some ex) : KW x 0 0 Q σ 23 [some (kr 24), none, some (ki x2), some (ki x3), some (ki x4)] [] :=
  kloop_ind (P := (fun st : kM × Int × Int => KW x 0 0 Q st.1 23 [some (kr 24), none, some (ki x2), some (ki (st.2.1)), some (ki (st.2.2))] [])) (fun st out hb hc hx => bd_pf_Tokens_scan_24_l23 C st.1 x2 st.2.1 st.2.2 hb (fun a0 a1 a2 e => hc _ e) (fun a0 e => hX80 _ ((hx _ e).symm))) n (σ, x3, x4) h
def pf_Tokens_scan_24 (σ : kM) (x1 : Int) : Option (kM) :=
  klet (min x1 700) fun x2_1 =>
  klet (kst σ 24 (kup (σ 24) 5 0)) fun σ_2 =>
  klet (kst σ_2 24 (kup (σ_2 24) 6 0)) fun σ_3 =>
  (kloop (fun st => pf_Tokens_scan_24_l23 st.1 x2_1 st.2.1 st.2.2) kFuel (σ_3, 0, 0)).bind fun σ_13 =>
  kchk (0 ≤ (σ_13 24 5) ∧ (σ_13 24 5) < 701) <|
  klet (kst σ_13 25 (kup (σ_13 25) ((σ_13 24 5).toNat) 0)) fun σ_15 =>
  kchk (0 ≤ (σ_15 24 5) ∧ (σ_15 24 5) < 701) <|
  klet (kst σ_15 26 (kup (σ_15 26) ((σ_15 24 5).toNat) x2_1)) fun σ_17 =>
  some σ_17
set_option maxHeartbeats 4000000 in
theorem bd_pf_Tokens_scan_24 {x : kX} {l0 : Launch} {Q : State → Prop} (C : kCx x prog_10_method_2_code "PoetFines$Tokens" none kcl yC 5 l0 R0_pf_Tokens_scan_24) (σ : kM) (x1 : Int) {out : kM} (h : pf_Tokens_scan_24 σ x1 = some out) (hR : ∀ (τ : kM), out = τ → Q = kQ x none τ 0 0) : KW x 0 0 Q σ 0 [some (kr 24), some (ki x1), none, none, none] [] := by
  unfold pf_Tokens_scan_24 at h
  refine kw_iload_n C (kdec dc_Tokens_scan 0 rfl) rfl 1 rfl rfl ?_
  refine kw_sipush (v := 700) C (kdec dc_Tokens_scan 1 rfl) 4 rfl (by decide) ⟨by decide, by decide⟩ ?_
  refine kw_min C (kdec dc_Tokens_scan 2 rfl) 7 rfl cm_Tokens_35 ⟨Nat.le_of_ble_eq_true rfl, Nat.le_of_ble_eq_true rfl⟩ ⟨Nat.zero_le _, Nat.zero_le _⟩ (Nat.le_of_ble_eq_true rfl) ?_
  obtain ⟨x2_1, ex2_1, h⟩ := klet_h h
  refine kw_top ex2_1 ?_
  refine kw_istore_n (L' := [some (kr 24), some (ki x1), some (ki x2_1), none, none]) C (kdec dc_Tokens_scan 3 rfl) rfl 8 rfl (by decide) rfl rfl ?_
  refine kw_iconst C (kdec dc_Tokens_scan 4 rfl) 9 rfl rfl ⟨by decide, by decide⟩ ?_
  refine kw_istore_n (L' := [some (kr 24), some (ki x1), some (ki x2_1), some (ki 0), none]) C (kdec dc_Tokens_scan 5 rfl) rfl 10 rfl (by decide) rfl rfl ?_
  refine kw_aload_n C (kdec dc_Tokens_scan 6 rfl) rfl 11 rfl rfl ?_
  refine kw_iconst C (kdec dc_Tokens_scan 7 rfl) 12 rfl rfl ⟨by decide, by decide⟩ ?_
  obtain ⟨σ_2, eσ_2, h⟩ := klet_h h
  refine kw_putI C (kdec dc_Tokens_scan 8 rfl) 15 rfl fp_C_Tokens_24_24 ?_
  refine kw_sig eσ_2 ?_
  refine kw_aload_n C (kdec dc_Tokens_scan 9 rfl) rfl 16 rfl rfl ?_
  refine kw_iconst C (kdec dc_Tokens_scan 10 rfl) 17 rfl rfl ⟨by decide, by decide⟩ ?_
  obtain ⟨σ_3, eσ_3, h⟩ := klet_h h
  refine kw_putI C (kdec dc_Tokens_scan 11 rfl) 20 rfl fp_C_Tokens_28_24 ?_
  refine kw_sig eσ_3 ?_
  refine kw_iconst C (kdec dc_Tokens_scan 12 rfl) 21 rfl rfl ⟨by decide, by decide⟩ ?_
  refine kw_istore (L' := [some (kr 24), some (ki x1), some (ki x2_1), some (ki 0), some (ki 0)]) C (kdec dc_Tokens_scan 13 rfl) 23 rfl (by decide) rfl rfl ?_
  obtain ⟨ex_11, hl_12, h⟩ := kbind_h h
  refine kw_sub (L' := [some (kr 24), none, some (ki x2_1), some (ki 0), some (ki 0)]) ⟨rfl, rfl, rfl, rfl, trivial⟩ (lp_pf_Tokens_scan_24_l23 C x2_1 ?_ kFuel σ_3 0 0 hl_12)
  · intro σ_13 e
    subst ex_11
    try dsimp only at h
    refine kw_aload_n C (kdec dc_Tokens_scan 43 rfl) rfl 81 rfl rfl ?_
    refine kw_getR C (kdec dc_Tokens_scan 44 rfl) 84 rfl fd_C_Tokens_9_24 ?_
    refine kw_aload_n C (kdec dc_Tokens_scan 45 rfl) rfl 85 rfl rfl ?_
    refine kw_getI C (kdec dc_Tokens_scan 46 rfl) 88 rfl fd_C_Tokens_24_24 ?_
    refine kw_iconst C (kdec dc_Tokens_scan 47 rfl) 89 rfl rfl ⟨by decide, by decide⟩ ?_
    obtain ⟨hc_14, h⟩ := kchk_h h
    obtain ⟨σ_15, eσ_15, h⟩ := klet_h h
    refine kw_iast C (kdec dc_Tokens_scan 48 rfl) 90 rfl rfl hc_14.1 hc_14.2 ?_
    refine kw_sig eσ_15 ?_
    refine kw_aload_n C (kdec dc_Tokens_scan 49 rfl) rfl 91 rfl rfl ?_
    refine kw_getR C (kdec dc_Tokens_scan 50 rfl) 94 rfl fd_C_Tokens_15_24 ?_
    refine kw_aload_n C (kdec dc_Tokens_scan 51 rfl) rfl 95 rfl rfl ?_
    refine kw_getI C (kdec dc_Tokens_scan 52 rfl) 98 rfl fd_C_Tokens_24_24 ?_
    refine kw_iload_n C (kdec dc_Tokens_scan 53 rfl) rfl 99 rfl rfl ?_
    obtain ⟨hc_16, h⟩ := kchk_h h
    obtain ⟨σ_17, eσ_17, h⟩ := klet_h h
    refine kw_iast C (kdec dc_Tokens_scan 54 rfl) 100 rfl rfl hc_16.1 hc_16.2 ?_
    refine kw_sig eσ_17 ?_
    obtain rfl := Option.some.inj h
    exact kw_Q (hR _ rfl) (kw_return C (kdec dc_Tokens_scan 55 rfl))
theorem mt_pf_Tokens_scan_24 (l0 : Launch) {σ : kM} {x1 : Int} {τ : kM} (h : pf_Tokens_scan_24 σ x1 = some τ) : kMet l0 ky_Tokens_scan prog_10_method_2_code 5 none R0_pf_Tokens_scan_24 kcl yC σ [kr 24, ki x1] none τ := kMet.of' [some (kr 24), some (ki x1), none, none, none] (by decide) (Nat.le_of_ble_eq_true rfl) ⟨rfl, rfl, trivial⟩ (fun x C => bd_pf_Tokens_scan_24 C σ x1 h (fun τ e => by subst e; rfl))
def R0_pf_Tokens_isWord_24 : Room := ({ frames := 0, cells := 0, slots := 0, locals := 0 } : Room)
def pf_Tokens_isWord_24 (σ : kM) (x1 : Int) : Option (Int) :=
  kchk (0 ≤ (σ 24 6) ∧ (σ 24 6) < 701) <|
  if (σ 25 (σ 24 6).toNat) = 2 then
    kchk (0 ≤ (σ 24 6) ∧ (σ 24 6) < 701) <|
    kchk (0 ≤ (σ 28 (σ 24 6).toNat) ∧ (σ 28 (σ 24 6).toNat) < 18) <|
    kchk (0 ≤ (σ 28 (σ 24 6).toNat) ∧ (σ 28 (σ 24 6).toNat) < 18) <|
    kchk (0 ≤ x1 ∧ x1 < 18) <|
    if (σ 28 (σ 24 6).toNat) = x1 then
      some 1
    else
      some 0
  else
    some 0
set_option maxHeartbeats 4000000 in
theorem bd_pf_Tokens_isWord_24 {x : kX} {l0 : Launch} {Q : State → Prop} (C : kCx x prog_10_method_9_code "PoetFines$Tokens" (some .boolean) kcl yC 2 l0 R0_pf_Tokens_isWord_24) (σ : kM) (x1 : Int) {out : Int} (h : pf_Tokens_isWord_24 σ x1 = some out) (hR : ∀ (r : Int), out = r → Q = kQ x (some (ki r)) σ 0 0) : KW x 0 0 Q σ 0 [some (kr 24), some (ke (4 * x1))] [] := by
  unfold pf_Tokens_isWord_24 at h
  refine kw_aload_n C (kdec dc_Tokens_isWord 0 rfl) rfl 1 rfl rfl ?_
  refine kw_getR C (kdec dc_Tokens_isWord 1 rfl) 4 rfl fd_C_Tokens_9_24 ?_
  refine kw_aload_n C (kdec dc_Tokens_isWord 2 rfl) rfl 5 rfl rfl ?_
  refine kw_getI C (kdec dc_Tokens_isWord 3 rfl) 8 rfl fd_C_Tokens_28_24 ?_
  obtain ⟨hc_1, h⟩ := kchk_h h
  refine kw_iald C (kdec dc_Tokens_isWord 4 rfl) 9 rfl rfl hc_1.1 hc_1.2 ?_
  refine kw_iconst C (kdec dc_Tokens_isWord 5 rfl) 10 rfl rfl ⟨by decide, by decide⟩ ?_
  refine kw_icmp_ne C (kdec dc_Tokens_isWord 6 rfl) 34 13 (by decide) rfl (fun hc10 => ?_) (fun hc10 => ?_)
  · rw [if_neg hc10] at h
    refine kw_iconst C (kdec dc_Tokens_isWord 18 rfl) 35 rfl rfl ⟨by decide, by decide⟩ ?_
    obtain rfl := Option.some.inj h
    exact kw_Q (hR _ rfl) (kw_zreturn C (kdec dc_Tokens_isWord 19 rfl) (by decide))
  · rw [if_pos hc10] at h
    refine kw_gsAN C (kdec dc_Tokens_isWord 7 rfl) 16 rfl ?_
    refine kw_aload_n C (kdec dc_Tokens_isWord 8 rfl) rfl 17 rfl rfl ?_
    refine kw_getR C (kdec dc_Tokens_isWord 9 rfl) 20 rfl fd_C_Tokens_21_24 ?_
    refine kw_aload_n C (kdec dc_Tokens_isWord 10 rfl) rfl 21 rfl rfl ?_
    refine kw_getI C (kdec dc_Tokens_isWord 11 rfl) 24 rfl fd_C_Tokens_28_24 ?_
    obtain ⟨hc_2, h⟩ := kchk_h h
    refine kw_iald C (kdec dc_Tokens_isWord 12 rfl) 25 rfl rfl hc_2.1 hc_2.2 ?_
    obtain ⟨hc_3, h⟩ := kchk_h h
    refine kw_aald C (kdec dc_Tokens_isWord 13 rfl) 26 rfl hc_3.1 hc_3.2 ?_
    refine kw_eload_n C (kdec dc_Tokens_isWord 14 rfl) rfl 27 rfl rfl ?_
    obtain ⟨hc_4, h⟩ := kchk_h h
    obtain ⟨hc_5, h⟩ := kchk_h h
    refine kw_acmp_ne C (kdec dc_Tokens_isWord 15 rfl) 34 30 (by decide) rfl hc_4 hc_5 (fun hc27 => ?_) (fun hc27 => ?_)
    · rw [if_neg hc27] at h
      refine kw_iconst C (kdec dc_Tokens_isWord 18 rfl) 35 rfl rfl ⟨by decide, by decide⟩ ?_
      obtain rfl := Option.some.inj h
      exact kw_Q (hR _ rfl) (kw_zreturn C (kdec dc_Tokens_isWord 19 rfl) (by decide))
    · rw [if_pos hc27] at h
      refine kw_iconst C (kdec dc_Tokens_isWord 16 rfl) 31 rfl rfl ⟨by decide, by decide⟩ ?_
      refine kw_goto C (kdec dc_Tokens_isWord 17 rfl) 35 (by decide) ?_
      obtain rfl := Option.some.inj h
      exact kw_Q (hR _ rfl) (kw_zreturn C (kdec dc_Tokens_isWord 19 rfl) (by decide))
theorem mt_pf_Tokens_isWord_24 (l0 : Launch) {σ : kM} {x1 : Int} {r : Int} (h : pf_Tokens_isWord_24 σ x1 = some r) : kMet l0 ky_Tokens_isWord prog_10_method_9_code 2 (some .boolean) R0_pf_Tokens_isWord_24 kcl yC σ [kr 24, ke (4 * x1)] (some (ki r)) σ := kMet.of' [some (kr 24), some (ke (4 * x1))] (by decide) (Nat.le_of_ble_eq_true rfl) ⟨rfl, rfl, trivial⟩ (fun x C => bd_pf_Tokens_isWord_24 C σ x1 h (fun r e => by subst e; rfl))
def R0_pf_Tokens_kind_24 : Room := ({ frames := 0, cells := 0, slots := 0, locals := 0 } : Room)
def pf_Tokens_kind_24 (σ : kM) : Option (Int) :=
  kchk (0 ≤ (σ 24 6) ∧ (σ 24 6) < 701) <|
  some (σ 25 (σ 24 6).toNat)
set_option maxHeartbeats 4000000 in
theorem bd_pf_Tokens_kind_24 {x : kX} {l0 : Launch} {Q : State → Prop} (C : kCx x prog_10_method_3_code "PoetFines$Tokens" (some .int) kcl yC 1 l0 R0_pf_Tokens_kind_24) (σ : kM) {out : Int} (h : pf_Tokens_kind_24 σ = some out) (hR : ∀ (r : Int), out = r → Q = kQ x (some (ki r)) σ 0 0) : KW x 0 0 Q σ 0 [some (kr 24)] [] := by
  unfold pf_Tokens_kind_24 at h
  refine kw_aload_n C (kdec dc_Tokens_kind 0 rfl) rfl 1 rfl rfl ?_
  refine kw_getR C (kdec dc_Tokens_kind 1 rfl) 4 rfl fd_C_Tokens_9_24 ?_
  refine kw_aload_n C (kdec dc_Tokens_kind 2 rfl) rfl 5 rfl rfl ?_
  refine kw_getI C (kdec dc_Tokens_kind 3 rfl) 8 rfl fd_C_Tokens_28_24 ?_
  obtain ⟨hc_1, h⟩ := kchk_h h
  refine kw_iald C (kdec dc_Tokens_kind 4 rfl) 9 rfl rfl hc_1.1 hc_1.2 ?_
  obtain rfl := Option.some.inj h
  exact kw_Q (hR _ rfl) (kw_ireturn C (kdec dc_Tokens_kind 5 rfl))
theorem mt_pf_Tokens_kind_24 (l0 : Launch) {σ : kM} {r : Int} (h : pf_Tokens_kind_24 σ = some r) : kMet l0 ky_Tokens_kind prog_10_method_3_code 1 (some .int) R0_pf_Tokens_kind_24 kcl yC σ [kr 24] (some (ki r)) σ := kMet.of' [some (kr 24)] (by decide) (Nat.le_of_ble_eq_true rfl) ⟨rfl, trivial⟩ (fun x C => bd_pf_Tokens_kind_24 C σ h (fun r e => by subst e; rfl))
def R0_pf_Tokens_word_24 : Room := ({ frames := 0, cells := 0, slots := 0, locals := 0 } : Room)
def pf_Tokens_word_24 (σ : kM) : Option (Int) :=
  kchk (0 ≤ (σ 24 6) ∧ (σ 24 6) < 701) <|
  if (σ 25 (σ 24 6).toNat) = 2 then
    kchk (0 ≤ (σ 24 6) ∧ (σ 24 6) < 701) <|
    kchk (0 ≤ (σ 28 (σ 24 6).toNat) ∧ (σ 28 (σ 24 6).toNat) < 18) <|
    some (σ 28 (σ 24 6).toNat)
  else
    some 17
set_option maxHeartbeats 4000000 in
theorem bd_pf_Tokens_word_24 {x : kX} {l0 : Launch} {Q : State → Prop} (C : kCx x prog_10_method_7_code "PoetFines$Tokens" (some (.object "PoetFines$Word")) kcl yC 1 l0 R0_pf_Tokens_word_24) (σ : kM) {out : Int} (h : pf_Tokens_word_24 σ = some out) (hR : ∀ (r : Int), out = r → Q = kQ x (some (ke (4 * r))) σ 0 0) : KW x 0 0 Q σ 0 [some (kr 24)] [] := by
  unfold pf_Tokens_word_24 at h
  refine kw_aload_n C (kdec dc_Tokens_word 0 rfl) rfl 1 rfl rfl ?_
  refine kw_getR C (kdec dc_Tokens_word 1 rfl) 4 rfl fd_C_Tokens_9_24 ?_
  refine kw_aload_n C (kdec dc_Tokens_word 2 rfl) rfl 5 rfl rfl ?_
  refine kw_getI C (kdec dc_Tokens_word 3 rfl) 8 rfl fd_C_Tokens_28_24 ?_
  obtain ⟨hc_1, h⟩ := kchk_h h
  refine kw_iald C (kdec dc_Tokens_word 4 rfl) 9 rfl rfl hc_1.1 hc_1.2 ?_
  refine kw_iconst C (kdec dc_Tokens_word 5 rfl) 10 rfl rfl ⟨by decide, by decide⟩ ?_
  refine kw_icmp_ne C (kdec dc_Tokens_word 6 rfl) 29 13 (by decide) rfl (fun hc10 => ?_) (fun hc10 => ?_)
  · rw [if_neg hc10] at h
    refine kw_gsE (i := 17) C (kdec dc_Tokens_word 15 rfl) 32 rfl (by decide) (by decide) wd_957 ?_
    obtain rfl := Option.some.inj h
    exact kw_Q (hR _ rfl) (kw_areturn C (kdec dc_Tokens_word 16 rfl))
  · rw [if_pos hc10] at h
    refine kw_gsAN C (kdec dc_Tokens_word 7 rfl) 16 rfl ?_
    refine kw_aload_n C (kdec dc_Tokens_word 8 rfl) rfl 17 rfl rfl ?_
    refine kw_getR C (kdec dc_Tokens_word 9 rfl) 20 rfl fd_C_Tokens_21_24 ?_
    refine kw_aload_n C (kdec dc_Tokens_word 10 rfl) rfl 21 rfl rfl ?_
    refine kw_getI C (kdec dc_Tokens_word 11 rfl) 24 rfl fd_C_Tokens_28_24 ?_
    obtain ⟨hc_2, h⟩ := kchk_h h
    refine kw_iald C (kdec dc_Tokens_word 12 rfl) 25 rfl rfl hc_2.1 hc_2.2 ?_
    obtain ⟨hc_3, h⟩ := kchk_h h
    refine kw_aald C (kdec dc_Tokens_word 13 rfl) 26 rfl hc_3.1 hc_3.2 ?_
    refine kw_goto C (kdec dc_Tokens_word 14 rfl) 32 (by decide) ?_
    obtain rfl := Option.some.inj h
    exact kw_Q (hR _ rfl) (kw_areturn C (kdec dc_Tokens_word 16 rfl))
theorem mt_pf_Tokens_word_24 (l0 : Launch) {σ : kM} {r : Int} (h : pf_Tokens_word_24 σ = some r) : kMet l0 ky_Tokens_word prog_10_method_7_code 1 (some (.object "PoetFines$Word")) R0_pf_Tokens_word_24 kcl yC σ [kr 24] (some (ke (4 * r))) σ := kMet.of' [some (kr 24)] (by decide) (Nat.le_of_ble_eq_true rfl) ⟨rfl, trivial⟩ (fun x C => bd_pf_Tokens_word_24 C σ h (fun r e => by subst e; rfl))
def R0_pf_Tokens_stop_24 : Room := ({ frames := 0, cells := 0, slots := 0, locals := 0 } : Room)
def pf_Tokens_stop_24 (σ : kM) : Option (kM) :=
  klet (kst σ 24 (kup (σ 24) 6 (σ 24 5))) fun σ_1 =>
  some σ_1
set_option maxHeartbeats 4000000 in
theorem bd_pf_Tokens_stop_24 {x : kX} {l0 : Launch} {Q : State → Prop} (C : kCx x prog_10_method_11_code "PoetFines$Tokens" none kcl yC 1 l0 R0_pf_Tokens_stop_24) (σ : kM) {out : kM} (h : pf_Tokens_stop_24 σ = some out) (hR : ∀ (τ : kM), out = τ → Q = kQ x none τ 0 0) : KW x 0 0 Q σ 0 [some (kr 24)] [] := by
  unfold pf_Tokens_stop_24 at h
  refine kw_aload_n C (kdec dc_Tokens_stop 0 rfl) rfl 1 rfl rfl ?_
  refine kw_aload_n C (kdec dc_Tokens_stop 1 rfl) rfl 2 rfl rfl ?_
  refine kw_getI C (kdec dc_Tokens_stop 2 rfl) 5 rfl fd_C_Tokens_24_24 ?_
  obtain ⟨σ_1, eσ_1, h⟩ := klet_h h
  refine kw_putI C (kdec dc_Tokens_stop 3 rfl) 8 rfl fp_C_Tokens_28_24 ?_
  refine kw_sig eσ_1 ?_
  obtain rfl := Option.some.inj h
  exact kw_Q (hR _ rfl) (kw_return C (kdec dc_Tokens_stop 4 rfl))
theorem mt_pf_Tokens_stop_24 (l0 : Launch) {σ : kM} {τ : kM} (h : pf_Tokens_stop_24 σ = some τ) : kMet l0 ky_Tokens_stop prog_10_method_11_code 1 none R0_pf_Tokens_stop_24 kcl yC σ [kr 24] none τ := kMet.of' [some (kr 24)] (by decide) (Nat.le_of_ble_eq_true rfl) ⟨rfl, trivial⟩ (fun x C => bd_pf_Tokens_stop_24 C σ h (fun τ e => by subst e; rfl))
def R0_pf_Tokens_start_24 : Room := ({ frames := 0, cells := 0, slots := 0, locals := 0 } : Room)
def pf_Tokens_start_24 (σ : kM) : Option (Int) :=
  kchk (0 ≤ (σ 24 6) ∧ (σ 24 6) < 701) <|
  some (σ 26 (σ 24 6).toNat)
set_option maxHeartbeats 4000000 in
theorem bd_pf_Tokens_start_24 {x : kX} {l0 : Launch} {Q : State → Prop} (C : kCx x prog_10_method_4_code "PoetFines$Tokens" (some .int) kcl yC 1 l0 R0_pf_Tokens_start_24) (σ : kM) {out : Int} (h : pf_Tokens_start_24 σ = some out) (hR : ∀ (r : Int), out = r → Q = kQ x (some (ki r)) σ 0 0) : KW x 0 0 Q σ 0 [some (kr 24)] [] := by
  unfold pf_Tokens_start_24 at h
  refine kw_aload_n C (kdec dc_Tokens_start 0 rfl) rfl 1 rfl rfl ?_
  refine kw_getR C (kdec dc_Tokens_start 1 rfl) 4 rfl fd_C_Tokens_15_24 ?_
  refine kw_aload_n C (kdec dc_Tokens_start 2 rfl) rfl 5 rfl rfl ?_
  refine kw_getI C (kdec dc_Tokens_start 3 rfl) 8 rfl fd_C_Tokens_28_24 ?_
  obtain ⟨hc_1, h⟩ := kchk_h h
  refine kw_iald C (kdec dc_Tokens_start 4 rfl) 9 rfl rfl hc_1.1 hc_1.2 ?_
  obtain rfl := Option.some.inj h
  exact kw_Q (hR _ rfl) (kw_ireturn C (kdec dc_Tokens_start 5 rfl))
theorem mt_pf_Tokens_start_24 (l0 : Launch) {σ : kM} {r : Int} (h : pf_Tokens_start_24 σ = some r) : kMet l0 ky_Tokens_start prog_10_method_4_code 1 (some .int) R0_pf_Tokens_start_24 kcl yC σ [kr 24] (some (ki r)) σ := kMet.of' [some (kr 24)] (by decide) (Nat.le_of_ble_eq_true rfl) ⟨rfl, trivial⟩ (fun x C => bd_pf_Tokens_start_24 C σ h (fun r e => by subst e; rfl))
def R0_pf_Parser_refuse_12 : Room := ({ frames := 1, cells := 0, slots := 0, locals := 20 } : Room)
def pf_Parser_refuse_12_j23 (σ : kM) : Option (kM) :=
  (pf_Tokens_stop_24 σ).bind fun σ_1 =>
  some σ_1
set_option maxHeartbeats 4000000 in
theorem bd_pf_Parser_refuse_12_j23 {x : kX} {l0 : Launch} {Q : State → Prop} (C : kCx x prog_6_method_3_code "PoetFines$Parser" none kcl yC 2 l0 R0_pf_Parser_refuse_12) (σ : kM) {out : kM} (h : pf_Parser_refuse_12_j23 σ = some out) (hR : ∀ (τ : kM), out = τ → Q = kQ x none τ 0 0) : KW x 0 0 Q σ 23 [some (kr 12), none] [] := by
  unfold pf_Parser_refuse_12_j23 at h
  refine kw_aload_n C (kdec dc_Parser_refuse 11 rfl) rfl 24 rfl rfl ?_
  refine kw_getR C (kdec dc_Parser_refuse 12 rfl) 27 rfl fd_C_Parser_40_12 ?_
  obtain ⟨σ_1, hg_2, h⟩ := kbind_h h
  refine kw_callV (As := []) C (kdec dc_Parser_refuse 13 rfl) 30 rfl cv_Parser_116 rfl rfl (mt_pf_Tokens_stop_24 l0 hg_2) ⟨rfl, rfl⟩ ⟨Nat.le_of_ble_eq_true rfl, Nat.le_of_ble_eq_true rfl⟩ ⟨Nat.zero_le _, Nat.zero_le _⟩ rfl (Nat.le_of_ble_eq_true rfl) ?_
  change KW x 0 0 Q σ_1 30 [some (kr 12), none] []
  obtain rfl := Option.some.inj h
  exact kw_Q (hR _ rfl) (kw_return C (kdec dc_Parser_refuse 14 rfl))
def pf_Parser_refuse_12 (σ : kM) (x1 : Int) : Option (kM) :=
  if (σ 12 3) = 0 then
    klet (kst σ 12 (kup (σ 12) 3 x1)) fun σ_3 =>
    (pf_Tokens_start_24 σ_3).bind fun r_4 =>
    klet (kst σ_3 12 (kup (σ_3 12) 2 r_4)) fun σ_5 =>
    pf_Parser_refuse_12_j23 σ_5
  else
    pf_Parser_refuse_12_j23 σ
set_option maxHeartbeats 4000000 in
theorem bd_pf_Parser_refuse_12 {x : kX} {l0 : Launch} {Q : State → Prop} (C : kCx x prog_6_method_3_code "PoetFines$Parser" none kcl yC 2 l0 R0_pf_Parser_refuse_12) (σ : kM) (x1 : Int) {out : kM} (h : pf_Parser_refuse_12 σ x1 = some out) (hR : ∀ (τ : kM), out = τ → Q = kQ x none τ 0 0) : KW x 0 0 Q σ 0 [some (kr 12), some (ki x1)] [] := by
  unfold pf_Parser_refuse_12 at h
  refine kw_aload_n C (kdec dc_Parser_refuse 0 rfl) rfl 1 rfl rfl ?_
  refine kw_getI C (kdec dc_Parser_refuse 1 rfl) 4 rfl fd_C_Parser_29_12 ?_
  refine kw_if_ne C (kdec dc_Parser_refuse 2 rfl) 23 7 (by decide) rfl (fun hc4 => ?_) (fun hc4 => ?_)
  · rw [if_neg hc4] at h
    exact kw_sub (L' := [some (kr 12), none]) ⟨rfl, trivial⟩ (bd_pf_Parser_refuse_12_j23 C σ h hR)
  · rw [if_pos hc4] at h
    refine kw_aload_n C (kdec dc_Parser_refuse 3 rfl) rfl 8 rfl rfl ?_
    refine kw_iload_n C (kdec dc_Parser_refuse 4 rfl) rfl 9 rfl rfl ?_
    obtain ⟨σ_3, eσ_3, h⟩ := klet_h h
    refine kw_putI C (kdec dc_Parser_refuse 5 rfl) 12 rfl fp_C_Parser_29_12 ?_
    refine kw_sig eσ_3 ?_
    refine kw_aload_n C (kdec dc_Parser_refuse 6 rfl) rfl 13 rfl rfl ?_
    refine kw_aload_n C (kdec dc_Parser_refuse 7 rfl) rfl 14 rfl rfl ?_
    refine kw_getR C (kdec dc_Parser_refuse 8 rfl) 17 rfl fd_C_Parser_40_12 ?_
    obtain ⟨r_4, hg_6, h⟩ := kbind_h h
    refine kw_callV (As := []) C (kdec dc_Parser_refuse 9 rfl) 20 rfl cv_Parser_113 rfl rfl (mt_pf_Tokens_start_24 l0 hg_6) ⟨rfl, rfl⟩ ⟨Nat.le_of_ble_eq_true rfl, Nat.le_of_ble_eq_true rfl⟩ ⟨Nat.zero_le _, Nat.zero_le _⟩ rfl (Nat.le_of_ble_eq_true rfl) ?_
    change KW x 0 0 Q σ_3 20 [some (kr 12), some (ki x1)] [ki r_4, kr 12]
    obtain ⟨σ_5, eσ_5, h⟩ := klet_h h
    refine kw_putI C (kdec dc_Parser_refuse 10 rfl) 23 rfl fp_C_Parser_25_12 ?_
    refine kw_sig eσ_5 ?_
    exact kw_sub (L' := [some (kr 12), none]) ⟨rfl, trivial⟩ (bd_pf_Parser_refuse_12_j23 C σ_5 h hR)
theorem mt_pf_Parser_refuse_12 (l0 : Launch) {σ : kM} {x1 : Int} {τ : kM} (h : pf_Parser_refuse_12 σ x1 = some τ) : kMet l0 ky_Parser_refuse prog_6_method_3_code 2 none R0_pf_Parser_refuse_12 kcl yC σ [kr 12, ki x1] none τ := kMet.of' [some (kr 12), some (ki x1)] (by decide) (Nat.le_of_ble_eq_true rfl) ⟨rfl, rfl, trivial⟩ (fun x C => bd_pf_Parser_refuse_12 C σ x1 h (fun τ e => by subst e; rfl))
def R0_pf_Rules_has_17 : Room := ({ frames := 0, cells := 0, slots := 0, locals := 0 } : Room)
def pf_Rules_has_17 (σ : kM) (x1 : Int) : Option (Int) :=
  kchk (0 ≤ x1 ∧ x1 < 3) <|
  kchk (0 ≤ x1 ∧ x1 < 3) <|
  if (σ 20 x1.toNat) ≤ (σ 19 x1.toNat) then
    some 0
  else
    some 1
set_option maxHeartbeats 4000000 in
theorem bd_pf_Rules_has_17 {x : kX} {l0 : Launch} {Q : State → Prop} (C : kCx x prog_7_method_4_code "PoetFines$Rules" (some .boolean) kcl yC 2 l0 R0_pf_Rules_has_17) (σ : kM) (x1 : Int) {out : Int} (h : pf_Rules_has_17 σ x1 = some out) (hR : ∀ (r : Int), out = r → Q = kQ x (some (ki r)) σ 0 0) : KW x 0 0 Q σ 0 [some (kr 17), some (ki x1)] [] := by
  unfold pf_Rules_has_17 at h
  refine kw_aload_n C (kdec dc_Rules_has 0 rfl) rfl 1 rfl rfl ?_
  refine kw_getR C (kdec dc_Rules_has 1 rfl) 4 rfl fd_C_Rules_22_17 ?_
  refine kw_iload_n C (kdec dc_Rules_has 2 rfl) rfl 5 rfl rfl ?_
  obtain ⟨hc_1, h⟩ := kchk_h h
  refine kw_iald C (kdec dc_Rules_has 3 rfl) 6 rfl rfl hc_1.1 hc_1.2 ?_
  refine kw_aload_n C (kdec dc_Rules_has 4 rfl) rfl 7 rfl rfl ?_
  refine kw_getR C (kdec dc_Rules_has 5 rfl) 10 rfl fd_C_Rules_19_17 ?_
  refine kw_iload_n C (kdec dc_Rules_has 6 rfl) rfl 11 rfl rfl ?_
  obtain ⟨hc_2, h⟩ := kchk_h h
  refine kw_iald C (kdec dc_Rules_has 7 rfl) 12 rfl rfl hc_2.1 hc_2.2 ?_
  refine kw_icmp_le C (kdec dc_Rules_has 8 rfl) 19 15 (by decide) rfl (fun hc12 => ?_) (fun hc12 => ?_)
  · rw [if_pos hc12] at h
    refine kw_iconst C (kdec dc_Rules_has 11 rfl) 20 rfl rfl ⟨by decide, by decide⟩ ?_
    obtain rfl := Option.some.inj h
    exact kw_Q (hR _ rfl) (kw_zreturn C (kdec dc_Rules_has 12 rfl) (by decide))
  · rw [if_neg hc12] at h
    refine kw_iconst C (kdec dc_Rules_has 9 rfl) 16 rfl rfl ⟨by decide, by decide⟩ ?_
    refine kw_goto C (kdec dc_Rules_has 10 rfl) 20 (by decide) ?_
    obtain rfl := Option.some.inj h
    exact kw_Q (hR _ rfl) (kw_zreturn C (kdec dc_Rules_has 12 rfl) (by decide))
theorem mt_pf_Rules_has_17 (l0 : Launch) {σ : kM} {x1 : Int} {r : Int} (h : pf_Rules_has_17 σ x1 = some r) : kMet l0 ky_Rules_has prog_7_method_4_code 2 (some .boolean) R0_pf_Rules_has_17 kcl yC σ [kr 17, ki x1] (some (ki r)) σ := kMet.of' [some (kr 17), some (ki x1)] (by decide) (Nat.le_of_ble_eq_true rfl) ⟨rfl, rfl, trivial⟩ (fun x C => bd_pf_Rules_has_17 C σ x1 h (fun r e => by subst e; rfl))
def R0_pf_Tokens_advance_24 : Room := ({ frames := 0, cells := 0, slots := 0, locals := 0 } : Room)
def pf_Tokens_advance_24 (σ : kM) : Option (kM) :=
  if (σ 24 5) ≤ (σ 24 6) then
    some σ
  else
    klet (kst σ 24 (kup (σ 24) 6 (w32 ((σ 24 6) + 1)))) fun σ_1 =>
    some σ_1
set_option maxHeartbeats 4000000 in
theorem bd_pf_Tokens_advance_24 {x : kX} {l0 : Launch} {Q : State → Prop} (C : kCx x prog_10_method_10_code "PoetFines$Tokens" none kcl yC 1 l0 R0_pf_Tokens_advance_24) (σ : kM) {out : kM} (h : pf_Tokens_advance_24 σ = some out) (hR : ∀ (τ : kM), out = τ → Q = kQ x none τ 0 0) : KW x 0 0 Q σ 0 [some (kr 24)] [] := by
  unfold pf_Tokens_advance_24 at h
  refine kw_aload_n C (kdec dc_Tokens_advance 0 rfl) rfl 1 rfl rfl ?_
  refine kw_getI C (kdec dc_Tokens_advance 1 rfl) 4 rfl fd_C_Tokens_28_24 ?_
  refine kw_aload_n C (kdec dc_Tokens_advance 2 rfl) rfl 5 rfl rfl ?_
  refine kw_getI C (kdec dc_Tokens_advance 3 rfl) 8 rfl fd_C_Tokens_24_24 ?_
  refine kw_icmp_ge C (kdec dc_Tokens_advance 4 rfl) 21 11 (by decide) rfl (fun hc8 => ?_) (fun hc8 => ?_)
  · rw [if_pos hc8] at h
    obtain rfl := Option.some.inj h
    exact kw_Q (hR _ rfl) (kw_return C (kdec dc_Tokens_advance 11 rfl))
  · rw [if_neg hc8] at h
    refine kw_aload_n C (kdec dc_Tokens_advance 5 rfl) rfl 12 rfl rfl ?_
    refine kw_dup C (kdec dc_Tokens_advance 6 rfl) 13 rfl rfl ?_
    refine kw_getI C (kdec dc_Tokens_advance 7 rfl) 16 rfl fd_C_Tokens_28_24 ?_
    refine kw_iconst C (kdec dc_Tokens_advance 8 rfl) 17 rfl rfl ⟨by decide, by decide⟩ ?_
    refine kw_iadd C (kdec dc_Tokens_advance 9 rfl) 18 rfl ?_
    obtain ⟨σ_1, eσ_1, h⟩ := klet_h h
    refine kw_putI C (kdec dc_Tokens_advance 10 rfl) 21 rfl fp_C_Tokens_28_24 ?_
    refine kw_sig eσ_1 ?_
    obtain rfl := Option.some.inj h
    exact kw_Q (hR _ rfl) (kw_return C (kdec dc_Tokens_advance 11 rfl))
theorem mt_pf_Tokens_advance_24 (l0 : Launch) {σ : kM} {τ : kM} (h : pf_Tokens_advance_24 σ = some τ) : kMet l0 ky_Tokens_advance prog_10_method_10_code 1 none R0_pf_Tokens_advance_24 kcl yC σ [kr 24] none τ := kMet.of' [some (kr 24)] (by decide) (Nat.le_of_ble_eq_true rfl) ⟨rfl, trivial⟩ (fun x C => bd_pf_Tokens_advance_24 C σ h (fun τ e => by subst e; rfl))
def R0_pf_Rules_begin_17 : Room := ({ frames := 0, cells := 0, slots := 0, locals := 0 } : Room)
def pf_Rules_begin_17 (σ : kM) (x1 : Int) : Option (kM) :=
  kchk (0 ≤ x1 ∧ x1 < 3) <|
  klet (kst σ 19 (kup (σ 19) x1.toNat (σ 17 1))) fun σ_2 =>
  some σ_2
set_option maxHeartbeats 4000000 in
theorem bd_pf_Rules_begin_17 {x : kX} {l0 : Launch} {Q : State → Prop} (C : kCx x prog_7_method_6_code "PoetFines$Rules" none kcl yC 2 l0 R0_pf_Rules_begin_17) (σ : kM) (x1 : Int) {out : kM} (h : pf_Rules_begin_17 σ x1 = some out) (hR : ∀ (τ : kM), out = τ → Q = kQ x none τ 0 0) : KW x 0 0 Q σ 0 [some (kr 17), some (ki x1)] [] := by
  unfold pf_Rules_begin_17 at h
  refine kw_aload_n C (kdec dc_Rules_begin 0 rfl) rfl 1 rfl rfl ?_
  refine kw_getR C (kdec dc_Rules_begin 1 rfl) 4 rfl fd_C_Rules_19_17 ?_
  refine kw_iload_n C (kdec dc_Rules_begin 2 rfl) rfl 5 rfl rfl ?_
  refine kw_aload_n C (kdec dc_Rules_begin 3 rfl) rfl 6 rfl rfl ?_
  refine kw_getI C (kdec dc_Rules_begin 4 rfl) 9 rfl fd_C_Rules_15_17 ?_
  obtain ⟨hc_1, h⟩ := kchk_h h
  obtain ⟨σ_2, eσ_2, h⟩ := klet_h h
  refine kw_iast C (kdec dc_Rules_begin 5 rfl) 10 rfl rfl hc_1.1 hc_1.2 ?_
  refine kw_sig eσ_2 ?_
  obtain rfl := Option.some.inj h
  exact kw_Q (hR _ rfl) (kw_return C (kdec dc_Rules_begin 6 rfl))
theorem mt_pf_Rules_begin_17 (l0 : Launch) {σ : kM} {x1 : Int} {τ : kM} (h : pf_Rules_begin_17 σ x1 = some τ) : kMet l0 ky_Rules_begin prog_7_method_6_code 2 none R0_pf_Rules_begin_17 kcl yC σ [kr 17, ki x1] none τ := kMet.of' [some (kr 17), some (ki x1)] (by decide) (Nat.le_of_ble_eq_true rfl) ⟨rfl, rfl, trivial⟩ (fun x C => bd_pf_Rules_begin_17 C σ x1 h (fun τ e => by subst e; rfl))
def R0_pf_Tokens_isSign_24 : Room := ({ frames := 0, cells := 0, slots := 0, locals := 0 } : Room)
def pf_Tokens_isSign_24 (σ : kM) (x1 : Int) : Option (Int) :=
  kchk (0 ≤ (σ 24 6) ∧ (σ 24 6) < 701) <|
  if (σ 25 (σ 24 6).toNat) = 3 then
    kchk (0 ≤ (σ 24 6) ∧ (σ 24 6) < 701) <|
    if (σ 28 (σ 24 6).toNat) = x1 then
      some 1
    else
      some 0
  else
    some 0
set_option maxHeartbeats 4000000 in
theorem bd_pf_Tokens_isSign_24 {x : kX} {l0 : Launch} {Q : State → Prop} (C : kCx x prog_10_method_8_code "PoetFines$Tokens" (some .boolean) kcl yC 2 l0 R0_pf_Tokens_isSign_24) (σ : kM) (x1 : Int) {out : Int} (h : pf_Tokens_isSign_24 σ x1 = some out) (hR : ∀ (r : Int), out = r → Q = kQ x (some (ki r)) σ 0 0) : KW x 0 0 Q σ 0 [some (kr 24), some (ki x1)] [] := by
  unfold pf_Tokens_isSign_24 at h
  refine kw_aload_n C (kdec dc_Tokens_isSign 0 rfl) rfl 1 rfl rfl ?_
  refine kw_getR C (kdec dc_Tokens_isSign 1 rfl) 4 rfl fd_C_Tokens_9_24 ?_
  refine kw_aload_n C (kdec dc_Tokens_isSign 2 rfl) rfl 5 rfl rfl ?_
  refine kw_getI C (kdec dc_Tokens_isSign 3 rfl) 8 rfl fd_C_Tokens_28_24 ?_
  obtain ⟨hc_1, h⟩ := kchk_h h
  refine kw_iald C (kdec dc_Tokens_isSign 4 rfl) 9 rfl rfl hc_1.1 hc_1.2 ?_
  refine kw_iconst C (kdec dc_Tokens_isSign 5 rfl) 10 rfl rfl ⟨by decide, by decide⟩ ?_
  refine kw_icmp_ne C (kdec dc_Tokens_isSign 6 rfl) 30 13 (by decide) rfl (fun hc10 => ?_) (fun hc10 => ?_)
  · rw [if_neg hc10] at h
    refine kw_iconst C (kdec dc_Tokens_isSign 16 rfl) 31 rfl rfl ⟨by decide, by decide⟩ ?_
    obtain rfl := Option.some.inj h
    exact kw_Q (hR _ rfl) (kw_zreturn C (kdec dc_Tokens_isSign 17 rfl) (by decide))
  · rw [if_pos hc10] at h
    refine kw_aload_n C (kdec dc_Tokens_isSign 7 rfl) rfl 14 rfl rfl ?_
    refine kw_getR C (kdec dc_Tokens_isSign 8 rfl) 17 rfl fd_C_Tokens_21_24 ?_
    refine kw_aload_n C (kdec dc_Tokens_isSign 9 rfl) rfl 18 rfl rfl ?_
    refine kw_getI C (kdec dc_Tokens_isSign 10 rfl) 21 rfl fd_C_Tokens_28_24 ?_
    obtain ⟨hc_2, h⟩ := kchk_h h
    refine kw_iald C (kdec dc_Tokens_isSign 11 rfl) 22 rfl rfl hc_2.1 hc_2.2 ?_
    refine kw_iload_n C (kdec dc_Tokens_isSign 12 rfl) rfl 23 rfl rfl ?_
    refine kw_icmp_ne C (kdec dc_Tokens_isSign 13 rfl) 30 26 (by decide) rfl (fun hc23 => ?_) (fun hc23 => ?_)
    · rw [if_neg hc23] at h
      refine kw_iconst C (kdec dc_Tokens_isSign 16 rfl) 31 rfl rfl ⟨by decide, by decide⟩ ?_
      obtain rfl := Option.some.inj h
      exact kw_Q (hR _ rfl) (kw_zreturn C (kdec dc_Tokens_isSign 17 rfl) (by decide))
    · rw [if_pos hc23] at h
      refine kw_iconst C (kdec dc_Tokens_isSign 14 rfl) 27 rfl rfl ⟨by decide, by decide⟩ ?_
      refine kw_goto C (kdec dc_Tokens_isSign 15 rfl) 31 (by decide) ?_
      obtain rfl := Option.some.inj h
      exact kw_Q (hR _ rfl) (kw_zreturn C (kdec dc_Tokens_isSign 17 rfl) (by decide))
theorem mt_pf_Tokens_isSign_24 (l0 : Launch) {σ : kM} {x1 : Int} {r : Int} (h : pf_Tokens_isSign_24 σ x1 = some r) : kMet l0 ky_Tokens_isSign prog_10_method_8_code 2 (some .boolean) R0_pf_Tokens_isSign_24 kcl yC σ [kr 24, ki x1] (some (ki r)) σ := kMet.of' [some (kr 24), some (ki x1)] (by decide) (Nat.le_of_ble_eq_true rfl) ⟨rfl, rfl, trivial⟩ (fun x C => bd_pf_Tokens_isSign_24 C σ x1 h (fun r e => by subst e; rfl))
def R0_pf_Parser_oneOf_12 : Room := ({ frames := 1, cells := 0, slots := 0, locals := 21 } : Room)
def pf_Parser_oneOf_12 (σ : kM) (x1 : Int) (x2 : Int) (x3 : Int) (x4 : Int) : Option (Int) :=
  (pf_Tokens_isSign_24 σ x1).bind fun r_1 =>
  if r_1 = 0 then
    (pf_Tokens_isSign_24 σ x3).bind fun r_2 =>
    if r_2 = 0 then
      some ((-1))
    else
      some x4
  else
    some x2
set_option maxHeartbeats 4000000 in
theorem bd_pf_Parser_oneOf_12 {x : kX} {l0 : Launch} {Q : State → Prop} (C : kCx x prog_6_method_13_code "PoetFines$Parser" (some .int) kcl yC 5 l0 R0_pf_Parser_oneOf_12) (σ : kM) (x1 : Int) (x2 : Int) (x3 : Int) (x4 : Int) {out : Int} (h : pf_Parser_oneOf_12 σ x1 x2 x3 x4 = some out) (hR : ∀ (r : Int), out = r → Q = kQ x (some (ki r)) σ 0 0) : KW x 0 0 Q σ 0 [some (kr 12), some (ki x1), some (ki x2), some (ki x3), some (ki x4)] [] := by
  unfold pf_Parser_oneOf_12 at h
  refine kw_aload_n C (kdec dc_Parser_oneOf 0 rfl) rfl 1 rfl rfl ?_
  refine kw_getR C (kdec dc_Parser_oneOf 1 rfl) 4 rfl fd_C_Parser_40_12 ?_
  refine kw_iload_n C (kdec dc_Parser_oneOf 2 rfl) rfl 5 rfl rfl ?_
  obtain ⟨r_1, hg_4, h⟩ := kbind_h h
  refine kw_callV (As := [ki x1]) C (kdec dc_Parser_oneOf 3 rfl) 8 rfl cv_Parser_155 rfl rfl (mt_pf_Tokens_isSign_24 l0 hg_4) ⟨rfl, rfl⟩ ⟨Nat.le_of_ble_eq_true rfl, Nat.le_of_ble_eq_true rfl⟩ ⟨Nat.zero_le _, Nat.zero_le _⟩ rfl (Nat.le_of_ble_eq_true rfl) ?_
  change KW x 0 0 Q σ 8 [some (kr 12), some (ki x1), some (ki x2), some (ki x3), some (ki x4)] [ki r_1]
  refine kw_if_eq C (kdec dc_Parser_oneOf 4 rfl) 13 11 (by decide) rfl (fun hc8 => ?_) (fun hc8 => ?_)
  · rw [if_pos hc8] at h
    refine kw_aload_n C (kdec dc_Parser_oneOf 7 rfl) rfl 14 rfl rfl ?_
    refine kw_getR C (kdec dc_Parser_oneOf 8 rfl) 17 rfl fd_C_Parser_40_12 ?_
    refine kw_iload_n C (kdec dc_Parser_oneOf 9 rfl) rfl 18 rfl rfl ?_
    obtain ⟨r_2, hg_3, h⟩ := kbind_h h
    refine kw_callV (As := [ki x3]) C (kdec dc_Parser_oneOf 10 rfl) 21 rfl cv_Parser_155 rfl rfl (mt_pf_Tokens_isSign_24 l0 hg_3) ⟨rfl, rfl⟩ ⟨Nat.le_of_ble_eq_true rfl, Nat.le_of_ble_eq_true rfl⟩ ⟨Nat.zero_le _, Nat.zero_le _⟩ rfl (Nat.le_of_ble_eq_true rfl) ?_
    change KW x 0 0 Q σ 21 [some (kr 12), some (ki x1), some (ki x2), some (ki x3), some (ki x4)] [ki r_2]
    refine kw_if_eq C (kdec dc_Parser_oneOf 11 rfl) 29 24 (by decide) rfl (fun hc21 => ?_) (fun hc21 => ?_)
    · rw [if_pos hc21] at h
      refine kw_iconst C (kdec dc_Parser_oneOf 14 rfl) 30 rfl rfl ⟨by decide, by decide⟩ ?_
      obtain rfl := Option.some.inj h
      exact kw_Q (hR _ rfl) (kw_ireturn C (kdec dc_Parser_oneOf 15 rfl))
    · rw [if_neg hc21] at h
      refine kw_iload C (kdec dc_Parser_oneOf 12 rfl) 26 rfl rfl ?_
      refine kw_goto C (kdec dc_Parser_oneOf 13 rfl) 30 (by decide) ?_
      obtain rfl := Option.some.inj h
      exact kw_Q (hR _ rfl) (kw_ireturn C (kdec dc_Parser_oneOf 15 rfl))
  · rw [if_neg hc8] at h
    refine kw_iload_n C (kdec dc_Parser_oneOf 5 rfl) rfl 12 rfl rfl ?_
    obtain rfl := Option.some.inj h
    exact kw_Q (hR _ rfl) (kw_ireturn C (kdec dc_Parser_oneOf 6 rfl))
theorem mt_pf_Parser_oneOf_12 (l0 : Launch) {σ : kM} {x1 : Int} {x2 : Int} {x3 : Int} {x4 : Int} {r : Int} (h : pf_Parser_oneOf_12 σ x1 x2 x3 x4 = some r) : kMet l0 ky_Parser_oneOf prog_6_method_13_code 5 (some .int) R0_pf_Parser_oneOf_12 kcl yC σ [kr 12, ki x1, ki x2, ki x3, ki x4] (some (ki r)) σ := kMet.of' [some (kr 12), some (ki x1), some (ki x2), some (ki x3), some (ki x4)] (by decide) (Nat.le_of_ble_eq_true rfl) ⟨rfl, rfl, rfl, rfl, rfl, trivial⟩ (fun x C => bd_pf_Parser_oneOf_12 C σ x1 x2 x3 x4 h (fun r e => by subst e; rfl))
def R0_pf_Parser_operatorOf_12 : Room := ({ frames := 2, cells := 0, slots := 0, locals := 45 } : Room)
def pf_Parser_operatorOf_12 (σ : kM) (x1 : Int) : Option (Int) :=
  if x1 = 0 then
    (pf_Tokens_isWord_24 σ 6).bind fun r_1 =>
    if r_1 = 0 then
      some ((-1))
    else
      some ((-10))
  else
    if x1 = 1 then
      (pf_Tokens_isWord_24 σ 7).bind fun r_3 =>
      if r_3 = 0 then
        some ((-1))
      else
        some ((-11))
    else
      if x1 = 2 then
        some ((-1))
      else
        if x1 = 3 then
          (pf_Parser_oneOf_12 σ 60 ((-12)) 61 ((-13))).bind fun r_5 =>
          some r_5
        else
          if x1 = 4 then
            (pf_Parser_oneOf_12 σ 43 ((-14)) 45 ((-15))).bind fun r_7 =>
            some r_7
          else
            if x1 = 5 then
              (pf_Parser_oneOf_12 σ 42 ((-16)) 47 ((-17))).bind fun r_9 =>
              some r_9
            else
              some ((-1))
set_option maxHeartbeats 4000000 in
theorem bd_pf_Parser_operatorOf_12 {x : kX} {l0 : Launch} {Q : State → Prop} (C : kCx x prog_6_method_12_code "PoetFines$Parser" (some .int) kcl yC 2 l0 R0_pf_Parser_operatorOf_12) (σ : kM) (x1 : Int) {out : Int} (h : pf_Parser_operatorOf_12 σ x1 = some out) (hR : ∀ (r : Int), out = r → Q = kQ x (some (ki r)) σ 0 0) : KW x 0 0 Q σ 0 [some (kr 12), some (ki x1)] [] := by
  unfold pf_Parser_operatorOf_12 at h
  refine kw_iload_n C (kdec dc_Parser_operatorOf 0 rfl) rfl 1 rfl rfl ?_
  by_cases hc1_0 : x1 = 0
  · rw [if_pos hc1_0] at h
    refine kw_table C (kdec dc_Parser_operatorOf 1 rfl) 40 (Or.inr ⟨by omega, by omega, _, by rw [hc1_0]; rfl, by decide⟩) ?_
    refine kw_aload_n C (kdec dc_Parser_operatorOf 2 rfl) rfl 41 rfl rfl ?_
    refine kw_getR C (kdec dc_Parser_operatorOf 3 rfl) 44 rfl fd_C_Parser_40_12 ?_
    refine kw_gsE (i := 6) C (kdec dc_Parser_operatorOf 4 rfl) 47 rfl (by decide) (by decide) wd_1036 ?_
    obtain ⟨r_1, hg_2, h⟩ := kbind_h h
    refine kw_callV (As := [ke (4 * 6)]) C (kdec dc_Parser_operatorOf 5 rfl) 50 rfl cv_Parser_58 rfl rfl (mt_pf_Tokens_isWord_24 l0 hg_2) ⟨rfl, rfl⟩ ⟨Nat.le_of_ble_eq_true rfl, Nat.le_of_ble_eq_true rfl⟩ ⟨Nat.zero_le _, Nat.zero_le _⟩ rfl (Nat.le_of_ble_eq_true rfl) ?_
    change KW x 0 0 Q σ 50 [some (kr 12), some (ki x1)] [ki r_1]
    refine kw_if_eq C (kdec dc_Parser_operatorOf 6 rfl) 58 53 (by decide) rfl (fun hc50 => ?_) (fun hc50 => ?_)
    · rw [if_pos hc50] at h
      refine kw_iconst C (kdec dc_Parser_operatorOf 9 rfl) 59 rfl rfl ⟨by decide, by decide⟩ ?_
      obtain rfl := Option.some.inj h
      exact kw_Q (hR _ rfl) (kw_ireturn C (kdec dc_Parser_operatorOf 10 rfl))
    · rw [if_neg hc50] at h
      refine kw_bipush (v := -10) C (kdec dc_Parser_operatorOf 7 rfl) 55 rfl (by decide) ⟨by decide, by decide⟩ ?_
      refine kw_goto C (kdec dc_Parser_operatorOf 8 rfl) 59 (by decide) ?_
      obtain rfl := Option.some.inj h
      exact kw_Q (hR _ rfl) (kw_ireturn C (kdec dc_Parser_operatorOf 10 rfl))
  · rw [if_neg hc1_0] at h
    by_cases hc1_1 : x1 = 1
    · rw [if_pos hc1_1] at h
      refine kw_table C (kdec dc_Parser_operatorOf 1 rfl) 60 (Or.inr ⟨by omega, by omega, _, by rw [hc1_1]; rfl, by decide⟩) ?_
      refine kw_aload_n C (kdec dc_Parser_operatorOf 11 rfl) rfl 61 rfl rfl ?_
      refine kw_getR C (kdec dc_Parser_operatorOf 12 rfl) 64 rfl fd_C_Parser_40_12 ?_
      refine kw_gsE (i := 7) C (kdec dc_Parser_operatorOf 13 rfl) 67 rfl (by decide) (by decide) wd_1038 ?_
      obtain ⟨r_3, hg_4, h⟩ := kbind_h h
      refine kw_callV (As := [ke (4 * 7)]) C (kdec dc_Parser_operatorOf 14 rfl) 70 rfl cv_Parser_58 rfl rfl (mt_pf_Tokens_isWord_24 l0 hg_4) ⟨rfl, rfl⟩ ⟨Nat.le_of_ble_eq_true rfl, Nat.le_of_ble_eq_true rfl⟩ ⟨Nat.zero_le _, Nat.zero_le _⟩ rfl (Nat.le_of_ble_eq_true rfl) ?_
      change KW x 0 0 Q σ 70 [some (kr 12), some (ki x1)] [ki r_3]
      refine kw_if_eq C (kdec dc_Parser_operatorOf 15 rfl) 78 73 (by decide) rfl (fun hc70 => ?_) (fun hc70 => ?_)
      · rw [if_pos hc70] at h
        refine kw_iconst C (kdec dc_Parser_operatorOf 18 rfl) 79 rfl rfl ⟨by decide, by decide⟩ ?_
        obtain rfl := Option.some.inj h
        exact kw_Q (hR _ rfl) (kw_ireturn C (kdec dc_Parser_operatorOf 19 rfl))
      · rw [if_neg hc70] at h
        refine kw_bipush (v := -11) C (kdec dc_Parser_operatorOf 16 rfl) 75 rfl (by decide) ⟨by decide, by decide⟩ ?_
        refine kw_goto C (kdec dc_Parser_operatorOf 17 rfl) 79 (by decide) ?_
        obtain rfl := Option.some.inj h
        exact kw_Q (hR _ rfl) (kw_ireturn C (kdec dc_Parser_operatorOf 19 rfl))
    · rw [if_neg hc1_1] at h
      by_cases hc1_2 : x1 = 2
      · rw [if_pos hc1_2] at h
        refine kw_table C (kdec dc_Parser_operatorOf 1 rfl) 119 (Or.inr ⟨by omega, by omega, _, by rw [hc1_2]; rfl, by decide⟩) ?_
        refine kw_iconst C (kdec dc_Parser_operatorOf 41 rfl) 120 rfl rfl ⟨by decide, by decide⟩ ?_
        obtain rfl := Option.some.inj h
        exact kw_Q (hR _ rfl) (kw_ireturn C (kdec dc_Parser_operatorOf 42 rfl))
      · rw [if_neg hc1_2] at h
        by_cases hc1_3 : x1 = 3
        · rw [if_pos hc1_3] at h
          refine kw_table C (kdec dc_Parser_operatorOf 1 rfl) 80 (Or.inr ⟨by omega, by omega, _, by rw [hc1_3]; rfl, by decide⟩) ?_
          refine kw_aload_n C (kdec dc_Parser_operatorOf 20 rfl) rfl 81 rfl rfl ?_
          refine kw_bipush (v := 60) C (kdec dc_Parser_operatorOf 21 rfl) 83 rfl (by decide) ⟨by decide, by decide⟩ ?_
          refine kw_bipush (v := -12) C (kdec dc_Parser_operatorOf 22 rfl) 85 rfl (by decide) ⟨by decide, by decide⟩ ?_
          refine kw_bipush (v := 61) C (kdec dc_Parser_operatorOf 23 rfl) 87 rfl (by decide) ⟨by decide, by decide⟩ ?_
          refine kw_bipush (v := -13) C (kdec dc_Parser_operatorOf 24 rfl) 89 rfl (by decide) ⟨by decide, by decide⟩ ?_
          obtain ⟨r_5, hg_6, h⟩ := kbind_h h
          refine kw_callV (As := [ki 60, ki ((-12)), ki 61, ki ((-13))]) C (kdec dc_Parser_operatorOf 25 rfl) 92 rfl cv_Parser_195 rfl rfl (mt_pf_Parser_oneOf_12 l0 hg_6) ⟨rfl, rfl⟩ ⟨Nat.le_of_ble_eq_true rfl, Nat.le_of_ble_eq_true rfl⟩ ⟨Nat.zero_le _, Nat.zero_le _⟩ rfl (Nat.le_of_ble_eq_true rfl) ?_
          change KW x 0 0 Q σ 92 [some (kr 12), some (ki x1)] [ki r_5]
          obtain rfl := Option.some.inj h
          exact kw_Q (hR _ rfl) (kw_ireturn C (kdec dc_Parser_operatorOf 26 rfl))
        · rw [if_neg hc1_3] at h
          by_cases hc1_4 : x1 = 4
          · rw [if_pos hc1_4] at h
            refine kw_table C (kdec dc_Parser_operatorOf 1 rfl) 93 (Or.inr ⟨by omega, by omega, _, by rw [hc1_4]; rfl, by decide⟩) ?_
            refine kw_aload_n C (kdec dc_Parser_operatorOf 27 rfl) rfl 94 rfl rfl ?_
            refine kw_bipush (v := 43) C (kdec dc_Parser_operatorOf 28 rfl) 96 rfl (by decide) ⟨by decide, by decide⟩ ?_
            refine kw_bipush (v := -14) C (kdec dc_Parser_operatorOf 29 rfl) 98 rfl (by decide) ⟨by decide, by decide⟩ ?_
            refine kw_bipush (v := 45) C (kdec dc_Parser_operatorOf 30 rfl) 100 rfl (by decide) ⟨by decide, by decide⟩ ?_
            refine kw_bipush (v := -15) C (kdec dc_Parser_operatorOf 31 rfl) 102 rfl (by decide) ⟨by decide, by decide⟩ ?_
            obtain ⟨r_7, hg_8, h⟩ := kbind_h h
            refine kw_callV (As := [ki 43, ki ((-14)), ki 45, ki ((-15))]) C (kdec dc_Parser_operatorOf 32 rfl) 105 rfl cv_Parser_195 rfl rfl (mt_pf_Parser_oneOf_12 l0 hg_8) ⟨rfl, rfl⟩ ⟨Nat.le_of_ble_eq_true rfl, Nat.le_of_ble_eq_true rfl⟩ ⟨Nat.zero_le _, Nat.zero_le _⟩ rfl (Nat.le_of_ble_eq_true rfl) ?_
            change KW x 0 0 Q σ 105 [some (kr 12), some (ki x1)] [ki r_7]
            obtain rfl := Option.some.inj h
            exact kw_Q (hR _ rfl) (kw_ireturn C (kdec dc_Parser_operatorOf 33 rfl))
          · rw [if_neg hc1_4] at h
            by_cases hc1_5 : x1 = 5
            · rw [if_pos hc1_5] at h
              refine kw_table C (kdec dc_Parser_operatorOf 1 rfl) 106 (Or.inr ⟨by omega, by omega, _, by rw [hc1_5]; rfl, by decide⟩) ?_
              refine kw_aload_n C (kdec dc_Parser_operatorOf 34 rfl) rfl 107 rfl rfl ?_
              refine kw_bipush (v := 42) C (kdec dc_Parser_operatorOf 35 rfl) 109 rfl (by decide) ⟨by decide, by decide⟩ ?_
              refine kw_bipush (v := -16) C (kdec dc_Parser_operatorOf 36 rfl) 111 rfl (by decide) ⟨by decide, by decide⟩ ?_
              refine kw_bipush (v := 47) C (kdec dc_Parser_operatorOf 37 rfl) 113 rfl (by decide) ⟨by decide, by decide⟩ ?_
              refine kw_bipush (v := -17) C (kdec dc_Parser_operatorOf 38 rfl) 115 rfl (by decide) ⟨by decide, by decide⟩ ?_
              obtain ⟨r_9, hg_10, h⟩ := kbind_h h
              refine kw_callV (As := [ki 42, ki ((-16)), ki 47, ki ((-17))]) C (kdec dc_Parser_operatorOf 39 rfl) 118 rfl cv_Parser_195 rfl rfl (mt_pf_Parser_oneOf_12 l0 hg_10) ⟨rfl, rfl⟩ ⟨Nat.le_of_ble_eq_true rfl, Nat.le_of_ble_eq_true rfl⟩ ⟨Nat.zero_le _, Nat.zero_le _⟩ rfl (Nat.le_of_ble_eq_true rfl) ?_
              change KW x 0 0 Q σ 118 [some (kr 12), some (ki x1)] [ki r_9]
              obtain rfl := Option.some.inj h
              exact kw_Q (hR _ rfl) (kw_ireturn C (kdec dc_Parser_operatorOf 40 rfl))
            · rw [if_neg hc1_5] at h
              refine kw_table C (kdec dc_Parser_operatorOf 1 rfl) 119 (Or.inl ⟨by omega, by decide⟩) ?_
              refine kw_iconst C (kdec dc_Parser_operatorOf 41 rfl) 120 rfl rfl ⟨by decide, by decide⟩ ?_
              obtain rfl := Option.some.inj h
              exact kw_Q (hR _ rfl) (kw_ireturn C (kdec dc_Parser_operatorOf 42 rfl))
theorem mt_pf_Parser_operatorOf_12 (l0 : Launch) {σ : kM} {x1 : Int} {r : Int} (h : pf_Parser_operatorOf_12 σ x1 = some r) : kMet l0 ky_Parser_operatorOf prog_6_method_12_code 2 (some .int) R0_pf_Parser_operatorOf_12 kcl yC σ [kr 12, ki x1] (some (ki r)) σ := kMet.of' [some (kr 12), some (ki x1)] (by decide) (Nat.le_of_ble_eq_true rfl) ⟨rfl, rfl, trivial⟩ (fun x C => bd_pf_Parser_operatorOf_12 C σ x1 h (fun r e => by subst e; rfl))
def R0_pf_Rules_emit_17 : Room := ({ frames := 0, cells := 0, slots := 0, locals := 0 } : Room)
def pf_Rules_emit_17 (σ : kM) (x1 : Int) : Option (kM) :=
  if 700 ≤ (σ 17 1) then
    some σ
  else
    kchk (0 ≤ (σ 17 1) ∧ (σ 17 1) < 700) <|
    klet (kst σ 18 (kup (σ 18) ((σ 17 1).toNat) x1)) fun σ_2 =>
    klet (kst σ_2 17 (kup (σ_2 17) 1 (w32 ((σ_2 17 1) + 1)))) fun σ_3 =>
    some σ_3
set_option maxHeartbeats 4000000 in
theorem bd_pf_Rules_emit_17 {x : kX} {l0 : Launch} {Q : State → Prop} (C : kCx x prog_7_method_7_code "PoetFines$Rules" none kcl yC 2 l0 R0_pf_Rules_emit_17) (σ : kM) (x1 : Int) {out : kM} (h : pf_Rules_emit_17 σ x1 = some out) (hR : ∀ (τ : kM), out = τ → Q = kQ x none τ 0 0) : KW x 0 0 Q σ 0 [some (kr 17), some (ki x1)] [] := by
  unfold pf_Rules_emit_17 at h
  refine kw_aload_n C (kdec dc_Rules_emit 0 rfl) rfl 1 rfl rfl ?_
  refine kw_getI C (kdec dc_Rules_emit 1 rfl) 4 rfl fd_C_Rules_15_17 ?_
  refine kw_sipush (v := 700) C (kdec dc_Rules_emit 2 rfl) 7 rfl (by decide) ⟨by decide, by decide⟩ ?_
  refine kw_icmp_ge C (kdec dc_Rules_emit 3 rfl) 30 10 (by decide) rfl (fun hc7 => ?_) (fun hc7 => ?_)
  · rw [if_pos hc7] at h
    obtain rfl := Option.some.inj h
    exact kw_Q (hR _ rfl) (kw_return C (kdec dc_Rules_emit 16 rfl))
  · rw [if_neg hc7] at h
    refine kw_aload_n C (kdec dc_Rules_emit 4 rfl) rfl 11 rfl rfl ?_
    refine kw_getR C (kdec dc_Rules_emit 5 rfl) 14 rfl fd_C_Rules_11_17 ?_
    refine kw_aload_n C (kdec dc_Rules_emit 6 rfl) rfl 15 rfl rfl ?_
    refine kw_getI C (kdec dc_Rules_emit 7 rfl) 18 rfl fd_C_Rules_15_17 ?_
    refine kw_iload_n C (kdec dc_Rules_emit 8 rfl) rfl 19 rfl rfl ?_
    obtain ⟨hc_1, h⟩ := kchk_h h
    obtain ⟨σ_2, eσ_2, h⟩ := klet_h h
    refine kw_iast C (kdec dc_Rules_emit 9 rfl) 20 rfl rfl hc_1.1 hc_1.2 ?_
    refine kw_sig eσ_2 ?_
    refine kw_aload_n C (kdec dc_Rules_emit 10 rfl) rfl 21 rfl rfl ?_
    refine kw_dup C (kdec dc_Rules_emit 11 rfl) 22 rfl rfl ?_
    refine kw_getI C (kdec dc_Rules_emit 12 rfl) 25 rfl fd_C_Rules_15_17 ?_
    refine kw_iconst C (kdec dc_Rules_emit 13 rfl) 26 rfl rfl ⟨by decide, by decide⟩ ?_
    refine kw_iadd C (kdec dc_Rules_emit 14 rfl) 27 rfl ?_
    obtain ⟨σ_3, eσ_3, h⟩ := klet_h h
    refine kw_putI C (kdec dc_Rules_emit 15 rfl) 30 rfl fp_C_Rules_15_17 ?_
    refine kw_sig eσ_3 ?_
    obtain rfl := Option.some.inj h
    exact kw_Q (hR _ rfl) (kw_return C (kdec dc_Rules_emit 16 rfl))
theorem mt_pf_Rules_emit_17 (l0 : Launch) {σ : kM} {x1 : Int} {τ : kM} (h : pf_Rules_emit_17 σ x1 = some τ) : kMet l0 ky_Rules_emit prog_7_method_7_code 2 none R0_pf_Rules_emit_17 kcl yC σ [kr 17, ki x1] none τ := kMet.of' [some (kr 17), some (ki x1)] (by decide) (Nat.le_of_ble_eq_true rfl) ⟨rfl, rfl, trivial⟩ (fun x C => bd_pf_Rules_emit_17 C σ x1 h (fun τ e => by subst e; rfl))
def R0_pf_Parser_takeNots_12 : Room := ({ frames := 2, cells := 0, slots := 0, locals := 41 } : Room)
def pf_Parser_takeNots_12_l4 (σ : kM) (x1 : Int) (x2 : Int) : Option ((kM × Int × Int) ⊕ ((kM × Int))) :=
  if 6 ≤ x2 then
    some (Sum.inr (σ, x1))
  else
    (pf_Tokens_isWord_24 σ 8).bind fun r_1 =>
    if r_1 = 0 then
      some (Sum.inr (σ, x1))
    else
      klet (w32 (x1 + 1)) fun x1_2 =>
      (pf_Tokens_advance_24 σ).bind fun σ_3 =>
      klet (w32 (x2 + 1)) fun x2_4 =>
      some (Sum.inl (σ_3, x1_2, x2_4))
set_option maxHeartbeats 4000000 in
theorem bd_pf_Parser_takeNots_12_l4 {x : kX} {l0 : Launch} {Q : State → Prop} (C : kCx x prog_6_method_14_code "PoetFines$Parser" (some .int) kcl yC 3 l0 R0_pf_Parser_takeNots_12) (σ : kM) (x1 : Int) (x2 : Int) {out : (kM × Int × Int) ⊕ ((kM × Int))} (h : pf_Parser_takeNots_12_l4 σ x1 x2 = some out) (hC : ∀ (σ' : kM) (x1' : Int) (x2' : Int), out = Sum.inl (σ', x1', x2') → KW x 0 0 Q σ' 4 [some (kr 12), some (ki x1'), some (ki x2')] []) (hX39 : ∀ (σ' : kM) (x1' : Int), out = Sum.inr (σ', x1') → KW x 0 0 Q σ' 39 [some (kr 12), some (ki x1'), none] []) : KW x 0 0 Q σ 4 [some (kr 12), some (ki x1), some (ki x2)] [] := by
  unfold pf_Parser_takeNots_12_l4 at h
  refine kw_iload_n C (kdec dc_Parser_takeNots 4 rfl) rfl 5 rfl rfl ?_
  refine kw_bipush (v := 6) C (kdec dc_Parser_takeNots 5 rfl) 7 rfl (by decide) ⟨by decide, by decide⟩ ?_
  refine kw_icmp_ge C (kdec dc_Parser_takeNots 6 rfl) 39 10 (by decide) rfl (fun hc7 => ?_) (fun hc7 => ?_)
  · rw [if_pos hc7] at h
    obtain rfl := Option.some.inj h
    exact kw_sub (L' := [some (kr 12), some (ki x1), none]) ⟨rfl, rfl, trivial⟩ (hX39 _ _ rfl)
  · rw [if_neg hc7] at h
    refine kw_aload_n C (kdec dc_Parser_takeNots 7 rfl) rfl 11 rfl rfl ?_
    refine kw_getR C (kdec dc_Parser_takeNots 8 rfl) 14 rfl fd_C_Parser_40_12 ?_
    refine kw_gsE (i := 8) C (kdec dc_Parser_takeNots 9 rfl) 17 rfl (by decide) (by decide) wd_1030 ?_
    obtain ⟨r_1, hg_6, h⟩ := kbind_h h
    refine kw_callV (As := [ke (4 * 8)]) C (kdec dc_Parser_takeNots 10 rfl) 20 rfl cv_Parser_58 rfl rfl (mt_pf_Tokens_isWord_24 l0 hg_6) ⟨rfl, rfl⟩ ⟨Nat.le_of_ble_eq_true rfl, Nat.le_of_ble_eq_true rfl⟩ ⟨Nat.zero_le _, Nat.zero_le _⟩ rfl (Nat.le_of_ble_eq_true rfl) ?_
    change KW x 0 0 Q σ 20 [some (kr 12), some (ki x1), some (ki x2)] [ki r_1]
    refine kw_if_eq C (kdec dc_Parser_takeNots 11 rfl) 39 23 (by decide) rfl (fun hc20 => ?_) (fun hc20 => ?_)
    · rw [if_pos hc20] at h
      obtain rfl := Option.some.inj h
      exact kw_sub (L' := [some (kr 12), some (ki x1), none]) ⟨rfl, rfl, trivial⟩ (hX39 _ _ rfl)
    · rw [if_neg hc20] at h
      obtain ⟨x1_2, ex1_2, h⟩ := klet_h h
      refine kw_iinc (L' := [some (kr 12), some (ki x1_2), some (ki x2)]) C (kdec dc_Parser_takeNots 12 rfl) 26 rfl rfl (by decide) rfl (by rw [ex1_2]; rfl) ?_
      refine kw_aload_n C (kdec dc_Parser_takeNots 13 rfl) rfl 27 rfl rfl ?_
      refine kw_getR C (kdec dc_Parser_takeNots 14 rfl) 30 rfl fd_C_Parser_40_12 ?_
      obtain ⟨σ_3, hg_5, h⟩ := kbind_h h
      refine kw_callV (As := []) C (kdec dc_Parser_takeNots 15 rfl) 33 rfl cv_Parser_62 rfl rfl (mt_pf_Tokens_advance_24 l0 hg_5) ⟨rfl, rfl⟩ ⟨Nat.le_of_ble_eq_true rfl, Nat.le_of_ble_eq_true rfl⟩ ⟨Nat.zero_le _, Nat.zero_le _⟩ rfl (Nat.le_of_ble_eq_true rfl) ?_
      change KW x 0 0 Q σ_3 33 [some (kr 12), some (ki x1_2), some (ki x2)] []
      obtain ⟨x2_4, ex2_4, h⟩ := klet_h h
      refine kw_iinc (L' := [some (kr 12), some (ki x1_2), some (ki x2_4)]) C (kdec dc_Parser_takeNots 16 rfl) 36 rfl rfl (by decide) rfl (by rw [ex2_4]; rfl) ?_
      refine kw_goto C (kdec dc_Parser_takeNots 17 rfl) 4 (by decide) ?_
      obtain rfl := Option.some.inj h
      exact (hC _ _ _ rfl)
theorem lp_pf_Parser_takeNots_12_l4 {x : kX} {l0 : Launch} {Q : State → Prop} (C : kCx x prog_6_method_14_code "PoetFines$Parser" (some .int) kcl yC 3 l0 R0_pf_Parser_takeNots_12) {ex : (kM × Int)} (hX39 : ∀ (σ' : kM) (x1' : Int), ex = (σ', x1') → KW x 0 0 Q σ' 39 [some (kr 12), some (ki x1'), none] []) (n : Nat) (σ : kM) (x1 : Int) (x2 : Int) (h : kloop (fun st => pf_Parser_takeNots_12_l4 st.1 st.2.1 st.2.2) n (σ, x1, x2) = some ex) : KW x 0 0 Q σ 4 [some (kr 12), some (ki x1), some (ki x2)] [] :=
  kloop_ind (P := (fun st : kM × Int × Int => KW x 0 0 Q st.1 4 [some (kr 12), some (ki (st.2.1)), some (ki (st.2.2))] [])) (fun st out hb hc hx => bd_pf_Parser_takeNots_12_l4 C st.1 st.2.1 st.2.2 hb (fun a0 a1 a2 e => hc _ e) (fun a0 a1 e => hX39 _ _ ((hx _ e).symm))) n (σ, x1, x2) h
def pf_Parser_takeNots_12 (σ : kM) : Option (Int × kM) :=
  (kloop (fun st => pf_Parser_takeNots_12_l4 st.1 st.2.1 st.2.2) kFuel (σ, 0, 0)).bind fun (σ_9, x1_10) =>
  (pf_Tokens_isWord_24 σ_9 8).bind fun r_11 =>
  if r_11 = 0 then
    some ((x1_10, σ_9))
  else
    (pf_Parser_refuse_12 σ_9 2).bind fun σ_12 =>
    some ((x1_10, σ_12))
set_option maxHeartbeats 4000000 in
theorem bd_pf_Parser_takeNots_12 {x : kX} {l0 : Launch} {Q : State → Prop} (C : kCx x prog_6_method_14_code "PoetFines$Parser" (some .int) kcl yC 3 l0 R0_pf_Parser_takeNots_12) (σ : kM) {out : Int × kM} (h : pf_Parser_takeNots_12 σ = some out) (hR : ∀ (r : Int) (τ : kM), out = (r, τ) → Q = kQ x (some (ki r)) τ 0 0) : KW x 0 0 Q σ 0 [some (kr 12), none, none] [] := by
  unfold pf_Parser_takeNots_12 at h
  refine kw_iconst C (kdec dc_Parser_takeNots 0 rfl) 1 rfl rfl ⟨by decide, by decide⟩ ?_
  refine kw_istore_n (L' := [some (kr 12), some (ki 0), none]) C (kdec dc_Parser_takeNots 1 rfl) rfl 2 rfl (by decide) rfl rfl ?_
  refine kw_iconst C (kdec dc_Parser_takeNots 2 rfl) 3 rfl rfl ⟨by decide, by decide⟩ ?_
  refine kw_istore_n (L' := [some (kr 12), some (ki 0), some (ki 0)]) C (kdec dc_Parser_takeNots 3 rfl) rfl 4 rfl (by decide) rfl rfl ?_
  obtain ⟨ex_7, hl_8, h⟩ := kbind_h h
  refine lp_pf_Parser_takeNots_12_l4 C ?_ kFuel σ 0 0 hl_8
  · intro σ_9 x1_10 e
    subst ex_7
    try dsimp only at h
    refine kw_aload_n C (kdec dc_Parser_takeNots 18 rfl) rfl 40 rfl rfl ?_
    refine kw_getR C (kdec dc_Parser_takeNots 19 rfl) 43 rfl fd_C_Parser_40_12 ?_
    refine kw_gsE (i := 8) C (kdec dc_Parser_takeNots 20 rfl) 46 rfl (by decide) (by decide) wd_1030 ?_
    obtain ⟨r_11, hg_14, h⟩ := kbind_h h
    refine kw_callV (As := [ke (4 * 8)]) C (kdec dc_Parser_takeNots 21 rfl) 49 rfl cv_Parser_58 rfl rfl (mt_pf_Tokens_isWord_24 l0 hg_14) ⟨rfl, rfl⟩ ⟨Nat.le_of_ble_eq_true rfl, Nat.le_of_ble_eq_true rfl⟩ ⟨Nat.zero_le _, Nat.zero_le _⟩ rfl (Nat.le_of_ble_eq_true rfl) ?_
    change KW x 0 0 Q σ_9 49 [some (kr 12), some (ki x1_10), none] [ki r_11]
    refine kw_if_eq C (kdec dc_Parser_takeNots 22 rfl) 57 52 (by decide) rfl (fun hc49 => ?_) (fun hc49 => ?_)
    · rw [if_pos hc49] at h
      refine kw_iload_n C (kdec dc_Parser_takeNots 26 rfl) rfl 58 rfl rfl ?_
      obtain rfl := Option.some.inj h
      exact kw_Q (hR _ _ rfl) (kw_ireturn C (kdec dc_Parser_takeNots 27 rfl))
    · rw [if_neg hc49] at h
      refine kw_aload_n C (kdec dc_Parser_takeNots 23 rfl) rfl 53 rfl rfl ?_
      refine kw_iconst C (kdec dc_Parser_takeNots 24 rfl) 54 rfl rfl ⟨by decide, by decide⟩ ?_
      obtain ⟨σ_12, hg_13, h⟩ := kbind_h h
      refine kw_callV (As := [ki 2]) C (kdec dc_Parser_takeNots 25 rfl) 57 rfl cv_Parser_110 rfl rfl (mt_pf_Parser_refuse_12 l0 hg_13) ⟨rfl, rfl⟩ ⟨Nat.le_of_ble_eq_true rfl, Nat.le_of_ble_eq_true rfl⟩ ⟨Nat.zero_le _, Nat.zero_le _⟩ rfl (Nat.le_of_ble_eq_true rfl) ?_
      change KW x 0 0 Q σ_12 57 [some (kr 12), some (ki x1_10), none] []
      refine kw_iload_n C (kdec dc_Parser_takeNots 26 rfl) rfl 58 rfl rfl ?_
      obtain rfl := Option.some.inj h
      exact kw_Q (hR _ _ rfl) (kw_ireturn C (kdec dc_Parser_takeNots 27 rfl))
theorem mt_pf_Parser_takeNots_12 (l0 : Launch) {σ : kM} {r : Int} {τ : kM} (h : pf_Parser_takeNots_12 σ = some (r, τ)) : kMet l0 ky_Parser_takeNots prog_6_method_14_code 3 (some .int) R0_pf_Parser_takeNots_12 kcl yC σ [kr 12] (some (ki r)) τ := kMet.of' [some (kr 12), none, none] (by decide) (Nat.le_of_ble_eq_true rfl) ⟨rfl, trivial⟩ (fun x C => bd_pf_Parser_takeNots_12 C σ h (fun r τ e => by cases e; rfl))
def R0_pf_Parser_couldBePart_12 : Room := ({ frames := 1, cells := 0, slots := 0, locals := 21 } : Room)
def pf_Parser_couldBePart_12 (σ : kM) : Option (Int) :=
  (pf_Tokens_kind_24 σ).bind fun r_1 =>
  if r_1 = 1 then
    some 1
  else
    (pf_Tokens_kind_24 σ).bind fun r_2 =>
    if r_2 = 2 then
      some 1
    else
      (pf_Tokens_isSign_24 σ 40).bind fun r_3 =>
      if r_3 = 0 then
        some 0
      else
        some 1
set_option maxHeartbeats 4000000 in
theorem bd_pf_Parser_couldBePart_12 {x : kX} {l0 : Launch} {Q : State → Prop} (C : kCx x prog_6_method_16_code "PoetFines$Parser" (some .boolean) kcl yC 1 l0 R0_pf_Parser_couldBePart_12) (σ : kM) {out : Int} (h : pf_Parser_couldBePart_12 σ = some out) (hR : ∀ (r : Int), out = r → Q = kQ x (some (ki r)) σ 0 0) : KW x 0 0 Q σ 0 [some (kr 12)] [] := by
  unfold pf_Parser_couldBePart_12 at h
  refine kw_aload_n C (kdec dc_Parser_couldBePart 0 rfl) rfl 1 rfl rfl ?_
  refine kw_getR C (kdec dc_Parser_couldBePart 1 rfl) 4 rfl fd_C_Parser_40_12 ?_
  obtain ⟨r_1, hg_6, h⟩ := kbind_h h
  refine kw_callV (As := []) C (kdec dc_Parser_couldBePart 2 rfl) 7 rfl cv_Parser_76 rfl rfl (mt_pf_Tokens_kind_24 l0 hg_6) ⟨rfl, rfl⟩ ⟨Nat.le_of_ble_eq_true rfl, Nat.le_of_ble_eq_true rfl⟩ ⟨Nat.zero_le _, Nat.zero_le _⟩ rfl (Nat.le_of_ble_eq_true rfl) ?_
  change KW x 0 0 Q σ 7 [some (kr 12)] [ki r_1]
  refine kw_iconst C (kdec dc_Parser_couldBePart 3 rfl) 8 rfl rfl ⟨by decide, by decide⟩ ?_
  refine kw_icmp_eq C (kdec dc_Parser_couldBePart 4 rfl) 34 11 (by decide) rfl (fun hc8 => ?_) (fun hc8 => ?_)
  · rw [if_pos hc8] at h
    refine kw_iconst C (kdec dc_Parser_couldBePart 15 rfl) 35 rfl rfl ⟨by decide, by decide⟩ ?_
    refine kw_goto C (kdec dc_Parser_couldBePart 16 rfl) 39 (by decide) ?_
    obtain rfl := Option.some.inj h
    exact kw_Q (hR _ rfl) (kw_zreturn C (kdec dc_Parser_couldBePart 18 rfl) (by decide))
  · rw [if_neg hc8] at h
    refine kw_aload_n C (kdec dc_Parser_couldBePart 5 rfl) rfl 12 rfl rfl ?_
    refine kw_getR C (kdec dc_Parser_couldBePart 6 rfl) 15 rfl fd_C_Parser_40_12 ?_
    obtain ⟨r_2, hg_5, h⟩ := kbind_h h
    refine kw_callV (As := []) C (kdec dc_Parser_couldBePart 7 rfl) 18 rfl cv_Parser_76 rfl rfl (mt_pf_Tokens_kind_24 l0 hg_5) ⟨rfl, rfl⟩ ⟨Nat.le_of_ble_eq_true rfl, Nat.le_of_ble_eq_true rfl⟩ ⟨Nat.zero_le _, Nat.zero_le _⟩ rfl (Nat.le_of_ble_eq_true rfl) ?_
    change KW x 0 0 Q σ 18 [some (kr 12)] [ki r_2]
    refine kw_iconst C (kdec dc_Parser_couldBePart 8 rfl) 19 rfl rfl ⟨by decide, by decide⟩ ?_
    refine kw_icmp_eq C (kdec dc_Parser_couldBePart 9 rfl) 34 22 (by decide) rfl (fun hc19 => ?_) (fun hc19 => ?_)
    · rw [if_pos hc19] at h
      refine kw_iconst C (kdec dc_Parser_couldBePart 15 rfl) 35 rfl rfl ⟨by decide, by decide⟩ ?_
      refine kw_goto C (kdec dc_Parser_couldBePart 16 rfl) 39 (by decide) ?_
      obtain rfl := Option.some.inj h
      exact kw_Q (hR _ rfl) (kw_zreturn C (kdec dc_Parser_couldBePart 18 rfl) (by decide))
    · rw [if_neg hc19] at h
      refine kw_aload_n C (kdec dc_Parser_couldBePart 10 rfl) rfl 23 rfl rfl ?_
      refine kw_getR C (kdec dc_Parser_couldBePart 11 rfl) 26 rfl fd_C_Parser_40_12 ?_
      refine kw_bipush (v := 40) C (kdec dc_Parser_couldBePart 12 rfl) 28 rfl (by decide) ⟨by decide, by decide⟩ ?_
      obtain ⟨r_3, hg_4, h⟩ := kbind_h h
      refine kw_callV (As := [ki 40]) C (kdec dc_Parser_couldBePart 13 rfl) 31 rfl cv_Parser_155 rfl rfl (mt_pf_Tokens_isSign_24 l0 hg_4) ⟨rfl, rfl⟩ ⟨Nat.le_of_ble_eq_true rfl, Nat.le_of_ble_eq_true rfl⟩ ⟨Nat.zero_le _, Nat.zero_le _⟩ rfl (Nat.le_of_ble_eq_true rfl) ?_
      change KW x 0 0 Q σ 31 [some (kr 12)] [ki r_3]
      refine kw_if_eq C (kdec dc_Parser_couldBePart 14 rfl) 38 34 (by decide) rfl (fun hc31 => ?_) (fun hc31 => ?_)
      · rw [if_pos hc31] at h
        refine kw_iconst C (kdec dc_Parser_couldBePart 17 rfl) 39 rfl rfl ⟨by decide, by decide⟩ ?_
        obtain rfl := Option.some.inj h
        exact kw_Q (hR _ rfl) (kw_zreturn C (kdec dc_Parser_couldBePart 18 rfl) (by decide))
      · rw [if_neg hc31] at h
        refine kw_iconst C (kdec dc_Parser_couldBePart 15 rfl) 35 rfl rfl ⟨by decide, by decide⟩ ?_
        refine kw_goto C (kdec dc_Parser_couldBePart 16 rfl) 39 (by decide) ?_
        obtain rfl := Option.some.inj h
        exact kw_Q (hR _ rfl) (kw_zreturn C (kdec dc_Parser_couldBePart 18 rfl) (by decide))
theorem mt_pf_Parser_couldBePart_12 (l0 : Launch) {σ : kM} {r : Int} (h : pf_Parser_couldBePart_12 σ = some r) : kMet l0 ky_Parser_couldBePart prog_6_method_16_code 1 (some .boolean) R0_pf_Parser_couldBePart_12 kcl yC σ [kr 12] (some (ki r)) σ := kMet.of' [some (kr 12)] (by decide) (Nat.le_of_ble_eq_true rfl) ⟨rfl, trivial⟩ (fun x C => bd_pf_Parser_couldBePart_12 C σ h (fun r e => by subst e; rfl))
def R0_pf_Parser_takeSign_12 : Room := ({ frames := 2, cells := 0, slots := 0, locals := 41 } : Room)
def pf_Parser_takeSign_12 (σ : kM) (x1 : Int) : Option (kM) :=
  (pf_Tokens_isSign_24 σ x1).bind fun r_1 =>
  if r_1 = 0 then
    (pf_Parser_refuse_12 σ 1).bind fun σ_2 =>
    some σ_2
  else
    (pf_Tokens_advance_24 σ).bind fun σ_4 =>
    some σ_4
set_option maxHeartbeats 4000000 in
theorem bd_pf_Parser_takeSign_12 {x : kX} {l0 : Launch} {Q : State → Prop} (C : kCx x prog_6_method_9_code "PoetFines$Parser" none kcl yC 2 l0 R0_pf_Parser_takeSign_12) (σ : kM) (x1 : Int) {out : kM} (h : pf_Parser_takeSign_12 σ x1 = some out) (hR : ∀ (τ : kM), out = τ → Q = kQ x none τ 0 0) : KW x 0 0 Q σ 0 [some (kr 12), some (ki x1)] [] := by
  unfold pf_Parser_takeSign_12 at h
  refine kw_aload_n C (kdec dc_Parser_takeSign 0 rfl) rfl 1 rfl rfl ?_
  refine kw_getR C (kdec dc_Parser_takeSign 1 rfl) 4 rfl fd_C_Parser_40_12 ?_
  refine kw_iload_n C (kdec dc_Parser_takeSign 2 rfl) rfl 5 rfl rfl ?_
  obtain ⟨r_1, hg_6, h⟩ := kbind_h h
  refine kw_callV (As := [ki x1]) C (kdec dc_Parser_takeSign 3 rfl) 8 rfl cv_Parser_155 rfl rfl (mt_pf_Tokens_isSign_24 l0 hg_6) ⟨rfl, rfl⟩ ⟨Nat.le_of_ble_eq_true rfl, Nat.le_of_ble_eq_true rfl⟩ ⟨Nat.zero_le _, Nat.zero_le _⟩ rfl (Nat.le_of_ble_eq_true rfl) ?_
  change KW x 0 0 Q σ 8 [some (kr 12), some (ki x1)] [ki r_1]
  refine kw_if_eq C (kdec dc_Parser_takeSign 4 rfl) 21 11 (by decide) rfl (fun hc8 => ?_) (fun hc8 => ?_)
  · rw [if_pos hc8] at h
    refine kw_aload_n C (kdec dc_Parser_takeSign 9 rfl) rfl 22 rfl rfl ?_
    refine kw_iconst C (kdec dc_Parser_takeSign 10 rfl) 23 rfl rfl ⟨by decide, by decide⟩ ?_
    obtain ⟨σ_2, hg_3, h⟩ := kbind_h h
    refine kw_callV (As := [ki 1]) C (kdec dc_Parser_takeSign 11 rfl) 26 rfl cv_Parser_110 rfl rfl (mt_pf_Parser_refuse_12 l0 hg_3) ⟨rfl, rfl⟩ ⟨Nat.le_of_ble_eq_true rfl, Nat.le_of_ble_eq_true rfl⟩ ⟨Nat.zero_le _, Nat.zero_le _⟩ rfl (Nat.le_of_ble_eq_true rfl) ?_
    change KW x 0 0 Q σ_2 26 [some (kr 12), some (ki x1)] []
    obtain rfl := Option.some.inj h
    exact kw_Q (hR _ rfl) (kw_return C (kdec dc_Parser_takeSign 12 rfl))
  · rw [if_neg hc8] at h
    refine kw_aload_n C (kdec dc_Parser_takeSign 5 rfl) rfl 12 rfl rfl ?_
    refine kw_getR C (kdec dc_Parser_takeSign 6 rfl) 15 rfl fd_C_Parser_40_12 ?_
    obtain ⟨σ_4, hg_5, h⟩ := kbind_h h
    refine kw_callV (As := []) C (kdec dc_Parser_takeSign 7 rfl) 18 rfl cv_Parser_62 rfl rfl (mt_pf_Tokens_advance_24 l0 hg_5) ⟨rfl, rfl⟩ ⟨Nat.le_of_ble_eq_true rfl, Nat.le_of_ble_eq_true rfl⟩ ⟨Nat.zero_le _, Nat.zero_le _⟩ rfl (Nat.le_of_ble_eq_true rfl) ?_
    change KW x 0 0 Q σ_4 18 [some (kr 12), some (ki x1)] []
    refine kw_goto C (kdec dc_Parser_takeSign 8 rfl) 26 (by decide) ?_
    obtain rfl := Option.some.inj h
    exact kw_Q (hR _ rfl) (kw_return C (kdec dc_Parser_takeSign 12 rfl))
theorem mt_pf_Parser_takeSign_12 (l0 : Launch) {σ : kM} {x1 : Int} {τ : kM} (h : pf_Parser_takeSign_12 σ x1 = some τ) : kMet l0 ky_Parser_takeSign prog_6_method_9_code 2 none R0_pf_Parser_takeSign_12 kcl yC σ [kr 12, ki x1] none τ := kMet.of' [some (kr 12), some (ki x1)] (by decide) (Nat.le_of_ble_eq_true rfl) ⟨rfl, rfl, trivial⟩ (fun x C => bd_pf_Parser_takeSign_12 C σ x1 h (fun τ e => by subst e; rfl))

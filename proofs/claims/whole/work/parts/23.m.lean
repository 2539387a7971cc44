def R0_mm_copies_0_5_1 : Room := ({ frames := 0, cells := 0, slots := 0, locals := 0 } : Room)
def mm_copies_0_5_1_l2 (σ : kM) (x3 : Int) : Option ((kM × Int) ⊕ ((kM))) :=
  if 1400 ≤ x3 then
    some (Sum.inr σ)
  else
    kchk (0 ≤ x3 ∧ x3 < 1400) <|
    kchk (0 ≤ x3 ∧ x3 < 1400) <|
    klet (kst σ 1 (kup (σ 1) x3.toNat (σ 5 x3.toNat))) fun σ_3 =>
    klet (w32 (x3 + 1)) fun x3_4 =>
    some (Sum.inl (σ_3, x3_4))
set_option maxHeartbeats 4000000 in
theorem bd_mm_copies_0_5_1_l2 {x : kX} {l0 : Launch} {Q : State → Prop} (C : kCx x prog_14_method_7_code "PoetFinesModel" none kcl yM 4 l0 R0_mm_copies_0_5_1) (σ : kM) (x3 : Int) {out : (kM × Int) ⊕ ((kM))} (h : mm_copies_0_5_1_l2 σ x3 = some out) (hC : ∀ (σ' : kM) (x3' : Int), out = Sum.inl (σ', x3') → KW x 0 0 Q σ' 2 [none, some (kr 5), some (kr 1), some (ki x3')] []) (hX20 : ∀ (σ' : kM), out = Sum.inr σ' → KW x 0 0 Q σ' 20 [none, none, none, none] []) : KW x 0 0 Q σ 2 [none, some (kr 5), some (kr 1), some (ki x3)] [] := by
  unfold mm_copies_0_5_1_l2 at h
  refine kw_iload_n C (kdec dc_M_copies 2 rfl) rfl 3 rfl rfl ?_
  refine kw_aload_n C (kdec dc_M_copies 3 rfl) rfl 4 rfl rfl ?_
  refine kw_alen (v := 1400) C (kdec dc_M_copies 4 rfl) 5 rfl rfl (by decide) rfl ⟨by decide, by decide⟩ ?_
  refine kw_icmp_ge C (kdec dc_M_copies 5 rfl) 20 8 (by decide) rfl (fun hc5 => ?_) (fun hc5 => ?_)
  · rw [if_pos hc5] at h
    obtain rfl := Option.some.inj h
    exact kw_sub (L' := [none, none, none, none]) trivial (hX20 _ rfl)
  · rw [if_neg hc5] at h
    refine kw_aload_n C (kdec dc_M_copies 6 rfl) rfl 9 rfl rfl ?_
    refine kw_iload_n C (kdec dc_M_copies 7 rfl) rfl 10 rfl rfl ?_
    refine kw_aload_n C (kdec dc_M_copies 8 rfl) rfl 11 rfl rfl ?_
    refine kw_iload_n C (kdec dc_M_copies 9 rfl) rfl 12 rfl rfl ?_
    obtain ⟨hc_1, h⟩ := kchk_h h
    refine kw_iald C (kdec dc_M_copies 10 rfl) 13 rfl rfl hc_1.1 hc_1.2 ?_
    obtain ⟨hc_2, h⟩ := kchk_h h
    obtain ⟨σ_3, eσ_3, h⟩ := klet_h h
    refine kw_iast C (kdec dc_M_copies 11 rfl) 14 rfl rfl hc_2.1 hc_2.2 ?_
    refine kw_sig eσ_3 ?_
    obtain ⟨x3_4, ex3_4, h⟩ := klet_h h
    refine kw_iinc (L' := [none, some (kr 5), some (kr 1), some (ki x3_4)]) C (kdec dc_M_copies 12 rfl) 17 rfl rfl (by decide) rfl (by rw [ex3_4]; rfl) ?_
    refine kw_goto C (kdec dc_M_copies 13 rfl) 2 (by decide) ?_
    obtain rfl := Option.some.inj h
    exact (hC _ _ rfl)
theorem lp_mm_copies_0_5_1_l2 {x : kX} {l0 : Launch} {Q : State → Prop} (C : kCx x prog_14_method_7_code "PoetFinesModel" none kcl yM 4 l0 R0_mm_copies_0_5_1) {ex : (kM)} (hX20 : ∀ (σ' : kM), ex = σ' → KW x 0 0 Q σ' 20 [none, none, none, none] []) (n : Nat) (σ : kM) (x3 : Int) (h : kloop (fun st => mm_copies_0_5_1_l2 st.1 st.2) n (σ, x3) = some ex) : KW x 0 0 Q σ 2 [none, some (kr 5), some (kr 1), some (ki x3)] [] :=
  kloop_ind (P := (fun st : kM × Int => KW x 0 0 Q st.1 2 [none, some (kr 5), some (kr 1), some (ki (st.2))] [])) (fun st out hb hc hx => bd_mm_copies_0_5_1_l2 C st.1 st.2 hb (fun a0 a1 e => hc _ e) (fun a0 e => hX20 _ ((hx _ e).symm))) n (σ, x3) h
def mm_copies_0_5_1 (σ : kM) : Option (kM) :=
  (kloop (fun st => mm_copies_0_5_1_l2 st.1 st.2) kFuel (σ, 0)).bind fun σ_7 =>
  some σ_7
set_option maxHeartbeats 4000000 in
theorem bd_mm_copies_0_5_1 {x : kX} {l0 : Launch} {Q : State → Prop} (C : kCx x prog_14_method_7_code "PoetFinesModel" none kcl yM 4 l0 R0_mm_copies_0_5_1) (σ : kM) {out : kM} (h : mm_copies_0_5_1 σ = some out) (hR : ∀ (τ : kM), out = τ → Q = kQ x none τ 0 0) : KW x 0 0 Q σ 0 [some (kr 0), some (kr 5), some (kr 1), none] [] := by
  unfold mm_copies_0_5_1 at h
  refine kw_iconst C (kdec dc_M_copies 0 rfl) 1 rfl rfl ⟨by decide, by decide⟩ ?_
  refine kw_istore_n (L' := [some (kr 0), some (kr 5), some (kr 1), some (ki 0)]) C (kdec dc_M_copies 1 rfl) rfl 2 rfl (by decide) rfl rfl ?_
  obtain ⟨ex_5, hl_6, h⟩ := kbind_h h
  refine kw_sub (L' := [none, some (kr 5), some (kr 1), some (ki 0)]) ⟨rfl, rfl, rfl, trivial⟩ (lp_mm_copies_0_5_1_l2 C ?_ kFuel σ 0 hl_6)
  · intro σ_7 e
    subst ex_5
    try dsimp only at h
    obtain rfl := Option.some.inj h
    exact kw_Q (hR _ rfl) (kw_return C (kdec dc_M_copies 14 rfl))
theorem mt_mm_copies_0_5_1 (l0 : Launch) {σ : kM} {τ : kM} (h : mm_copies_0_5_1 σ = some τ) : kMet l0 ky_M_copies prog_14_method_7_code 4 none R0_mm_copies_0_5_1 kcl yM σ [kr 0, kr 5, kr 1] none τ := kMet.of' [some (kr 0), some (kr 5), some (kr 1), none] (by decide) (Nat.le_of_ble_eq_true rfl) ⟨rfl, rfl, rfl, trivial⟩ (fun x C => bd_mm_copies_0_5_1 C σ h (fun τ e => by subst e; rfl))
def R0_mm_state : Room := ({ frames := 7, cells := 0, slots := 0, locals := 158 } : Room)
def mm_state_l89 (σ : kM) (x2 : Int) : Option ((kM × Int) ⊕ ((kM))) :=
  if 145 ≤ x2 then
    some (Sum.inr σ)
  else
    kchk (0 ≤ x2 ∧ x2 < 145) <|
    klet (kst σ 4 (kup (σ 4) x2.toNat 0)) fun σ_16 =>
    klet (w32 (x2 + 1)) fun x2_17 =>
    some (Sum.inl (σ_16, x2_17))
set_option maxHeartbeats 4000000 in
theorem bd_mm_state_l89 {x : kX} {l0 : Launch} {Q : State → Prop} (C : kCx x prog_14_method_39_code "PoetFinesModel" (some .int) kcl yM 3 l0 R0_mm_state) (σ : kM) (x2 : Int) {out : (kM × Int) ⊕ ((kM))} (h : mm_state_l89 σ x2 = some out) (hC : ∀ (σ' : kM) (x2' : Int), out = Sum.inl (σ', x2') → KW x 0 0 Q σ' 89 [some (kr 0), none, some (ki x2')] []) (hX109 : ∀ (σ' : kM), out = Sum.inr σ' → KW x 0 0 Q σ' 109 [some (kr 0), none, none] []) : KW x 0 0 Q σ 89 [some (kr 0), none, some (ki x2)] [] := by
  unfold mm_state_l89 at h
  refine kw_iload_n C (kdec dc_M_state 53 rfl) rfl 90 rfl rfl ?_
  refine kw_sipush (v := 145) C (kdec dc_M_state 54 rfl) 93 rfl (by decide) ⟨by decide, by decide⟩ ?_
  refine kw_icmp_ge C (kdec dc_M_state 55 rfl) 109 96 (by decide) rfl (fun hc93 => ?_) (fun hc93 => ?_)
  · rw [if_pos hc93] at h
    obtain rfl := Option.some.inj h
    exact kw_sub (L' := [some (kr 0), none, none]) ⟨rfl, trivial⟩ (hX109 _ rfl)
  · rw [if_neg hc93] at h
    refine kw_aload_n C (kdec dc_M_state 56 rfl) rfl 97 rfl rfl ?_
    refine kw_getR C (kdec dc_M_state 57 rfl) 100 rfl fd_M_M_35_0 ?_
    refine kw_iload_n C (kdec dc_M_state 58 rfl) rfl 101 rfl rfl ?_
    refine kw_iconst C (kdec dc_M_state 59 rfl) 102 rfl rfl ⟨by decide, by decide⟩ ?_
    obtain ⟨hc_15, h⟩ := kchk_h h
    obtain ⟨σ_16, eσ_16, h⟩ := klet_h h
    refine kw_iast C (kdec dc_M_state 60 rfl) 103 rfl rfl hc_15.1 hc_15.2 ?_
    refine kw_sig eσ_16 ?_
    obtain ⟨x2_17, ex2_17, h⟩ := klet_h h
    refine kw_iinc (L' := [some (kr 0), none, some (ki x2_17)]) C (kdec dc_M_state 61 rfl) 106 rfl rfl (by decide) rfl (by rw [ex2_17]; rfl) ?_
    refine kw_goto C (kdec dc_M_state 62 rfl) 89 (by decide) ?_
    obtain rfl := Option.some.inj h
    exact (hC _ _ rfl)
theorem lp_mm_state_l89 {x : kX} {l0 : Launch} {Q : State → Prop} (C : kCx x prog_14_method_39_code "PoetFinesModel" (some .int) kcl yM 3 l0 R0_mm_state) {ex : (kM)} (hX109 : ∀ (σ' : kM), ex = σ' → KW x 0 0 Q σ' 109 [some (kr 0), none, none] []) (n : Nat) (σ : kM) (x2 : Int) (h : kloop (fun st => mm_state_l89 st.1 st.2) n (σ, x2) = some ex) : KW x 0 0 Q σ 89 [some (kr 0), none, some (ki x2)] [] :=
  kloop_ind (P := (fun st : kM × Int => KW x 0 0 Q st.1 89 [some (kr 0), none, some (ki (st.2))] [])) (fun st out hb hc hx => bd_mm_state_l89 C st.1 st.2 hb (fun a0 a1 e => hc _ e) (fun a0 e => hX109 _ ((hx _ e).symm))) n (σ, x2) h
def mm_state_l151 (σ : kM) : Option ((kM) ⊕ ((kM))) :=
  (mm_isGood σ).bind fun r_24 =>
  if r_24 = 0 then
    some (Sum.inr σ)
  else
    if (σ 0 15) = 0 then
      some (Sum.inr σ)
    else
      (mm_clause σ).bind fun σ_25 =>
      some (Sum.inl σ_25)
set_option maxHeartbeats 4000000 in
theorem bd_mm_state_l151 {x : kX} {l0 : Launch} {Q : State → Prop} (C : kCx x prog_14_method_39_code "PoetFinesModel" (some .int) kcl yM 3 l0 R0_mm_state) (σ : kM) {out : (kM) ⊕ ((kM))} (h : mm_state_l151 σ = some out) (hC : ∀ (σ' : kM), out = Sum.inl σ' → KW x 0 0 Q σ' 151 [some (kr 0), none, none] []) (hX172 : ∀ (σ' : kM), out = Sum.inr σ' → KW x 0 0 Q σ' 172 [some (kr 0), none, none] []) : KW x 0 0 Q σ 151 [some (kr 0), none, none] [] := by
  unfold mm_state_l151 at h
  refine kw_aload_n C (kdec dc_M_state 85 rfl) rfl 152 rfl rfl ?_
  obtain ⟨r_24, hg_27, h⟩ := kbind_h h
  refine kw_callV (As := []) C (kdec dc_M_state 86 rfl) 155 rfl cv_M_158 rfl rfl (mt_mm_isGood l0 hg_27) ⟨rfl, rfl⟩ ⟨Nat.le_of_ble_eq_true rfl, Nat.le_of_ble_eq_true rfl⟩ ⟨Nat.zero_le _, Nat.zero_le _⟩ rfl (Nat.le_of_ble_eq_true rfl) ?_
  change KW x 0 0 Q σ 155 [some (kr 0), none, none] [ki r_24]
  refine kw_if_eq C (kdec dc_M_state 87 rfl) 172 158 (by decide) rfl (fun hc155 => ?_) (fun hc155 => ?_)
  · rw [if_pos hc155] at h
    obtain rfl := Option.some.inj h
    exact (hX172 _ rfl)
  · rw [if_neg hc155] at h
    refine kw_aload_n C (kdec dc_M_state 88 rfl) rfl 159 rfl rfl ?_
    refine kw_getI C (kdec dc_M_state 89 rfl) 162 rfl fd_M_M_132_0 ?_
    refine kw_if_eq C (kdec dc_M_state 90 rfl) 172 165 (by decide) rfl (fun hc162 => ?_) (fun hc162 => ?_)
    · rw [if_pos hc162] at h
      obtain rfl := Option.some.inj h
      exact (hX172 _ rfl)
    · rw [if_neg hc162] at h
      refine kw_aload_n C (kdec dc_M_state 91 rfl) rfl 166 rfl rfl ?_
      obtain ⟨σ_25, hg_26, h⟩ := kbind_h h
      refine kw_callV (As := []) C (kdec dc_M_state 92 rfl) 169 rfl cv_M_267 rfl rfl (mt_mm_clause l0 hg_26) ⟨rfl, rfl⟩ ⟨Nat.le_of_ble_eq_true rfl, Nat.le_of_ble_eq_true rfl⟩ ⟨Nat.zero_le _, Nat.zero_le _⟩ rfl (Nat.le_of_ble_eq_true rfl) ?_
      change KW x 0 0 Q σ_25 169 [some (kr 0), none, none] []
      refine kw_goto C (kdec dc_M_state 93 rfl) 151 (by decide) ?_
      obtain rfl := Option.some.inj h
      exact (hC _ rfl)
theorem lp_mm_state_l151 {x : kX} {l0 : Launch} {Q : State → Prop} (C : kCx x prog_14_method_39_code "PoetFinesModel" (some .int) kcl yM 3 l0 R0_mm_state) {ex : (kM)} (hX172 : ∀ (σ' : kM), ex = σ' → KW x 0 0 Q σ' 172 [some (kr 0), none, none] []) (n : Nat) (σ : kM) (h : kloop (fun st => mm_state_l151 st) n σ = some ex) : KW x 0 0 Q σ 151 [some (kr 0), none, none] [] :=
  kloop_ind (P := (fun st : kM => KW x 0 0 Q st 151 [some (kr 0), none, none] [])) (fun st out hb hc hx => bd_mm_state_l151 C st hb (fun a0 e => hc _ e) (fun a0 e => hX172 _ ((hx _ e).symm))) n σ h
def mm_state_l256 (σ : kM) (x2 : Int) : Option ((kM × Int) ⊕ ((kM))) :=
  if 145 ≤ x2 then
    some (Sum.inr σ)
  else
    kchk (0 ≤ x2 ∧ x2 < 145) <|
    kchk (0 ≤ x2 ∧ x2 < 290) <|
    klet (kst σ 8 (kup (σ 8) x2.toNat (σ 4 x2.toNat))) fun σ_41 =>
    klet (w32 (x2 + 1)) fun x2_42 =>
    some (Sum.inl (σ_41, x2_42))
set_option maxHeartbeats 4000000 in
theorem bd_mm_state_l256 {x : kX} {l0 : Launch} {Q : State → Prop} (C : kCx x prog_14_method_39_code "PoetFinesModel" (some .int) kcl yM 3 l0 R0_mm_state) (σ : kM) (x2 : Int) {out : (kM × Int) ⊕ ((kM))} (h : mm_state_l256 σ x2 = some out) (hC : ∀ (σ' : kM) (x2' : Int), out = Sum.inl (σ', x2') → KW x 0 0 Q σ' 256 [some (kr 0), none, some (ki x2')] []) (hX281 : ∀ (σ' : kM), out = Sum.inr σ' → KW x 0 0 Q σ' 281 [some (kr 0), none, none] []) : KW x 0 0 Q σ 256 [some (kr 0), none, some (ki x2)] [] := by
  unfold mm_state_l256 at h
  refine kw_iload_n C (kdec dc_M_state 140 rfl) rfl 257 rfl rfl ?_
  refine kw_sipush (v := 145) C (kdec dc_M_state 141 rfl) 260 rfl (by decide) ⟨by decide, by decide⟩ ?_
  refine kw_icmp_ge C (kdec dc_M_state 142 rfl) 281 263 (by decide) rfl (fun hc260 => ?_) (fun hc260 => ?_)
  · rw [if_pos hc260] at h
    obtain rfl := Option.some.inj h
    exact kw_sub (L' := [some (kr 0), none, none]) ⟨rfl, trivial⟩ (hX281 _ rfl)
  · rw [if_neg hc260] at h
    refine kw_aload_n C (kdec dc_M_state 143 rfl) rfl 264 rfl rfl ?_
    refine kw_getR C (kdec dc_M_state 144 rfl) 267 rfl fd_M_M_48_0 ?_
    refine kw_iload_n C (kdec dc_M_state 145 rfl) rfl 268 rfl rfl ?_
    refine kw_aload_n C (kdec dc_M_state 146 rfl) rfl 269 rfl rfl ?_
    refine kw_getR C (kdec dc_M_state 147 rfl) 272 rfl fd_M_M_35_0 ?_
    refine kw_iload_n C (kdec dc_M_state 148 rfl) rfl 273 rfl rfl ?_
    obtain ⟨hc_39, h⟩ := kchk_h h
    refine kw_iald C (kdec dc_M_state 149 rfl) 274 rfl rfl hc_39.1 hc_39.2 ?_
    obtain ⟨hc_40, h⟩ := kchk_h h
    obtain ⟨σ_41, eσ_41, h⟩ := klet_h h
    refine kw_iast C (kdec dc_M_state 150 rfl) 275 rfl rfl hc_40.1 hc_40.2 ?_
    refine kw_sig eσ_41 ?_
    obtain ⟨x2_42, ex2_42, h⟩ := klet_h h
    refine kw_iinc (L' := [some (kr 0), none, some (ki x2_42)]) C (kdec dc_M_state 151 rfl) 278 rfl rfl (by decide) rfl (by rw [ex2_42]; rfl) ?_
    refine kw_goto C (kdec dc_M_state 152 rfl) 256 (by decide) ?_
    obtain rfl := Option.some.inj h
    exact (hC _ _ rfl)
theorem lp_mm_state_l256 {x : kX} {l0 : Launch} {Q : State → Prop} (C : kCx x prog_14_method_39_code "PoetFinesModel" (some .int) kcl yM 3 l0 R0_mm_state) {ex : (kM)} (hX281 : ∀ (σ' : kM), ex = σ' → KW x 0 0 Q σ' 281 [some (kr 0), none, none] []) (n : Nat) (σ : kM) (x2 : Int) (h : kloop (fun st => mm_state_l256 st.1 st.2) n (σ, x2) = some ex) : KW x 0 0 Q σ 256 [some (kr 0), none, some (ki x2)] [] :=
  kloop_ind (P := (fun st : kM × Int => KW x 0 0 Q st.1 256 [some (kr 0), none, some (ki (st.2))] [])) (fun st out hb hc hx => bd_mm_state_l256 C st.1 st.2 hb (fun a0 a1 e => hc _ e) (fun a0 e => hX281 _ ((hx _ e).symm))) n (σ, x2) h
def mm_state_j23 (σ : kM) (x1 : Int) (s0 : Int) : Option (Int × kM) :=
  (mm_right σ s0 1).bind fun (r_2, σ_3) =>
  if r_2 = 0 then
    some ((0, σ_3))
  else
    klet (kst σ_3 0 (kup (σ_3 0) 9 0)) fun σ_4 =>
    klet (kst σ_4 0 (kup (σ_4 0) 11 ((-1)))) fun σ_5 =>
    klet (kst σ_5 0 (kup (σ_5 0) 10 0)) fun σ_6 =>
    klet (kst σ_6 0 (kup (σ_6 0) 13 x1)) fun σ_7 =>
    klet (kst σ_7 0 (kup (σ_7 0) 14 0)) fun σ_8 =>
    klet (kst σ_8 0 (kup (σ_8 0) 21 3)) fun σ_9 =>
    klet (kst σ_9 0 (kup (σ_9 0) 22 0)) fun σ_10 =>
    klet (kst σ_10 0 (kup (σ_10 0) 23 0)) fun σ_11 =>
    klet (kst σ_11 0 (kup (σ_11 0) 24 ((-1)))) fun σ_12 =>
    klet (kst σ_12 0 (kup (σ_12 0) 25 ((-1)))) fun σ_13 =>
    klet (kst σ_13 0 (kup (σ_13 0) 26 ((-1)))) fun σ_14 =>
    (kloop (fun st => mm_state_l89 st.1 st.2) kFuel (σ_14, 0)).bind fun σ_20 =>
    klet (kst σ_20 0 (kup (σ_20 0) 27 0)) fun σ_21 =>
    (mm_goes σ_21).bind fun σ_22 =>
    (mm_knownWord σ_22).bind fun r_23 =>
    if r_23 = 8 then
      (mm_goes σ_22).bind fun σ_52 =>
      (mm_number σ_52 2 4).bind fun (r_53, σ_54) =>
      klet (kst σ_54 0 (kup (σ_54 0) 21 r_53)) fun σ_55 =>
      (mm_isSign σ_55 59).bind fun r_56 =>
      (mm_need σ_55 r_56).bind fun σ_57 =>
      (kloop (fun st => mm_state_l151 st) kFuel σ_57).bind fun σ_60 =>
      (mm_isGood σ_60).bind fun r_61 =>
      if r_61 = 0 then
        klet (kst σ_60 3 (kup (σ_60 3) ((0 : Int).toNat) (w32 ((σ_60 3 (0 : Int).toNat) + 1)))) fun σ_76 =>
        some ((σ_76 0 10, σ_76))
      else
        klet (kst σ_60 0 (kup (σ_60 0) 1 (σ_60 0 21))) fun σ_62 =>
        klet (kst σ_62 0 (kup (σ_62 0) 2 (σ_62 0 22))) fun σ_63 =>
        klet (kst σ_63 0 (kup (σ_63 0) 3 (σ_63 0 23))) fun σ_64 =>
        klet (kst σ_64 0 (kup (σ_64 0) 4 (σ_64 0 24))) fun σ_65 =>
        klet (kst σ_65 0 (kup (σ_65 0) 5 (σ_65 0 25))) fun σ_66 =>
        klet (kst σ_66 0 (kup (σ_66 0) 6 (σ_66 0 26))) fun σ_67 =>
        (mm_copies_0_5_1 σ_67).bind fun σ_68 =>
        (kloop (fun st => mm_state_l256 st.1 st.2) kFuel (σ_68, 0)).bind fun σ_71 =>
        klet (kst σ_71 0 (kup (σ_71 0) 38 0)) fun σ_72 =>
        klet (kst σ_72 0 (kup (σ_72 0) 53 0)) fun σ_73 =>
        klet (kst σ_73 0 (kup (σ_73 0) 58 0)) fun σ_74 =>
        some ((0, σ_74))
    else
      (kloop (fun st => mm_state_l151 st) kFuel σ_22).bind fun σ_30 =>
      (mm_isGood σ_30).bind fun r_31 =>
      if r_31 = 0 then
        klet (kst σ_30 3 (kup (σ_30 3) ((0 : Int).toNat) (w32 ((σ_30 3 (0 : Int).toNat) + 1)))) fun σ_50 =>
        some ((σ_50 0 10, σ_50))
      else
        klet (kst σ_30 0 (kup (σ_30 0) 1 (σ_30 0 21))) fun σ_32 =>
        klet (kst σ_32 0 (kup (σ_32 0) 2 (σ_32 0 22))) fun σ_33 =>
        klet (kst σ_33 0 (kup (σ_33 0) 3 (σ_33 0 23))) fun σ_34 =>
        klet (kst σ_34 0 (kup (σ_34 0) 4 (σ_34 0 24))) fun σ_35 =>
        klet (kst σ_35 0 (kup (σ_35 0) 5 (σ_35 0 25))) fun σ_36 =>
        klet (kst σ_36 0 (kup (σ_36 0) 6 (σ_36 0 26))) fun σ_37 =>
        (mm_copies_0_5_1 σ_37).bind fun σ_38 =>
        (kloop (fun st => mm_state_l256 st.1 st.2) kFuel (σ_38, 0)).bind fun σ_45 =>
        klet (kst σ_45 0 (kup (σ_45 0) 38 0)) fun σ_46 =>
        klet (kst σ_46 0 (kup (σ_46 0) 53 0)) fun σ_47 =>
        klet (kst σ_47 0 (kup (σ_47 0) 58 0)) fun σ_48 =>
        some ((0, σ_48))
set_option maxHeartbeats 4000000 in
theorem bd_mm_state_j23 {x : kX} {l0 : Launch} {Q : State → Prop} (C : kCx x prog_14_method_39_code "PoetFinesModel" (some .int) kcl yM 3 l0 R0_mm_state) (σ : kM) (x1 : Int) (s0 : Int) {out : Int × kM} (h : mm_state_j23 σ x1 s0 = some out) (hR : ∀ (r : Int) (τ : kM), out = (r, τ) → Q = kQ x (some (ki r)) τ 0 0) : KW x 0 0 Q σ 23 [some (kr 0), some (ki x1), none] [ki s0, kr 0] := by
  unfold mm_state_j23 at h
  refine kw_iconst C (kdec dc_M_state 13 rfl) 24 rfl rfl ⟨by decide, by decide⟩ ?_
  obtain ⟨⟨r_2, σ_3⟩, hg_84, h⟩ := kbind_h h
  dsimp only at h
  refine kw_callV (As := [ki s0, ki 1]) C (kdec dc_M_state 14 rfl) 27 rfl cv_M_263 rfl rfl (mt_mm_right l0 hg_84) ⟨rfl, rfl⟩ ⟨Nat.le_of_ble_eq_true rfl, Nat.le_of_ble_eq_true rfl⟩ ⟨Nat.zero_le _, Nat.zero_le _⟩ rfl (Nat.le_of_ble_eq_true rfl) ?_
  change KW x 0 0 Q σ_3 27 [some (kr 0), some (ki x1), none] [ki r_2]
  refine kw_if_ne C (kdec dc_M_state 15 rfl) 32 30 (by decide) rfl (fun hc27 => ?_) (fun hc27 => ?_)
  · rw [if_neg hc27] at h
    refine kw_aload_n C (kdec dc_M_state 18 rfl) rfl 33 rfl rfl ?_
    refine kw_iconst C (kdec dc_M_state 19 rfl) 34 rfl rfl ⟨by decide, by decide⟩ ?_
    obtain ⟨σ_4, eσ_4, h⟩ := klet_h h
    refine kw_putI C (kdec dc_M_state 20 rfl) 37 rfl fp_M_M_102_0 ?_
    refine kw_sig eσ_4 ?_
    refine kw_aload_n C (kdec dc_M_state 21 rfl) rfl 38 rfl rfl ?_
    refine kw_iconst C (kdec dc_M_state 22 rfl) 39 rfl rfl ⟨by decide, by decide⟩ ?_
    obtain ⟨σ_5, eσ_5, h⟩ := klet_h h
    refine kw_putI C (kdec dc_M_state 23 rfl) 42 rfl fp_M_M_29_0 ?_
    refine kw_sig eσ_5 ?_
    refine kw_aload_n C (kdec dc_M_state 24 rfl) rfl 43 rfl rfl ?_
    refine kw_iconst C (kdec dc_M_state 25 rfl) 44 rfl rfl ⟨by decide, by decide⟩ ?_
    obtain ⟨σ_6, eσ_6, h⟩ := klet_h h
    refine kw_putI C (kdec dc_M_state 26 rfl) 47 rfl fp_M_M_155_0 ?_
    refine kw_sig eσ_6 ?_
    refine kw_aload_n C (kdec dc_M_state 27 rfl) rfl 48 rfl rfl ?_
    refine kw_iload_n C (kdec dc_M_state 28 rfl) rfl 49 rfl rfl ?_
    obtain ⟨σ_7, eσ_7, h⟩ := klet_h h
    refine kw_putI C (kdec dc_M_state 29 rfl) 52 rfl fp_M_M_109_0 ?_
    refine kw_sig eσ_7 ?_
    refine kw_aload_n C (kdec dc_M_state 30 rfl) rfl 53 rfl rfl ?_
    refine kw_iconst C (kdec dc_M_state 31 rfl) 54 rfl rfl ⟨by decide, by decide⟩ ?_
    obtain ⟨σ_8, eσ_8, h⟩ := klet_h h
    refine kw_putI C (kdec dc_M_state 32 rfl) 57 rfl fp_M_M_112_0 ?_
    refine kw_sig eσ_8 ?_
    refine kw_aload_n C (kdec dc_M_state 33 rfl) rfl 58 rfl rfl ?_
    refine kw_iconst C (kdec dc_M_state 34 rfl) 59 rfl rfl ⟨by decide, by decide⟩ ?_
    obtain ⟨σ_9, eσ_9, h⟩ := klet_h h
    refine kw_putI C (kdec dc_M_state 35 rfl) 62 rfl fp_M_M_168_0 ?_
    refine kw_sig eσ_9 ?_
    refine kw_aload_n C (kdec dc_M_state 36 rfl) rfl 63 rfl rfl ?_
    refine kw_iconst C (kdec dc_M_state 37 rfl) 64 rfl rfl ⟨by decide, by decide⟩ ?_
    obtain ⟨σ_10, eσ_10, h⟩ := klet_h h
    refine kw_putI C (kdec dc_M_state 38 rfl) 67 rfl fp_M_M_224_0 ?_
    refine kw_sig eσ_10 ?_
    refine kw_aload_n C (kdec dc_M_state 39 rfl) rfl 68 rfl rfl ?_
    refine kw_iconst C (kdec dc_M_state 40 rfl) 69 rfl rfl ⟨by decide, by decide⟩ ?_
    obtain ⟨σ_11, eσ_11, h⟩ := klet_h h
    refine kw_putI C (kdec dc_M_state 41 rfl) 72 rfl fp_M_M_231_0 ?_
    refine kw_sig eσ_11 ?_
    refine kw_aload_n C (kdec dc_M_state 42 rfl) rfl 73 rfl rfl ?_
    refine kw_iconst C (kdec dc_M_state 43 rfl) 74 rfl rfl ⟨by decide, by decide⟩ ?_
    obtain ⟨σ_12, eσ_12, h⟩ := klet_h h
    refine kw_putI C (kdec dc_M_state 44 rfl) 77 rfl fp_M_M_247_0 ?_
    refine kw_sig eσ_12 ?_
    refine kw_aload_n C (kdec dc_M_state 45 rfl) rfl 78 rfl rfl ?_
    refine kw_iconst C (kdec dc_M_state 46 rfl) 79 rfl rfl ⟨by decide, by decide⟩ ?_
    obtain ⟨σ_13, eσ_13, h⟩ := klet_h h
    refine kw_putI C (kdec dc_M_state 47 rfl) 82 rfl fp_M_M_254_0 ?_
    refine kw_sig eσ_13 ?_
    refine kw_aload_n C (kdec dc_M_state 48 rfl) rfl 83 rfl rfl ?_
    refine kw_iconst C (kdec dc_M_state 49 rfl) 84 rfl rfl ⟨by decide, by decide⟩ ?_
    obtain ⟨σ_14, eσ_14, h⟩ := klet_h h
    refine kw_putI C (kdec dc_M_state 50 rfl) 87 rfl fp_M_M_257_0 ?_
    refine kw_sig eσ_14 ?_
    refine kw_iconst C (kdec dc_M_state 51 rfl) 88 rfl rfl ⟨by decide, by decide⟩ ?_
    refine kw_istore_n (L' := [some (kr 0), some (ki x1), some (ki 0)]) C (kdec dc_M_state 52 rfl) rfl 89 rfl (by decide) rfl rfl ?_
    obtain ⟨ex_18, hl_19, h⟩ := kbind_h h
    refine kw_sub (L' := [some (kr 0), none, some (ki 0)]) ⟨rfl, rfl, trivial⟩ (lp_mm_state_l89 C ?_ kFuel σ_14 0 hl_19)
    · intro σ_20 e
      subst ex_18
      try dsimp only at h
      refine kw_aload_n C (kdec dc_M_state 63 rfl) rfl 110 rfl rfl ?_
      refine kw_iconst C (kdec dc_M_state 64 rfl) 111 rfl rfl ⟨by decide, by decide⟩ ?_
      obtain ⟨σ_21, eσ_21, h⟩ := klet_h h
      refine kw_putI C (kdec dc_M_state 65 rfl) 114 rfl fp_M_M_171_0 ?_
      refine kw_sig eσ_21 ?_
      refine kw_aload_n C (kdec dc_M_state 66 rfl) rfl 115 rfl rfl ?_
      obtain ⟨σ_22, hg_83, h⟩ := kbind_h h
      refine kw_callV (As := []) C (kdec dc_M_state 67 rfl) 118 rfl cv_M_162 rfl rfl (mt_mm_goes l0 hg_83) ⟨rfl, rfl⟩ ⟨Nat.le_of_ble_eq_true rfl, Nat.le_of_ble_eq_true rfl⟩ ⟨Nat.zero_le _, Nat.zero_le _⟩ rfl (Nat.le_of_ble_eq_true rfl) ?_
      change KW x 0 0 Q σ_22 118 [some (kr 0), none, none] []
      refine kw_aload_n C (kdec dc_M_state 68 rfl) rfl 119 rfl rfl ?_
      obtain ⟨r_23, hg_82, h⟩ := kbind_h h
      refine kw_callV (As := []) C (kdec dc_M_state 69 rfl) 122 rfl cv_M_186 rfl rfl (mt_mm_knownWord l0 hg_82) ⟨rfl, rfl⟩ ⟨Nat.le_of_ble_eq_true rfl, Nat.le_of_ble_eq_true rfl⟩ ⟨Nat.zero_le _, Nat.zero_le _⟩ rfl (Nat.le_of_ble_eq_true rfl) ?_
      change KW x 0 0 Q σ_22 122 [some (kr 0), none, none] [ki r_23]
      refine kw_bipush (v := 8) C (kdec dc_M_state 70 rfl) 124 rfl (by decide) ⟨by decide, by decide⟩ ?_
      refine kw_icmp_ne C (kdec dc_M_state 71 rfl) 151 127 (by decide) rfl (fun hc124 => ?_) (fun hc124 => ?_)
      · rw [if_neg hc124] at h
        obtain ⟨ex_28, hl_29, h⟩ := kbind_h h
        refine lp_mm_state_l151 C ?_ kFuel σ_22 hl_29
        · intro σ_30 e
          subst ex_28
          try dsimp only at h
          refine kw_aload_n C (kdec dc_M_state 94 rfl) rfl 173 rfl rfl ?_
          obtain ⟨r_31, hg_51, h⟩ := kbind_h h
          refine kw_callV (As := []) C (kdec dc_M_state 95 rfl) 176 rfl cv_M_158 rfl rfl (mt_mm_isGood l0 hg_51) ⟨rfl, rfl⟩ ⟨Nat.le_of_ble_eq_true rfl, Nat.le_of_ble_eq_true rfl⟩ ⟨Nat.zero_le _, Nat.zero_le _⟩ rfl (Nat.le_of_ble_eq_true rfl) ?_
          change KW x 0 0 Q σ_30 176 [some (kr 0), none, none] [ki r_31]
          refine kw_if_ne C (kdec dc_M_state 96 rfl) 194 179 (by decide) rfl (fun hc176 => ?_) (fun hc176 => ?_)
          · rw [if_neg hc176] at h
            refine kw_aload_n C (kdec dc_M_state 108 rfl) rfl 195 rfl rfl ?_
            refine kw_aload_n C (kdec dc_M_state 109 rfl) rfl 196 rfl rfl ?_
            refine kw_getI C (kdec dc_M_state 110 rfl) 199 rfl fd_M_M_168_0 ?_
            obtain ⟨σ_32, eσ_32, h⟩ := klet_h h
            refine kw_putI C (kdec dc_M_state 111 rfl) 202 rfl fp_M_M_7_0 ?_
            refine kw_sig eσ_32 ?_
            refine kw_aload_n C (kdec dc_M_state 112 rfl) rfl 203 rfl rfl ?_
            refine kw_aload_n C (kdec dc_M_state 113 rfl) rfl 204 rfl rfl ?_
            refine kw_getI C (kdec dc_M_state 114 rfl) 207 rfl fd_M_M_224_0 ?_
            obtain ⟨σ_33, eσ_33, h⟩ := klet_h h
            refine kw_putI C (kdec dc_M_state 115 rfl) 210 rfl fp_M_M_270_0 ?_
            refine kw_sig eσ_33 ?_
            refine kw_aload_n C (kdec dc_M_state 116 rfl) rfl 211 rfl rfl ?_
            refine kw_aload_n C (kdec dc_M_state 117 rfl) rfl 212 rfl rfl ?_
            refine kw_getI C (kdec dc_M_state 118 rfl) 215 rfl fd_M_M_231_0 ?_
            obtain ⟨σ_34, eσ_34, h⟩ := klet_h h
            refine kw_putI C (kdec dc_M_state 119 rfl) 218 rfl fp_M_M_273_0 ?_
            refine kw_sig eσ_34 ?_
            refine kw_aload_n C (kdec dc_M_state 120 rfl) rfl 219 rfl rfl ?_
            refine kw_aload_n C (kdec dc_M_state 121 rfl) rfl 220 rfl rfl ?_
            refine kw_getI C (kdec dc_M_state 122 rfl) 223 rfl fd_M_M_247_0 ?_
            obtain ⟨σ_35, eσ_35, h⟩ := klet_h h
            refine kw_putI C (kdec dc_M_state 123 rfl) 226 rfl fp_M_M_13_0 ?_
            refine kw_sig eσ_35 ?_
            refine kw_aload_n C (kdec dc_M_state 124 rfl) rfl 227 rfl rfl ?_
            refine kw_aload_n C (kdec dc_M_state 125 rfl) rfl 228 rfl rfl ?_
            refine kw_getI C (kdec dc_M_state 126 rfl) 231 rfl fd_M_M_254_0 ?_
            obtain ⟨σ_36, eσ_36, h⟩ := klet_h h
            refine kw_putI C (kdec dc_M_state 127 rfl) 234 rfl fp_M_M_16_0 ?_
            refine kw_sig eσ_36 ?_
            refine kw_aload_n C (kdec dc_M_state 128 rfl) rfl 235 rfl rfl ?_
            refine kw_aload_n C (kdec dc_M_state 129 rfl) rfl 236 rfl rfl ?_
            refine kw_getI C (kdec dc_M_state 130 rfl) 239 rfl fd_M_M_257_0 ?_
            obtain ⟨σ_37, eσ_37, h⟩ := klet_h h
            refine kw_putI C (kdec dc_M_state 131 rfl) 242 rfl fp_M_M_19_0 ?_
            refine kw_sig eσ_37 ?_
            refine kw_aload_n C (kdec dc_M_state 132 rfl) rfl 243 rfl rfl ?_
            refine kw_aload_n C (kdec dc_M_state 133 rfl) rfl 244 rfl rfl ?_
            refine kw_getR C (kdec dc_M_state 134 rfl) 247 rfl fd_M_M_38_0 ?_
            refine kw_aload_n C (kdec dc_M_state 135 rfl) rfl 248 rfl rfl ?_
            refine kw_getR C (kdec dc_M_state 136 rfl) 251 rfl fd_M_M_22_0 ?_
            obtain ⟨σ_38, hg_49, h⟩ := kbind_h h
            refine kw_callV (As := [kr 5, kr 1]) C (kdec dc_M_state 137 rfl) 254 rfl cv_M_276 rfl rfl (mt_mm_copies_0_5_1 l0 hg_49) ⟨rfl, rfl⟩ ⟨Nat.le_of_ble_eq_true rfl, Nat.le_of_ble_eq_true rfl⟩ ⟨Nat.zero_le _, Nat.zero_le _⟩ rfl (Nat.le_of_ble_eq_true rfl) ?_
            change KW x 0 0 Q σ_38 254 [some (kr 0), none, none] []
            refine kw_iconst C (kdec dc_M_state 138 rfl) 255 rfl rfl ⟨by decide, by decide⟩ ?_
            refine kw_istore_n (L' := [some (kr 0), none, some (ki 0)]) C (kdec dc_M_state 139 rfl) rfl 256 rfl (by decide) rfl rfl ?_
            obtain ⟨ex_43, hl_44, h⟩ := kbind_h h
            refine lp_mm_state_l256 C ?_ kFuel σ_38 0 hl_44
            · intro σ_45 e
              subst ex_43
              try dsimp only at h
              refine kw_aload_n C (kdec dc_M_state 153 rfl) rfl 282 rfl rfl ?_
              refine kw_iconst C (kdec dc_M_state 154 rfl) 283 rfl rfl ⟨by decide, by decide⟩ ?_
              obtain ⟨σ_46, eσ_46, h⟩ := klet_h h
              refine kw_putI C (kdec dc_M_state 155 rfl) 286 rfl fp_M_M_280_0 ?_
              refine kw_sig eσ_46 ?_
              refine kw_aload_n C (kdec dc_M_state 156 rfl) rfl 287 rfl rfl ?_
              refine kw_iconst C (kdec dc_M_state 157 rfl) 288 rfl rfl ⟨by decide, by decide⟩ ?_
              obtain ⟨σ_47, eσ_47, h⟩ := klet_h h
              refine kw_putI C (kdec dc_M_state 158 rfl) 291 rfl fp_M_M_283_0 ?_
              refine kw_sig eσ_47 ?_
              refine kw_aload_n C (kdec dc_M_state 159 rfl) rfl 292 rfl rfl ?_
              refine kw_iconst C (kdec dc_M_state 160 rfl) 293 rfl rfl ⟨by decide, by decide⟩ ?_
              obtain ⟨σ_48, eσ_48, h⟩ := klet_h h
              refine kw_putZ C (kdec dc_M_state 161 rfl) 296 rfl fp_M_M_286_0 (by decide) ?_
              refine kw_sig eσ_48 ?_
              refine kw_iconst C (kdec dc_M_state 162 rfl) 297 rfl rfl ⟨by decide, by decide⟩ ?_
              obtain rfl := Option.some.inj h
              exact kw_Q (hR _ _ rfl) (kw_ireturn C (kdec dc_M_state 163 rfl))
          · rw [if_pos hc176] at h
            refine kw_aload_n C (kdec dc_M_state 97 rfl) rfl 180 rfl rfl ?_
            refine kw_getR C (kdec dc_M_state 98 rfl) 183 rfl fd_M_M_32_0 ?_
            refine kw_iconst C (kdec dc_M_state 99 rfl) 184 rfl rfl ⟨by decide, by decide⟩ ?_
            refine kw_dup2 C (kdec dc_M_state 100 rfl) 185 rfl rfl rfl ?_
            refine kw_iald C (kdec dc_M_state 101 rfl) 186 rfl rfl (by decide) (by decide) ?_
            refine kw_iconst C (kdec dc_M_state 102 rfl) 187 rfl rfl ⟨by decide, by decide⟩ ?_
            refine kw_iadd C (kdec dc_M_state 103 rfl) 188 rfl ?_
            obtain ⟨σ_50, eσ_50, h⟩ := klet_h h
            refine kw_iast C (kdec dc_M_state 104 rfl) 189 rfl rfl (by decide) (by decide) ?_
            refine kw_sig eσ_50 ?_
            refine kw_aload_n C (kdec dc_M_state 105 rfl) rfl 190 rfl rfl ?_
            refine kw_getI C (kdec dc_M_state 106 rfl) 193 rfl fd_M_M_155_0 ?_
            obtain rfl := Option.some.inj h
            exact kw_Q (hR _ _ rfl) (kw_ireturn C (kdec dc_M_state 107 rfl))
      · rw [if_pos hc124] at h
        refine kw_aload_n C (kdec dc_M_state 72 rfl) rfl 128 rfl rfl ?_
        obtain ⟨σ_52, hg_81, h⟩ := kbind_h h
        refine kw_callV (As := []) C (kdec dc_M_state 73 rfl) 131 rfl cv_M_162 rfl rfl (mt_mm_goes l0 hg_81) ⟨rfl, rfl⟩ ⟨Nat.le_of_ble_eq_true rfl, Nat.le_of_ble_eq_true rfl⟩ ⟨Nat.zero_le _, Nat.zero_le _⟩ rfl (Nat.le_of_ble_eq_true rfl) ?_
        change KW x 0 0 Q σ_52 131 [some (kr 0), none, none] []
        refine kw_aload_n C (kdec dc_M_state 74 rfl) rfl 132 rfl rfl ?_
        refine kw_aload_n C (kdec dc_M_state 75 rfl) rfl 133 rfl rfl ?_
        refine kw_iconst C (kdec dc_M_state 76 rfl) 134 rfl rfl ⟨by decide, by decide⟩ ?_
        refine kw_iconst C (kdec dc_M_state 77 rfl) 135 rfl rfl ⟨by decide, by decide⟩ ?_
        obtain ⟨⟨r_53, σ_54⟩, hg_80, h⟩ := kbind_h h
        dsimp only at h
        refine kw_callV (As := [ki 2, ki 4]) C (kdec dc_M_state 78 rfl) 138 rfl cv_M_227 rfl rfl (mt_mm_number l0 hg_80) ⟨rfl, rfl⟩ ⟨Nat.le_of_ble_eq_true rfl, Nat.le_of_ble_eq_true rfl⟩ ⟨Nat.zero_le _, Nat.zero_le _⟩ rfl (Nat.le_of_ble_eq_true rfl) ?_
        change KW x 0 0 Q σ_54 138 [some (kr 0), none, none] [ki r_53, kr 0]
        obtain ⟨σ_55, eσ_55, h⟩ := klet_h h
        refine kw_putI C (kdec dc_M_state 79 rfl) 141 rfl fp_M_M_168_0 ?_
        refine kw_sig eσ_55 ?_
        refine kw_aload_n C (kdec dc_M_state 80 rfl) rfl 142 rfl rfl ?_
        refine kw_aload_n C (kdec dc_M_state 81 rfl) rfl 143 rfl rfl ?_
        refine kw_bipush (v := 59) C (kdec dc_M_state 82 rfl) 145 rfl (by decide) ⟨by decide, by decide⟩ ?_
        obtain ⟨r_56, hg_79, h⟩ := kbind_h h
        refine kw_callV (As := [ki 59]) C (kdec dc_M_state 83 rfl) 148 rfl cv_M_199 rfl rfl (mt_mm_isSign l0 hg_79) ⟨rfl, rfl⟩ ⟨Nat.le_of_ble_eq_true rfl, Nat.le_of_ble_eq_true rfl⟩ ⟨Nat.zero_le _, Nat.zero_le _⟩ rfl (Nat.le_of_ble_eq_true rfl) ?_
        change KW x 0 0 Q σ_55 148 [some (kr 0), none, none] [ki r_56, kr 0]
        obtain ⟨σ_57, hg_78, h⟩ := kbind_h h
        refine kw_callV (As := [ki r_56]) C (kdec dc_M_state 84 rfl) 151 rfl cv_M_260 rfl rfl (mt_mm_need l0 hg_78) ⟨rfl, rfl⟩ ⟨Nat.le_of_ble_eq_true rfl, Nat.le_of_ble_eq_true rfl⟩ ⟨Nat.zero_le _, Nat.zero_le _⟩ rfl (Nat.le_of_ble_eq_true rfl) ?_
        change KW x 0 0 Q σ_57 151 [some (kr 0), none, none] []
        obtain ⟨ex_58, hl_59, h⟩ := kbind_h h
        refine lp_mm_state_l151 C ?_ kFuel σ_57 hl_59
        · intro σ_60 e
          subst ex_58
          try dsimp only at h
          refine kw_aload_n C (kdec dc_M_state 94 rfl) rfl 173 rfl rfl ?_
          obtain ⟨r_61, hg_77, h⟩ := kbind_h h
          refine kw_callV (As := []) C (kdec dc_M_state 95 rfl) 176 rfl cv_M_158 rfl rfl (mt_mm_isGood l0 hg_77) ⟨rfl, rfl⟩ ⟨Nat.le_of_ble_eq_true rfl, Nat.le_of_ble_eq_true rfl⟩ ⟨Nat.zero_le _, Nat.zero_le _⟩ rfl (Nat.le_of_ble_eq_true rfl) ?_
          change KW x 0 0 Q σ_60 176 [some (kr 0), none, none] [ki r_61]
          refine kw_if_ne C (kdec dc_M_state 96 rfl) 194 179 (by decide) rfl (fun hc176 => ?_) (fun hc176 => ?_)
          · rw [if_neg hc176] at h
            refine kw_aload_n C (kdec dc_M_state 108 rfl) rfl 195 rfl rfl ?_
            refine kw_aload_n C (kdec dc_M_state 109 rfl) rfl 196 rfl rfl ?_
            refine kw_getI C (kdec dc_M_state 110 rfl) 199 rfl fd_M_M_168_0 ?_
            obtain ⟨σ_62, eσ_62, h⟩ := klet_h h
            refine kw_putI C (kdec dc_M_state 111 rfl) 202 rfl fp_M_M_7_0 ?_
            refine kw_sig eσ_62 ?_
            refine kw_aload_n C (kdec dc_M_state 112 rfl) rfl 203 rfl rfl ?_
            refine kw_aload_n C (kdec dc_M_state 113 rfl) rfl 204 rfl rfl ?_
            refine kw_getI C (kdec dc_M_state 114 rfl) 207 rfl fd_M_M_224_0 ?_
            obtain ⟨σ_63, eσ_63, h⟩ := klet_h h
            refine kw_putI C (kdec dc_M_state 115 rfl) 210 rfl fp_M_M_270_0 ?_
            refine kw_sig eσ_63 ?_
            refine kw_aload_n C (kdec dc_M_state 116 rfl) rfl 211 rfl rfl ?_
            refine kw_aload_n C (kdec dc_M_state 117 rfl) rfl 212 rfl rfl ?_
            refine kw_getI C (kdec dc_M_state 118 rfl) 215 rfl fd_M_M_231_0 ?_
            obtain ⟨σ_64, eσ_64, h⟩ := klet_h h
            refine kw_putI C (kdec dc_M_state 119 rfl) 218 rfl fp_M_M_273_0 ?_
            refine kw_sig eσ_64 ?_
            refine kw_aload_n C (kdec dc_M_state 120 rfl) rfl 219 rfl rfl ?_
            refine kw_aload_n C (kdec dc_M_state 121 rfl) rfl 220 rfl rfl ?_
            refine kw_getI C (kdec dc_M_state 122 rfl) 223 rfl fd_M_M_247_0 ?_
            obtain ⟨σ_65, eσ_65, h⟩ := klet_h h
            refine kw_putI C (kdec dc_M_state 123 rfl) 226 rfl fp_M_M_13_0 ?_
            refine kw_sig eσ_65 ?_
            refine kw_aload_n C (kdec dc_M_state 124 rfl) rfl 227 rfl rfl ?_
            refine kw_aload_n C (kdec dc_M_state 125 rfl) rfl 228 rfl rfl ?_
            refine kw_getI C (kdec dc_M_state 126 rfl) 231 rfl fd_M_M_254_0 ?_
            obtain ⟨σ_66, eσ_66, h⟩ := klet_h h
            refine kw_putI C (kdec dc_M_state 127 rfl) 234 rfl fp_M_M_16_0 ?_
            refine kw_sig eσ_66 ?_
            refine kw_aload_n C (kdec dc_M_state 128 rfl) rfl 235 rfl rfl ?_
            refine kw_aload_n C (kdec dc_M_state 129 rfl) rfl 236 rfl rfl ?_
            refine kw_getI C (kdec dc_M_state 130 rfl) 239 rfl fd_M_M_257_0 ?_
            obtain ⟨σ_67, eσ_67, h⟩ := klet_h h
            refine kw_putI C (kdec dc_M_state 131 rfl) 242 rfl fp_M_M_19_0 ?_
            refine kw_sig eσ_67 ?_
            refine kw_aload_n C (kdec dc_M_state 132 rfl) rfl 243 rfl rfl ?_
            refine kw_aload_n C (kdec dc_M_state 133 rfl) rfl 244 rfl rfl ?_
            refine kw_getR C (kdec dc_M_state 134 rfl) 247 rfl fd_M_M_38_0 ?_
            refine kw_aload_n C (kdec dc_M_state 135 rfl) rfl 248 rfl rfl ?_
            refine kw_getR C (kdec dc_M_state 136 rfl) 251 rfl fd_M_M_22_0 ?_
            obtain ⟨σ_68, hg_75, h⟩ := kbind_h h
            refine kw_callV (As := [kr 5, kr 1]) C (kdec dc_M_state 137 rfl) 254 rfl cv_M_276 rfl rfl (mt_mm_copies_0_5_1 l0 hg_75) ⟨rfl, rfl⟩ ⟨Nat.le_of_ble_eq_true rfl, Nat.le_of_ble_eq_true rfl⟩ ⟨Nat.zero_le _, Nat.zero_le _⟩ rfl (Nat.le_of_ble_eq_true rfl) ?_
            change KW x 0 0 Q σ_68 254 [some (kr 0), none, none] []
            refine kw_iconst C (kdec dc_M_state 138 rfl) 255 rfl rfl ⟨by decide, by decide⟩ ?_
            refine kw_istore_n (L' := [some (kr 0), none, some (ki 0)]) C (kdec dc_M_state 139 rfl) rfl 256 rfl (by decide) rfl rfl ?_
            obtain ⟨ex_69, hl_70, h⟩ := kbind_h h
            refine lp_mm_state_l256 C ?_ kFuel σ_68 0 hl_70
            · intro σ_71 e
              subst ex_69
              try dsimp only at h
              refine kw_aload_n C (kdec dc_M_state 153 rfl) rfl 282 rfl rfl ?_
              refine kw_iconst C (kdec dc_M_state 154 rfl) 283 rfl rfl ⟨by decide, by decide⟩ ?_
              obtain ⟨σ_72, eσ_72, h⟩ := klet_h h
              refine kw_putI C (kdec dc_M_state 155 rfl) 286 rfl fp_M_M_280_0 ?_
              refine kw_sig eσ_72 ?_
              refine kw_aload_n C (kdec dc_M_state 156 rfl) rfl 287 rfl rfl ?_
              refine kw_iconst C (kdec dc_M_state 157 rfl) 288 rfl rfl ⟨by decide, by decide⟩ ?_
              obtain ⟨σ_73, eσ_73, h⟩ := klet_h h
              refine kw_putI C (kdec dc_M_state 158 rfl) 291 rfl fp_M_M_283_0 ?_
              refine kw_sig eσ_73 ?_
              refine kw_aload_n C (kdec dc_M_state 159 rfl) rfl 292 rfl rfl ?_
              refine kw_iconst C (kdec dc_M_state 160 rfl) 293 rfl rfl ⟨by decide, by decide⟩ ?_
              obtain ⟨σ_74, eσ_74, h⟩ := klet_h h
              refine kw_putZ C (kdec dc_M_state 161 rfl) 296 rfl fp_M_M_286_0 (by decide) ?_
              refine kw_sig eσ_74 ?_
              refine kw_iconst C (kdec dc_M_state 162 rfl) 297 rfl rfl ⟨by decide, by decide⟩ ?_
              obtain rfl := Option.some.inj h
              exact kw_Q (hR _ _ rfl) (kw_ireturn C (kdec dc_M_state 163 rfl))
          · rw [if_pos hc176] at h
            refine kw_aload_n C (kdec dc_M_state 97 rfl) rfl 180 rfl rfl ?_
            refine kw_getR C (kdec dc_M_state 98 rfl) 183 rfl fd_M_M_32_0 ?_
            refine kw_iconst C (kdec dc_M_state 99 rfl) 184 rfl rfl ⟨by decide, by decide⟩ ?_
            refine kw_dup2 C (kdec dc_M_state 100 rfl) 185 rfl rfl rfl ?_
            refine kw_iald C (kdec dc_M_state 101 rfl) 186 rfl rfl (by decide) (by decide) ?_
            refine kw_iconst C (kdec dc_M_state 102 rfl) 187 rfl rfl ⟨by decide, by decide⟩ ?_
            refine kw_iadd C (kdec dc_M_state 103 rfl) 188 rfl ?_
            obtain ⟨σ_76, eσ_76, h⟩ := klet_h h
            refine kw_iast C (kdec dc_M_state 104 rfl) 189 rfl rfl (by decide) (by decide) ?_
            refine kw_sig eσ_76 ?_
            refine kw_aload_n C (kdec dc_M_state 105 rfl) rfl 190 rfl rfl ?_
            refine kw_getI C (kdec dc_M_state 106 rfl) 193 rfl fd_M_M_155_0 ?_
            obtain rfl := Option.some.inj h
            exact kw_Q (hR _ _ rfl) (kw_ireturn C (kdec dc_M_state 107 rfl))
  · rw [if_pos hc27] at h
    refine kw_iconst C (kdec dc_M_state 16 rfl) 31 rfl rfl ⟨by decide, by decide⟩ ?_
    obtain rfl := Option.some.inj h
    exact kw_Q (hR _ _ rfl) (kw_ireturn C (kdec dc_M_state 17 rfl))
def mm_state_j22 (σ : kM) (x1 : Int) : Option (Int × kM) :=
  mm_state_j23 σ x1 0
set_option maxHeartbeats 4000000 in
theorem bd_mm_state_j22 {x : kX} {l0 : Launch} {Q : State → Prop} (C : kCx x prog_14_method_39_code "PoetFinesModel" (some .int) kcl yM 3 l0 R0_mm_state) (σ : kM) (x1 : Int) {out : Int × kM} (h : mm_state_j22 σ x1 = some out) (hR : ∀ (r : Int) (τ : kM), out = (r, τ) → Q = kQ x (some (ki r)) τ 0 0) : KW x 0 0 Q σ 22 [some (kr 0), some (ki x1), none] [kr 0] := by
  unfold mm_state_j22 at h
  refine kw_iconst C (kdec dc_M_state 12 rfl) 23 rfl rfl ⟨by decide, by decide⟩ ?_
  exact bd_mm_state_j23 C σ x1 0 h hR
def mm_state (σ : kM) (x1 : Int) : Option (Int × kM) :=
  klet (kst σ 0 (kup (σ 0) 0 0)) fun σ_1 =>
  if x1 < 0 then
    mm_state_j22 σ_1 x1
  else
    if (σ_1 0 9) < x1 then
      mm_state_j22 σ_1 x1
    else
      mm_state_j23 σ_1 x1 1
set_option maxHeartbeats 4000000 in
theorem bd_mm_state {x : kX} {l0 : Launch} {Q : State → Prop} (C : kCx x prog_14_method_39_code "PoetFinesModel" (some .int) kcl yM 3 l0 R0_mm_state) (σ : kM) (x1 : Int) {out : Int × kM} (h : mm_state σ x1 = some out) (hR : ∀ (r : Int) (τ : kM), out = (r, τ) → Q = kQ x (some (ki r)) τ 0 0) : KW x 0 0 Q σ 0 [some (kr 0), some (ki x1), none] [] := by
  unfold mm_state at h
  refine kw_aload_n C (kdec dc_M_state 0 rfl) rfl 1 rfl rfl ?_
  refine kw_iconst C (kdec dc_M_state 1 rfl) 2 rfl rfl ⟨by decide, by decide⟩ ?_
  obtain ⟨σ_1, eσ_1, h⟩ := klet_h h
  refine kw_putI C (kdec dc_M_state 2 rfl) 5 rfl fp_M_M_99_0 ?_
  refine kw_sig eσ_1 ?_
  refine kw_aload_n C (kdec dc_M_state 3 rfl) rfl 6 rfl rfl ?_
  refine kw_iload_n C (kdec dc_M_state 4 rfl) rfl 7 rfl rfl ?_
  refine kw_if_lt C (kdec dc_M_state 5 rfl) 22 10 (by decide) rfl (fun hc7 => ?_) (fun hc7 => ?_)
  · rw [if_pos hc7] at h
    exact bd_mm_state_j22 C σ_1 x1 h hR
  · rw [if_neg hc7] at h
    refine kw_iload_n C (kdec dc_M_state 6 rfl) rfl 11 rfl rfl ?_
    refine kw_aload_n C (kdec dc_M_state 7 rfl) rfl 12 rfl rfl ?_
    refine kw_getI C (kdec dc_M_state 8 rfl) 15 rfl fd_M_M_102_0 ?_
    refine kw_icmp_gt C (kdec dc_M_state 9 rfl) 22 18 (by decide) rfl (fun hc15 => ?_) (fun hc15 => ?_)
    · rw [if_pos hc15] at h
      exact bd_mm_state_j22 C σ_1 x1 h hR
    · rw [if_neg hc15] at h
      refine kw_iconst C (kdec dc_M_state 10 rfl) 19 rfl rfl ⟨by decide, by decide⟩ ?_
      refine kw_goto C (kdec dc_M_state 11 rfl) 23 (by decide) ?_
      exact bd_mm_state_j23 C σ_1 x1 1 h hR
theorem mt_mm_state (l0 : Launch) {σ : kM} {x1 : Int} {r : Int} {τ : kM} (h : mm_state σ x1 = some (r, τ)) : kMet l0 ky_M_state prog_14_method_39_code 3 (some .int) R0_mm_state kcl yM σ [kr 0, ki x1] (some (ki r)) τ := kMet.of' [some (kr 0), some (ki x1), none] (by decide) (Nat.le_of_ble_eq_true rfl) ⟨rfl, rfl, trivial⟩ (fun x C => bd_mm_state C σ x1 h (fun r τ e => by cases e; rfl))
def R0_mm_fault : Room := ({ frames := 0, cells := 0, slots := 0, locals := 0 } : Room)
def mm_fault (σ : kM) : Option (Int × kM) :=
  klet (kst σ 0 (kup (σ 0) 0 0)) fun σ_1 =>
  some ((σ_1 0 11, σ_1))
set_option maxHeartbeats 4000000 in
theorem bd_mm_fault {x : kX} {l0 : Launch} {Q : State → Prop} (C : kCx x prog_14_method_40_code "PoetFinesModel" (some .int) kcl yM 1 l0 R0_mm_fault) (σ : kM) {out : Int × kM} (h : mm_fault σ = some out) (hR : ∀ (r : Int) (τ : kM), out = (r, τ) → Q = kQ x (some (ki r)) τ 0 0) : KW x 0 0 Q σ 0 [some (kr 0)] [] := by
  unfold mm_fault at h
  refine kw_aload_n C (kdec dc_M_fault 0 rfl) rfl 1 rfl rfl ?_
  refine kw_iconst C (kdec dc_M_fault 1 rfl) 2 rfl rfl ⟨by decide, by decide⟩ ?_
  obtain ⟨σ_1, eσ_1, h⟩ := klet_h h
  refine kw_putI C (kdec dc_M_fault 2 rfl) 5 rfl fp_M_M_99_0 ?_
  refine kw_sig eσ_1 ?_
  refine kw_aload_n C (kdec dc_M_fault 3 rfl) rfl 6 rfl rfl ?_
  refine kw_getI C (kdec dc_M_fault 4 rfl) 9 rfl fd_M_M_29_0 ?_
  obtain rfl := Option.some.inj h
  exact kw_Q (hR _ _ rfl) (kw_ireturn C (kdec dc_M_fault 5 rfl))
theorem mt_mm_fault (l0 : Launch) {σ : kM} {r : Int} {τ : kM} (h : mm_fault σ = some (r, τ)) : kMet l0 ky_M_fault prog_14_method_40_code 1 (some .int) R0_mm_fault kcl yM σ [kr 0] (some (ki r)) τ := kMet.of' [some (kr 0)] (by decide) (Nat.le_of_ble_eq_true rfl) ⟨rfl, trivial⟩ (fun x C => bd_mm_fault C σ h (fun r τ e => by cases e; rfl))
def R0_mm_keeps : Room := ({ frames := 0, cells := 0, slots := 0, locals := 0 } : Room)
def mm_keeps_l54 (σ : kM) (x1 : Int) : Option ((kM × Int) ⊕ ((kM))) :=
  if 145 ≤ x1 then
    some (Sum.inr σ)
  else
    kchk (0 ≤ x1 ∧ x1 < 290) <|
    kchk (0 ≤ (w32 ((w32 (145 * (σ 0 38))) + x1)) ∧ (w32 ((w32 (145 * (σ 0 38))) + x1)) < 5800) <|
    klet (kst σ 9 (kup (σ 9) ((w32 ((w32 (145 * (σ 0 38))) + x1)).toNat) (σ 8 x1.toNat))) fun σ_3 =>
    klet (w32 (x1 + 1)) fun x1_4 =>
    some (Sum.inl (σ_3, x1_4))
set_option maxHeartbeats 4000000 in
theorem bd_mm_keeps_l54 {x : kX} {l0 : Launch} {Q : State → Prop} (C : kCx x prog_14_method_41_code "PoetFinesModel" none kcl yM 2 l0 R0_mm_keeps) (σ : kM) (x1 : Int) {out : (kM × Int) ⊕ ((kM))} (h : mm_keeps_l54 σ x1 = some out) (hC : ∀ (σ' : kM) (x1' : Int), out = Sum.inl (σ', x1') → KW x 0 0 Q σ' 54 [some (kr 0), some (ki x1')] []) (hX88 : ∀ (σ' : kM), out = Sum.inr σ' → KW x 0 0 Q σ' 88 [some (kr 0), none] []) : KW x 0 0 Q σ 54 [some (kr 0), some (ki x1)] [] := by
  unfold mm_keeps_l54 at h
  refine kw_iload_n C (kdec dc_M_keeps 29 rfl) rfl 55 rfl rfl ?_
  refine kw_sipush (v := 145) C (kdec dc_M_keeps 30 rfl) 58 rfl (by decide) ⟨by decide, by decide⟩ ?_
  refine kw_icmp_ge C (kdec dc_M_keeps 31 rfl) 88 61 (by decide) rfl (fun hc58 => ?_) (fun hc58 => ?_)
  · rw [if_pos hc58] at h
    obtain rfl := Option.some.inj h
    exact kw_sub (L' := [some (kr 0), none]) ⟨rfl, trivial⟩ (hX88 _ rfl)
  · rw [if_neg hc58] at h
    refine kw_aload_n C (kdec dc_M_keeps 32 rfl) rfl 62 rfl rfl ?_
    refine kw_getR C (kdec dc_M_keeps 33 rfl) 65 rfl fd_M_M_51_0 ?_
    refine kw_sipush (v := 145) C (kdec dc_M_keeps 34 rfl) 68 rfl (by decide) ⟨by decide, by decide⟩ ?_
    refine kw_aload_n C (kdec dc_M_keeps 35 rfl) rfl 69 rfl rfl ?_
    refine kw_getI C (kdec dc_M_keeps 36 rfl) 72 rfl fd_M_M_280_0 ?_
    refine kw_imul C (kdec dc_M_keeps 37 rfl) 73 rfl ?_
    refine kw_iload_n C (kdec dc_M_keeps 38 rfl) rfl 74 rfl rfl ?_
    refine kw_iadd C (kdec dc_M_keeps 39 rfl) 75 rfl ?_
    refine kw_aload_n C (kdec dc_M_keeps 40 rfl) rfl 76 rfl rfl ?_
    refine kw_getR C (kdec dc_M_keeps 41 rfl) 79 rfl fd_M_M_48_0 ?_
    refine kw_iload_n C (kdec dc_M_keeps 42 rfl) rfl 80 rfl rfl ?_
    obtain ⟨hc_1, h⟩ := kchk_h h
    refine kw_iald C (kdec dc_M_keeps 43 rfl) 81 rfl rfl hc_1.1 hc_1.2 ?_
    obtain ⟨hc_2, h⟩ := kchk_h h
    obtain ⟨σ_3, eσ_3, h⟩ := klet_h h
    refine kw_iast C (kdec dc_M_keeps 44 rfl) 82 rfl rfl hc_2.1 hc_2.2 ?_
    refine kw_sig eσ_3 ?_
    obtain ⟨x1_4, ex1_4, h⟩ := klet_h h
    refine kw_iinc (L' := [some (kr 0), some (ki x1_4)]) C (kdec dc_M_keeps 45 rfl) 85 rfl rfl (by decide) rfl (by rw [ex1_4]; rfl) ?_
    refine kw_goto C (kdec dc_M_keeps 46 rfl) 54 (by decide) ?_
    obtain rfl := Option.some.inj h
    exact (hC _ _ rfl)
theorem lp_mm_keeps_l54 {x : kX} {l0 : Launch} {Q : State → Prop} (C : kCx x prog_14_method_41_code "PoetFinesModel" none kcl yM 2 l0 R0_mm_keeps) {ex : (kM)} (hX88 : ∀ (σ' : kM), ex = σ' → KW x 0 0 Q σ' 88 [some (kr 0), none] []) (n : Nat) (σ : kM) (x1 : Int) (h : kloop (fun st => mm_keeps_l54 st.1 st.2) n (σ, x1) = some ex) : KW x 0 0 Q σ 54 [some (kr 0), some (ki x1)] [] :=
  kloop_ind (P := (fun st : kM × Int => KW x 0 0 Q st.1 54 [some (kr 0), some (ki (st.2))] [])) (fun st out hb hc hx => bd_mm_keeps_l54 C st.1 st.2 hb (fun a0 a1 e => hc _ e) (fun a0 e => hX88 _ ((hx _ e).symm))) n (σ, x1) h
def mm_keeps_j52 (σ : kM) : Option (kM) :=
  (kloop (fun st => mm_keeps_l54 st.1 st.2) kFuel (σ, 0)).bind fun σ_7 =>
  klet (kst σ_7 0 (kup (σ_7 0) 38 (w32 ((σ_7 0 38) + 1)))) fun σ_8 =>
  some σ_8
set_option maxHeartbeats 4000000 in
theorem bd_mm_keeps_j52 {x : kX} {l0 : Launch} {Q : State → Prop} (C : kCx x prog_14_method_41_code "PoetFinesModel" none kcl yM 2 l0 R0_mm_keeps) (σ : kM) {out : kM} (h : mm_keeps_j52 σ = some out) (hR : ∀ (τ : kM), out = τ → Q = kQ x none τ 0 0) : KW x 0 0 Q σ 52 [some (kr 0), none] [] := by
  unfold mm_keeps_j52 at h
  refine kw_iconst C (kdec dc_M_keeps 27 rfl) 53 rfl rfl ⟨by decide, by decide⟩ ?_
  refine kw_istore_n (L' := [some (kr 0), some (ki 0)]) C (kdec dc_M_keeps 28 rfl) rfl 54 rfl (by decide) rfl rfl ?_
  obtain ⟨ex_5, hl_6, h⟩ := kbind_h h
  refine lp_mm_keeps_l54 C ?_ kFuel σ 0 hl_6
  · intro σ_7 e
    subst ex_5
    try dsimp only at h
    refine kw_aload_n C (kdec dc_M_keeps 47 rfl) rfl 89 rfl rfl ?_
    refine kw_dup C (kdec dc_M_keeps 48 rfl) 90 rfl rfl ?_
    refine kw_getI C (kdec dc_M_keeps 49 rfl) 93 rfl fd_M_M_280_0 ?_
    refine kw_iconst C (kdec dc_M_keeps 50 rfl) 94 rfl rfl ⟨by decide, by decide⟩ ?_
    refine kw_iadd C (kdec dc_M_keeps 51 rfl) 95 rfl ?_
    obtain ⟨σ_8, eσ_8, h⟩ := klet_h h
    refine kw_putI C (kdec dc_M_keeps 52 rfl) 98 rfl fp_M_M_280_0 ?_
    refine kw_sig eσ_8 ?_
    obtain rfl := Option.some.inj h
    exact kw_Q (hR _ rfl) (kw_return C (kdec dc_M_keeps 53 rfl))
def mm_keeps_l13 (σ : kM) (x1 : Int) : Option ((kM × Int) ⊕ ((kM))) :=
  if 5800 ≤ x1 then
    some (Sum.inr σ)
  else
    kchk (0 ≤ x1 ∧ x1 < 5800) <|
    kchk (0 ≤ (w32 (x1 - 145)) ∧ (w32 (x1 - 145)) < 5800) <|
    klet (kst σ 9 (kup (σ 9) ((w32 (x1 - 145)).toNat) (σ 9 x1.toNat))) fun σ_11 =>
    klet (w32 (x1 + 1)) fun x1_12 =>
    some (Sum.inl (σ_11, x1_12))
set_option maxHeartbeats 4000000 in
theorem bd_mm_keeps_l13 {x : kX} {l0 : Launch} {Q : State → Prop} (C : kCx x prog_14_method_41_code "PoetFinesModel" none kcl yM 2 l0 R0_mm_keeps) (σ : kM) (x1 : Int) {out : (kM × Int) ⊕ ((kM))} (h : mm_keeps_l13 σ x1 = some out) (hC : ∀ (σ' : kM) (x1' : Int), out = Sum.inl (σ', x1') → KW x 0 0 Q σ' 13 [some (kr 0), some (ki x1')] []) (hX42 : ∀ (σ' : kM), out = Sum.inr σ' → KW x 0 0 Q σ' 42 [some (kr 0), none] []) : KW x 0 0 Q σ 13 [some (kr 0), some (ki x1)] [] := by
  unfold mm_keeps_l13 at h
  refine kw_iload_n C (kdec dc_M_keeps 6 rfl) rfl 14 rfl rfl ?_
  refine kw_sipush (v := 5800) C (kdec dc_M_keeps 7 rfl) 17 rfl (by decide) ⟨by decide, by decide⟩ ?_
  refine kw_icmp_ge C (kdec dc_M_keeps 8 rfl) 42 20 (by decide) rfl (fun hc17 => ?_) (fun hc17 => ?_)
  · rw [if_pos hc17] at h
    obtain rfl := Option.some.inj h
    exact kw_sub (L' := [some (kr 0), none]) ⟨rfl, trivial⟩ (hX42 _ rfl)
  · rw [if_neg hc17] at h
    refine kw_aload_n C (kdec dc_M_keeps 9 rfl) rfl 21 rfl rfl ?_
    refine kw_getR C (kdec dc_M_keeps 10 rfl) 24 rfl fd_M_M_51_0 ?_
    refine kw_iload_n C (kdec dc_M_keeps 11 rfl) rfl 25 rfl rfl ?_
    refine kw_sipush (v := 145) C (kdec dc_M_keeps 12 rfl) 28 rfl (by decide) ⟨by decide, by decide⟩ ?_
    refine kw_isub C (kdec dc_M_keeps 13 rfl) 29 rfl ?_
    refine kw_aload_n C (kdec dc_M_keeps 14 rfl) rfl 30 rfl rfl ?_
    refine kw_getR C (kdec dc_M_keeps 15 rfl) 33 rfl fd_M_M_51_0 ?_
    refine kw_iload_n C (kdec dc_M_keeps 16 rfl) rfl 34 rfl rfl ?_
    obtain ⟨hc_9, h⟩ := kchk_h h
    refine kw_iald C (kdec dc_M_keeps 17 rfl) 35 rfl rfl hc_9.1 hc_9.2 ?_
    obtain ⟨hc_10, h⟩ := kchk_h h
    obtain ⟨σ_11, eσ_11, h⟩ := klet_h h
    refine kw_iast C (kdec dc_M_keeps 18 rfl) 36 rfl rfl hc_10.1 hc_10.2 ?_
    refine kw_sig eσ_11 ?_
    obtain ⟨x1_12, ex1_12, h⟩ := klet_h h
    refine kw_iinc (L' := [some (kr 0), some (ki x1_12)]) C (kdec dc_M_keeps 19 rfl) 39 rfl rfl (by decide) rfl (by rw [ex1_12]; rfl) ?_
    refine kw_goto C (kdec dc_M_keeps 20 rfl) 13 (by decide) ?_
    obtain rfl := Option.some.inj h
    exact (hC _ _ rfl)
theorem lp_mm_keeps_l13 {x : kX} {l0 : Launch} {Q : State → Prop} (C : kCx x prog_14_method_41_code "PoetFinesModel" none kcl yM 2 l0 R0_mm_keeps) {ex : (kM)} (hX42 : ∀ (σ' : kM), ex = σ' → KW x 0 0 Q σ' 42 [some (kr 0), none] []) (n : Nat) (σ : kM) (x1 : Int) (h : kloop (fun st => mm_keeps_l13 st.1 st.2) n (σ, x1) = some ex) : KW x 0 0 Q σ 13 [some (kr 0), some (ki x1)] [] :=
  kloop_ind (P := (fun st : kM × Int => KW x 0 0 Q st.1 13 [some (kr 0), some (ki (st.2))] [])) (fun st out hb hc hx => bd_mm_keeps_l13 C st.1 st.2 hb (fun a0 a1 e => hc _ e) (fun a0 e => hX42 _ ((hx _ e).symm))) n (σ, x1) h
def mm_keeps (σ : kM) : Option (kM) :=
  if (σ 0 38) = 40 then
    (kloop (fun st => mm_keeps_l13 st.1 st.2) kFuel (σ, 145)).bind fun σ_15 =>
    klet (kst σ_15 0 (kup (σ_15 0) 38 (w32 ((σ_15 0 38) - 1)))) fun σ_16 =>
    mm_keeps_j52 σ_16
  else
    mm_keeps_j52 σ
set_option maxHeartbeats 4000000 in
theorem bd_mm_keeps {x : kX} {l0 : Launch} {Q : State → Prop} (C : kCx x prog_14_method_41_code "PoetFinesModel" none kcl yM 2 l0 R0_mm_keeps) (σ : kM) {out : kM} (h : mm_keeps σ = some out) (hR : ∀ (τ : kM), out = τ → Q = kQ x none τ 0 0) : KW x 0 0 Q σ 0 [some (kr 0), none] [] := by
  unfold mm_keeps at h
  refine kw_aload_n C (kdec dc_M_keeps 0 rfl) rfl 1 rfl rfl ?_
  refine kw_getI C (kdec dc_M_keeps 1 rfl) 4 rfl fd_M_M_280_0 ?_
  refine kw_bipush (v := 40) C (kdec dc_M_keeps 2 rfl) 6 rfl (by decide) ⟨by decide, by decide⟩ ?_
  refine kw_icmp_ne C (kdec dc_M_keeps 3 rfl) 52 9 (by decide) rfl (fun hc6 => ?_) (fun hc6 => ?_)
  · rw [if_neg hc6] at h
    exact bd_mm_keeps_j52 C σ h hR
  · rw [if_pos hc6] at h
    refine kw_sipush (v := 145) C (kdec dc_M_keeps 4 rfl) 12 rfl (by decide) ⟨by decide, by decide⟩ ?_
    refine kw_istore_n (L' := [some (kr 0), some (ki 145)]) C (kdec dc_M_keeps 5 rfl) rfl 13 rfl (by decide) rfl rfl ?_
    obtain ⟨ex_13, hl_14, h⟩ := kbind_h h
    refine lp_mm_keeps_l13 C ?_ kFuel σ 145 hl_14
    · intro σ_15 e
      subst ex_13
      try dsimp only at h
      refine kw_aload_n C (kdec dc_M_keeps 21 rfl) rfl 43 rfl rfl ?_
      refine kw_dup C (kdec dc_M_keeps 22 rfl) 44 rfl rfl ?_
      refine kw_getI C (kdec dc_M_keeps 23 rfl) 47 rfl fd_M_M_280_0 ?_
      refine kw_iconst C (kdec dc_M_keeps 24 rfl) 48 rfl rfl ⟨by decide, by decide⟩ ?_
      refine kw_isub C (kdec dc_M_keeps 25 rfl) 49 rfl ?_
      obtain ⟨σ_16, eσ_16, h⟩ := klet_h h
      refine kw_putI C (kdec dc_M_keeps 26 rfl) 52 rfl fp_M_M_280_0 ?_
      refine kw_sig eσ_16 ?_
      exact bd_mm_keeps_j52 C σ_16 h hR
theorem mt_mm_keeps (l0 : Launch) {σ : kM} {τ : kM} (h : mm_keeps σ = some τ) : kMet l0 ky_M_keeps prog_14_method_41_code 2 none R0_mm_keeps kcl yM σ [kr 0] none τ := kMet.of' [some (kr 0), none] (by decide) (Nat.le_of_ble_eq_true rfl) ⟨rfl, trivial⟩ (fun x C => bd_mm_keeps C σ h (fun τ e => by subst e; rfl))
def R0_mm_refuses : Room := ({ frames := 0, cells := 0, slots := 0, locals := 0 } : Room)
def mm_refuses (σ : kM) (x1 : Int) : Option (Int × kM) :=
  kchk (0 ≤ x1 ∧ x1 < 3) <|
  kchk (0 ≤ x1 ∧ x1 < 3) <|
  klet (kst σ 3 (kup (σ 3) x1.toNat (w32 ((σ 3 x1.toNat) + 1)))) fun σ_3 =>
  some (((-1), σ_3))
set_option maxHeartbeats 4000000 in
theorem bd_mm_refuses {x : kX} {l0 : Launch} {Q : State → Prop} (C : kCx x prog_14_method_42_code "PoetFinesModel" (some .int) kcl yM 2 l0 R0_mm_refuses) (σ : kM) (x1 : Int) {out : Int × kM} (h : mm_refuses σ x1 = some out) (hR : ∀ (r : Int) (τ : kM), out = (r, τ) → Q = kQ x (some (ki r)) τ 0 0) : KW x 0 0 Q σ 0 [some (kr 0), some (ki x1)] [] := by
  unfold mm_refuses at h
  refine kw_aload_n C (kdec dc_M_refuses 0 rfl) rfl 1 rfl rfl ?_
  refine kw_getR C (kdec dc_M_refuses 1 rfl) 4 rfl fd_M_M_32_0 ?_
  refine kw_iload_n C (kdec dc_M_refuses 2 rfl) rfl 5 rfl rfl ?_
  refine kw_dup2 C (kdec dc_M_refuses 3 rfl) 6 rfl rfl rfl ?_
  obtain ⟨hc_1, h⟩ := kchk_h h
  refine kw_iald C (kdec dc_M_refuses 4 rfl) 7 rfl rfl hc_1.1 hc_1.2 ?_
  refine kw_iconst C (kdec dc_M_refuses 5 rfl) 8 rfl rfl ⟨by decide, by decide⟩ ?_
  refine kw_iadd C (kdec dc_M_refuses 6 rfl) 9 rfl ?_
  obtain ⟨hc_2, h⟩ := kchk_h h
  obtain ⟨σ_3, eσ_3, h⟩ := klet_h h
  refine kw_iast C (kdec dc_M_refuses 7 rfl) 10 rfl rfl hc_2.1 hc_2.2 ?_
  refine kw_sig eσ_3 ?_
  refine kw_iconst C (kdec dc_M_refuses 8 rfl) 11 rfl rfl ⟨by decide, by decide⟩ ?_
  obtain rfl := Option.some.inj h
  exact kw_Q (hR _ _ rfl) (kw_ireturn C (kdec dc_M_refuses 9 rfl))
theorem mt_mm_refuses (l0 : Launch) {σ : kM} {x1 : Int} {r : Int} {τ : kM} (h : mm_refuses σ x1 = some (r, τ)) : kMet l0 ky_M_refuses prog_14_method_42_code 2 (some .int) R0_mm_refuses kcl yM σ [kr 0, ki x1] (some (ki r)) τ := kMet.of' [some (kr 0), some (ki x1)] (by decide) (Nat.le_of_ble_eq_true rfl) ⟨rfl, rfl, trivial⟩ (fun x C => bd_mm_refuses C σ x1 h (fun r τ e => by cases e; rfl))
def R0_mm_undo : Room := ({ frames := 0, cells := 0, slots := 0, locals := 0 } : Room)
def mm_undo_l26 (σ : kM) (x1 : Int) : Option ((kM × Int) ⊕ ((kM))) :=
  if 145 ≤ x1 then
    some (Sum.inr σ)
  else
    kchk (0 ≤ (w32 ((w32 (145 * (σ 0 38))) + x1)) ∧ (w32 ((w32 (145 * (σ 0 38))) + x1)) < 5800) <|
    kchk (0 ≤ x1 ∧ x1 < 290) <|
    klet (kst σ 8 (kup (σ 8) x1.toNat (σ 9 (w32 ((w32 (145 * (σ 0 38))) + x1)).toNat))) fun σ_5 =>
    klet (w32 (x1 + 1)) fun x1_6 =>
    some (Sum.inl (σ_5, x1_6))
set_option maxHeartbeats 4000000 in
theorem bd_mm_undo_l26 {x : kX} {l0 : Launch} {Q : State → Prop} (C : kCx x prog_14_method_43_code "PoetFinesModel" (some .int) kcl yM 2 l0 R0_mm_undo) (σ : kM) (x1 : Int) {out : (kM × Int) ⊕ ((kM))} (h : mm_undo_l26 σ x1 = some out) (hC : ∀ (σ' : kM) (x1' : Int), out = Sum.inl (σ', x1') → KW x 0 0 Q σ' 26 [some (kr 0), some (ki x1')] []) (hX60 : ∀ (σ' : kM), out = Sum.inr σ' → KW x 0 0 Q σ' 60 [some (kr 0), none] []) : KW x 0 0 Q σ 26 [some (kr 0), some (ki x1)] [] := by
  unfold mm_undo_l26 at h
  refine kw_iload_n C (kdec dc_M_undo 16 rfl) rfl 27 rfl rfl ?_
  refine kw_sipush (v := 145) C (kdec dc_M_undo 17 rfl) 30 rfl (by decide) ⟨by decide, by decide⟩ ?_
  refine kw_icmp_ge C (kdec dc_M_undo 18 rfl) 60 33 (by decide) rfl (fun hc30 => ?_) (fun hc30 => ?_)
  · rw [if_pos hc30] at h
    obtain rfl := Option.some.inj h
    exact kw_sub (L' := [some (kr 0), none]) ⟨rfl, trivial⟩ (hX60 _ rfl)
  · rw [if_neg hc30] at h
    refine kw_aload_n C (kdec dc_M_undo 19 rfl) rfl 34 rfl rfl ?_
    refine kw_getR C (kdec dc_M_undo 20 rfl) 37 rfl fd_M_M_48_0 ?_
    refine kw_iload_n C (kdec dc_M_undo 21 rfl) rfl 38 rfl rfl ?_
    refine kw_aload_n C (kdec dc_M_undo 22 rfl) rfl 39 rfl rfl ?_
    refine kw_getR C (kdec dc_M_undo 23 rfl) 42 rfl fd_M_M_51_0 ?_
    refine kw_sipush (v := 145) C (kdec dc_M_undo 24 rfl) 45 rfl (by decide) ⟨by decide, by decide⟩ ?_
    refine kw_aload_n C (kdec dc_M_undo 25 rfl) rfl 46 rfl rfl ?_
    refine kw_getI C (kdec dc_M_undo 26 rfl) 49 rfl fd_M_M_280_0 ?_
    refine kw_imul C (kdec dc_M_undo 27 rfl) 50 rfl ?_
    refine kw_iload_n C (kdec dc_M_undo 28 rfl) rfl 51 rfl rfl ?_
    refine kw_iadd C (kdec dc_M_undo 29 rfl) 52 rfl ?_
    obtain ⟨hc_3, h⟩ := kchk_h h
    refine kw_iald C (kdec dc_M_undo 30 rfl) 53 rfl rfl hc_3.1 hc_3.2 ?_
    obtain ⟨hc_4, h⟩ := kchk_h h
    obtain ⟨σ_5, eσ_5, h⟩ := klet_h h
    refine kw_iast C (kdec dc_M_undo 31 rfl) 54 rfl rfl hc_4.1 hc_4.2 ?_
    refine kw_sig eσ_5 ?_
    obtain ⟨x1_6, ex1_6, h⟩ := klet_h h
    refine kw_iinc (L' := [some (kr 0), some (ki x1_6)]) C (kdec dc_M_undo 32 rfl) 57 rfl rfl (by decide) rfl (by rw [ex1_6]; rfl) ?_
    refine kw_goto C (kdec dc_M_undo 33 rfl) 26 (by decide) ?_
    obtain rfl := Option.some.inj h
    exact (hC _ _ rfl)
theorem lp_mm_undo_l26 {x : kX} {l0 : Launch} {Q : State → Prop} (C : kCx x prog_14_method_43_code "PoetFinesModel" (some .int) kcl yM 2 l0 R0_mm_undo) {ex : (kM)} (hX60 : ∀ (σ' : kM), ex = σ' → KW x 0 0 Q σ' 60 [some (kr 0), none] []) (n : Nat) (σ : kM) (x1 : Int) (h : kloop (fun st => mm_undo_l26 st.1 st.2) n (σ, x1) = some ex) : KW x 0 0 Q σ 26 [some (kr 0), some (ki x1)] [] :=
  kloop_ind (P := (fun st : kM × Int => KW x 0 0 Q st.1 26 [some (kr 0), some (ki (st.2))] [])) (fun st out hb hc hx => bd_mm_undo_l26 C st.1 st.2 hb (fun a0 a1 e => hc _ e) (fun a0 e => hX60 _ ((hx _ e).symm))) n (σ, x1) h
def mm_undo (σ : kM) : Option (Int × kM) :=
  klet (kst σ 0 (kup (σ 0) 0 0)) fun σ_1 =>
  if (σ_1 0 38) = 0 then
    some (((-1), σ_1))
  else
    klet (kst σ_1 0 (kup (σ_1 0) 38 (w32 ((σ_1 0 38) - 1)))) fun σ_2 =>
    (kloop (fun st => mm_undo_l26 st.1 st.2) kFuel (σ_2, 0)).bind fun σ_9 =>
    some ((σ_9 0 38, σ_9))
set_option maxHeartbeats 4000000 in
theorem bd_mm_undo {x : kX} {l0 : Launch} {Q : State → Prop} (C : kCx x prog_14_method_43_code "PoetFinesModel" (some .int) kcl yM 2 l0 R0_mm_undo) (σ : kM) {out : Int × kM} (h : mm_undo σ = some out) (hR : ∀ (r : Int) (τ : kM), out = (r, τ) → Q = kQ x (some (ki r)) τ 0 0) : KW x 0 0 Q σ 0 [some (kr 0), none] [] := by
  unfold mm_undo at h
  refine kw_aload_n C (kdec dc_M_undo 0 rfl) rfl 1 rfl rfl ?_
  refine kw_iconst C (kdec dc_M_undo 1 rfl) 2 rfl rfl ⟨by decide, by decide⟩ ?_
  obtain ⟨σ_1, eσ_1, h⟩ := klet_h h
  refine kw_putI C (kdec dc_M_undo 2 rfl) 5 rfl fp_M_M_99_0 ?_
  refine kw_sig eσ_1 ?_
  refine kw_aload_n C (kdec dc_M_undo 3 rfl) rfl 6 rfl rfl ?_
  refine kw_getI C (kdec dc_M_undo 4 rfl) 9 rfl fd_M_M_280_0 ?_
  refine kw_if_ne C (kdec dc_M_undo 5 rfl) 14 12 (by decide) rfl (fun hc9 => ?_) (fun hc9 => ?_)
  · rw [if_neg hc9] at h
    refine kw_aload_n C (kdec dc_M_undo 8 rfl) rfl 15 rfl rfl ?_
    refine kw_dup C (kdec dc_M_undo 9 rfl) 16 rfl rfl ?_
    refine kw_getI C (kdec dc_M_undo 10 rfl) 19 rfl fd_M_M_280_0 ?_
    refine kw_iconst C (kdec dc_M_undo 11 rfl) 20 rfl rfl ⟨by decide, by decide⟩ ?_
    refine kw_isub C (kdec dc_M_undo 12 rfl) 21 rfl ?_
    obtain ⟨σ_2, eσ_2, h⟩ := klet_h h
    refine kw_putI C (kdec dc_M_undo 13 rfl) 24 rfl fp_M_M_280_0 ?_
    refine kw_sig eσ_2 ?_
    refine kw_iconst C (kdec dc_M_undo 14 rfl) 25 rfl rfl ⟨by decide, by decide⟩ ?_
    refine kw_istore_n (L' := [some (kr 0), some (ki 0)]) C (kdec dc_M_undo 15 rfl) rfl 26 rfl (by decide) rfl rfl ?_
    obtain ⟨ex_7, hl_8, h⟩ := kbind_h h
    refine lp_mm_undo_l26 C ?_ kFuel σ_2 0 hl_8
    · intro σ_9 e
      subst ex_7
      try dsimp only at h
      refine kw_aload_n C (kdec dc_M_undo 34 rfl) rfl 61 rfl rfl ?_
      refine kw_getI C (kdec dc_M_undo 35 rfl) 64 rfl fd_M_M_280_0 ?_
      obtain rfl := Option.some.inj h
      exact kw_Q (hR _ _ rfl) (kw_ireturn C (kdec dc_M_undo 36 rfl))
  · rw [if_pos hc9] at h
    refine kw_iconst C (kdec dc_M_undo 6 rfl) 13 rfl rfl ⟨by decide, by decide⟩ ?_
    obtain rfl := Option.some.inj h
    exact kw_Q (hR _ _ rfl) (kw_ireturn C (kdec dc_M_undo 7 rfl))
theorem mt_mm_undo (l0 : Launch) {σ : kM} {r : Int} {τ : kM} (h : mm_undo σ = some (r, τ)) : kMet l0 ky_M_undo prog_14_method_43_code 2 (some .int) R0_mm_undo kcl yM σ [kr 0] (some (ki r)) τ := kMet.of' [some (kr 0), none] (by decide) (Nat.le_of_ble_eq_true rfl) ⟨rfl, trivial⟩ (fun x C => bd_mm_undo C σ h (fun r τ e => by cases e; rfl))
def R0_mm_clears : Room := ({ frames := 0, cells := 0, slots := 0, locals := 0 } : Room)
def mm_clears_l2 (σ : kM) (x1 : Int) : Option ((kM × Int) ⊕ ((kM))) :=
  if 4 ≤ x1 then
    some (Sum.inr σ)
  else
    kchk (0 ≤ x1 ∧ x1 < 4) <|
    klet (kst σ 10 (kup (σ 10) x1.toNat 0)) fun σ_2 =>
    kchk (0 ≤ x1 ∧ x1 < 4) <|
    klet (kst σ_2 11 (kup (σ_2 11) x1.toNat 0)) fun σ_4 =>
    kchk (0 ≤ x1 ∧ x1 < 4) <|
    klet (kst σ_4 12 (kup (σ_4 12) x1.toNat 0)) fun σ_6 =>
    kchk (0 ≤ x1 ∧ x1 < 4) <|
    klet (kst σ_6 13 (kup (σ_6 13) x1.toNat 0)) fun σ_8 =>
    klet (w32 (x1 + 1)) fun x1_9 =>
    some (Sum.inl (σ_8, x1_9))
set_option maxHeartbeats 4000000 in
theorem bd_mm_clears_l2 {x : kX} {l0 : Launch} {Q : State → Prop} (C : kCx x prog_14_method_44_code "PoetFinesModel" none kcl yM 2 l0 R0_mm_clears) (σ : kM) (x1 : Int) {out : (kM × Int) ⊕ ((kM))} (h : mm_clears_l2 σ x1 = some out) (hC : ∀ (σ' : kM) (x1' : Int), out = Sum.inl (σ', x1') → KW x 0 0 Q σ' 2 [some (kr 0), some (ki x1')] []) (hX41 : ∀ (σ' : kM), out = Sum.inr σ' → KW x 0 0 Q σ' 41 [some (kr 0), none] []) : KW x 0 0 Q σ 2 [some (kr 0), some (ki x1)] [] := by
  unfold mm_clears_l2 at h
  refine kw_iload_n C (kdec dc_M_clears 2 rfl) rfl 3 rfl rfl ?_
  refine kw_iconst C (kdec dc_M_clears 3 rfl) 4 rfl rfl ⟨by decide, by decide⟩ ?_
  refine kw_icmp_ge C (kdec dc_M_clears 4 rfl) 41 7 (by decide) rfl (fun hc4 => ?_) (fun hc4 => ?_)
  · rw [if_pos hc4] at h
    obtain rfl := Option.some.inj h
    exact kw_sub (L' := [some (kr 0), none]) ⟨rfl, trivial⟩ (hX41 _ rfl)
  · rw [if_neg hc4] at h
    refine kw_aload_n C (kdec dc_M_clears 5 rfl) rfl 8 rfl rfl ?_
    refine kw_getR C (kdec dc_M_clears 6 rfl) 11 rfl fd_M_M_54_0 ?_
    refine kw_iload_n C (kdec dc_M_clears 7 rfl) rfl 12 rfl rfl ?_
    refine kw_iconst C (kdec dc_M_clears 8 rfl) 13 rfl rfl ⟨by decide, by decide⟩ ?_
    obtain ⟨hc_1, h⟩ := kchk_h h
    obtain ⟨σ_2, eσ_2, h⟩ := klet_h h
    refine kw_iast C (kdec dc_M_clears 9 rfl) 14 rfl rfl hc_1.1 hc_1.2 ?_
    refine kw_sig eσ_2 ?_
    refine kw_aload_n C (kdec dc_M_clears 10 rfl) rfl 15 rfl rfl ?_
    refine kw_getR C (kdec dc_M_clears 11 rfl) 18 rfl fd_M_M_57_0 ?_
    refine kw_iload_n C (kdec dc_M_clears 12 rfl) rfl 19 rfl rfl ?_
    refine kw_iconst C (kdec dc_M_clears 13 rfl) 20 rfl rfl ⟨by decide, by decide⟩ ?_
    obtain ⟨hc_3, h⟩ := kchk_h h
    obtain ⟨σ_4, eσ_4, h⟩ := klet_h h
    refine kw_iast C (kdec dc_M_clears 14 rfl) 21 rfl rfl hc_3.1 hc_3.2 ?_
    refine kw_sig eσ_4 ?_
    refine kw_aload_n C (kdec dc_M_clears 15 rfl) rfl 22 rfl rfl ?_
    refine kw_getR C (kdec dc_M_clears 16 rfl) 25 rfl fd_M_M_60_0 ?_
    refine kw_iload_n C (kdec dc_M_clears 17 rfl) rfl 26 rfl rfl ?_
    refine kw_iconst C (kdec dc_M_clears 18 rfl) 27 rfl rfl ⟨by decide, by decide⟩ ?_
    obtain ⟨hc_5, h⟩ := kchk_h h
    obtain ⟨σ_6, eσ_6, h⟩ := klet_h h
    refine kw_iast C (kdec dc_M_clears 19 rfl) 28 rfl rfl hc_5.1 hc_5.2 ?_
    refine kw_sig eσ_6 ?_
    refine kw_aload_n C (kdec dc_M_clears 20 rfl) rfl 29 rfl rfl ?_
    refine kw_getR C (kdec dc_M_clears 21 rfl) 32 rfl fd_M_M_63_0 ?_
    refine kw_iload_n C (kdec dc_M_clears 22 rfl) rfl 33 rfl rfl ?_
    refine kw_iconst C (kdec dc_M_clears 23 rfl) 34 rfl rfl ⟨by decide, by decide⟩ ?_
    obtain ⟨hc_7, h⟩ := kchk_h h
    obtain ⟨σ_8, eσ_8, h⟩ := klet_h h
    refine kw_iast C (kdec dc_M_clears 24 rfl) 35 rfl rfl hc_7.1 hc_7.2 ?_
    refine kw_sig eσ_8 ?_
    obtain ⟨x1_9, ex1_9, h⟩ := klet_h h
    refine kw_iinc (L' := [some (kr 0), some (ki x1_9)]) C (kdec dc_M_clears 25 rfl) 38 rfl rfl (by decide) rfl (by rw [ex1_9]; rfl) ?_
    refine kw_goto C (kdec dc_M_clears 26 rfl) 2 (by decide) ?_
    obtain rfl := Option.some.inj h
    exact (hC _ _ rfl)
theorem lp_mm_clears_l2 {x : kX} {l0 : Launch} {Q : State → Prop} (C : kCx x prog_14_method_44_code "PoetFinesModel" none kcl yM 2 l0 R0_mm_clears) {ex : (kM)} (hX41 : ∀ (σ' : kM), ex = σ' → KW x 0 0 Q σ' 41 [some (kr 0), none] []) (n : Nat) (σ : kM) (x1 : Int) (h : kloop (fun st => mm_clears_l2 st.1 st.2) n (σ, x1) = some ex) : KW x 0 0 Q σ 2 [some (kr 0), some (ki x1)] [] :=
  kloop_ind (P := (fun st : kM × Int => KW x 0 0 Q st.1 2 [some (kr 0), some (ki (st.2))] [])) (fun st out hb hc hx => bd_mm_clears_l2 C st.1 st.2 hb (fun a0 a1 e => hc _ e) (fun a0 e => hX41 _ ((hx _ e).symm))) n (σ, x1) h
def mm_clears_l43 (σ : kM) (x1 : Int) : Option ((kM × Int) ⊕ ((kM))) :=
  if 32 ≤ x1 then
    some (Sum.inr σ)
  else
    kchk (0 ≤ x1 ∧ x1 < 32) <|
    klet (kst σ 14 (kup (σ 14) x1.toNat 0)) fun σ_14 =>
    klet (w32 (x1 + 1)) fun x1_15 =>
    some (Sum.inl (σ_14, x1_15))
set_option maxHeartbeats 4000000 in
theorem bd_mm_clears_l43 {x : kX} {l0 : Launch} {Q : State → Prop} (C : kCx x prog_14_method_44_code "PoetFinesModel" none kcl yM 2 l0 R0_mm_clears) (σ : kM) (x1 : Int) {out : (kM × Int) ⊕ ((kM))} (h : mm_clears_l43 σ x1 = some out) (hC : ∀ (σ' : kM) (x1' : Int), out = Sum.inl (σ', x1') → KW x 0 0 Q σ' 43 [some (kr 0), some (ki x1')] []) (hX62 : ∀ (σ' : kM), out = Sum.inr σ' → KW x 0 0 Q σ' 62 [some (kr 0), none] []) : KW x 0 0 Q σ 43 [some (kr 0), some (ki x1)] [] := by
  unfold mm_clears_l43 at h
  refine kw_iload_n C (kdec dc_M_clears 29 rfl) rfl 44 rfl rfl ?_
  refine kw_bipush (v := 32) C (kdec dc_M_clears 30 rfl) 46 rfl (by decide) ⟨by decide, by decide⟩ ?_
  refine kw_icmp_ge C (kdec dc_M_clears 31 rfl) 62 49 (by decide) rfl (fun hc46 => ?_) (fun hc46 => ?_)
  · rw [if_pos hc46] at h
    obtain rfl := Option.some.inj h
    exact kw_sub (L' := [some (kr 0), none]) ⟨rfl, trivial⟩ (hX62 _ rfl)
  · rw [if_neg hc46] at h
    refine kw_aload_n C (kdec dc_M_clears 32 rfl) rfl 50 rfl rfl ?_
    refine kw_getR C (kdec dc_M_clears 33 rfl) 53 rfl fd_M_M_66_0 ?_
    refine kw_iload_n C (kdec dc_M_clears 34 rfl) rfl 54 rfl rfl ?_
    refine kw_iconst C (kdec dc_M_clears 35 rfl) 55 rfl rfl ⟨by decide, by decide⟩ ?_
    obtain ⟨hc_13, h⟩ := kchk_h h
    obtain ⟨σ_14, eσ_14, h⟩ := klet_h h
    refine kw_iast C (kdec dc_M_clears 36 rfl) 56 rfl rfl hc_13.1 hc_13.2 ?_
    refine kw_sig eσ_14 ?_
    obtain ⟨x1_15, ex1_15, h⟩ := klet_h h
    refine kw_iinc (L' := [some (kr 0), some (ki x1_15)]) C (kdec dc_M_clears 37 rfl) 59 rfl rfl (by decide) rfl (by rw [ex1_15]; rfl) ?_
    refine kw_goto C (kdec dc_M_clears 38 rfl) 43 (by decide) ?_
    obtain rfl := Option.some.inj h
    exact (hC _ _ rfl)
theorem lp_mm_clears_l43 {x : kX} {l0 : Launch} {Q : State → Prop} (C : kCx x prog_14_method_44_code "PoetFinesModel" none kcl yM 2 l0 R0_mm_clears) {ex : (kM)} (hX62 : ∀ (σ' : kM), ex = σ' → KW x 0 0 Q σ' 62 [some (kr 0), none] []) (n : Nat) (σ : kM) (x1 : Int) (h : kloop (fun st => mm_clears_l43 st.1 st.2) n (σ, x1) = some ex) : KW x 0 0 Q σ 43 [some (kr 0), some (ki x1)] [] :=
  kloop_ind (P := (fun st : kM × Int => KW x 0 0 Q st.1 43 [some (kr 0), some (ki (st.2))] [])) (fun st out hb hc hx => bd_mm_clears_l43 C st.1 st.2 hb (fun a0 a1 e => hc _ e) (fun a0 e => hX62 _ ((hx _ e).symm))) n (σ, x1) h
def mm_clears (σ : kM) : Option (kM) :=
  (kloop (fun st => mm_clears_l2 st.1 st.2) kFuel (σ, 0)).bind fun σ_12 =>
  (kloop (fun st => mm_clears_l43 st.1 st.2) kFuel (σ_12, 0)).bind fun σ_18 =>
  klet (kst σ_18 0 (kup (σ_18 0) 44 0)) fun σ_19 =>
  klet (kst σ_19 0 (kup (σ_19 0) 45 0)) fun σ_20 =>
  some σ_20
set_option maxHeartbeats 4000000 in
theorem bd_mm_clears {x : kX} {l0 : Launch} {Q : State → Prop} (C : kCx x prog_14_method_44_code "PoetFinesModel" none kcl yM 2 l0 R0_mm_clears) (σ : kM) {out : kM} (h : mm_clears σ = some out) (hR : ∀ (τ : kM), out = τ → Q = kQ x none τ 0 0) : KW x 0 0 Q σ 0 [some (kr 0), none] [] := by
  unfold mm_clears at h
  refine kw_iconst C (kdec dc_M_clears 0 rfl) 1 rfl rfl ⟨by decide, by decide⟩ ?_
  refine kw_istore_n (L' := [some (kr 0), some (ki 0)]) C (kdec dc_M_clears 1 rfl) rfl 2 rfl (by decide) rfl rfl ?_
  obtain ⟨ex_10, hl_11, h⟩ := kbind_h h
  refine lp_mm_clears_l2 C ?_ kFuel σ 0 hl_11
  · intro σ_12 e
    subst ex_10
    try dsimp only at h
    refine kw_iconst C (kdec dc_M_clears 27 rfl) 42 rfl rfl ⟨by decide, by decide⟩ ?_
    refine kw_istore_n (L' := [some (kr 0), some (ki 0)]) C (kdec dc_M_clears 28 rfl) rfl 43 rfl (by decide) rfl rfl ?_
    obtain ⟨ex_16, hl_17, h⟩ := kbind_h h
    refine lp_mm_clears_l43 C ?_ kFuel σ_12 0 hl_17
    · intro σ_18 e
      subst ex_16
      try dsimp only at h
      refine kw_aload_n C (kdec dc_M_clears 39 rfl) rfl 63 rfl rfl ?_
      refine kw_iconst C (kdec dc_M_clears 40 rfl) 64 rfl rfl ⟨by decide, by decide⟩ ?_
      obtain ⟨σ_19, eσ_19, h⟩ := klet_h h
      refine kw_putI C (kdec dc_M_clears 41 rfl) 67 rfl fp_M_M_290_0 ?_
      refine kw_sig eσ_19 ?_
      refine kw_aload_n C (kdec dc_M_clears 42 rfl) rfl 68 rfl rfl ?_
      refine kw_iconst C (kdec dc_M_clears 43 rfl) 69 rfl rfl ⟨by decide, by decide⟩ ?_
      obtain ⟨σ_20, eσ_20, h⟩ := klet_h h
      refine kw_putI C (kdec dc_M_clears 44 rfl) 72 rfl fp_M_M_293_0 ?_
      refine kw_sig eσ_20 ?_
      obtain rfl := Option.some.inj h
      exact kw_Q (hR _ rfl) (kw_return C (kdec dc_M_clears 45 rfl))
theorem mt_mm_clears (l0 : Launch) {σ : kM} {τ : kM} (h : mm_clears σ = some τ) : kMet l0 ky_M_clears prog_14_method_44_code 2 none R0_mm_clears kcl yM σ [kr 0] none τ := kMet.of' [some (kr 0), none] (by decide) (Nat.le_of_ble_eq_true rfl) ⟨rfl, trivial⟩ (fun x C => bd_mm_clears C σ h (fun τ e => by subst e; rfl))
def R0_mm_tries : Room := ({ frames := 1, cells := 0, slots := 0, locals := 21 } : Room)
def mm_tries_l2 (σ : kM) (x1 : Int) : Option ((kM × Int) ⊕ ((kM))) :=
  if 145 ≤ x1 then
    some (Sum.inr σ)
  else
    kchk (0 ≤ x1 ∧ x1 < 290) <|
    kchk (0 ≤ (w32 (145 + x1)) ∧ (w32 (145 + x1)) < 290) <|
    klet (kst σ 8 (kup (σ 8) ((w32 (145 + x1)).toNat) (σ 8 x1.toNat))) fun σ_3 =>
    klet (w32 (x1 + 1)) fun x1_4 =>
    some (Sum.inl (σ_3, x1_4))
set_option maxHeartbeats 4000000 in
theorem bd_mm_tries_l2 {x : kX} {l0 : Launch} {Q : State → Prop} (C : kCx x prog_14_method_45_code "PoetFinesModel" none kcl yM 2 l0 R0_mm_tries) (σ : kM) (x1 : Int) {out : (kM × Int) ⊕ ((kM))} (h : mm_tries_l2 σ x1 = some out) (hC : ∀ (σ' : kM) (x1' : Int), out = Sum.inl (σ', x1') → KW x 0 0 Q σ' 2 [some (kr 0), some (ki x1')] []) (hX31 : ∀ (σ' : kM), out = Sum.inr σ' → KW x 0 0 Q σ' 31 [some (kr 0), none] []) : KW x 0 0 Q σ 2 [some (kr 0), some (ki x1)] [] := by
  unfold mm_tries_l2 at h
  refine kw_iload_n C (kdec dc_M_tries 2 rfl) rfl 3 rfl rfl ?_
  refine kw_sipush (v := 145) C (kdec dc_M_tries 3 rfl) 6 rfl (by decide) ⟨by decide, by decide⟩ ?_
  refine kw_icmp_ge C (kdec dc_M_tries 4 rfl) 31 9 (by decide) rfl (fun hc6 => ?_) (fun hc6 => ?_)
  · rw [if_pos hc6] at h
    obtain rfl := Option.some.inj h
    exact kw_sub (L' := [some (kr 0), none]) ⟨rfl, trivial⟩ (hX31 _ rfl)
  · rw [if_neg hc6] at h
    refine kw_aload_n C (kdec dc_M_tries 5 rfl) rfl 10 rfl rfl ?_
    refine kw_getR C (kdec dc_M_tries 6 rfl) 13 rfl fd_M_M_48_0 ?_
    refine kw_sipush (v := 145) C (kdec dc_M_tries 7 rfl) 16 rfl (by decide) ⟨by decide, by decide⟩ ?_
    refine kw_iload_n C (kdec dc_M_tries 8 rfl) rfl 17 rfl rfl ?_
    refine kw_iadd C (kdec dc_M_tries 9 rfl) 18 rfl ?_
    refine kw_aload_n C (kdec dc_M_tries 10 rfl) rfl 19 rfl rfl ?_
    refine kw_getR C (kdec dc_M_tries 11 rfl) 22 rfl fd_M_M_48_0 ?_
    refine kw_iload_n C (kdec dc_M_tries 12 rfl) rfl 23 rfl rfl ?_
    obtain ⟨hc_1, h⟩ := kchk_h h
    refine kw_iald C (kdec dc_M_tries 13 rfl) 24 rfl rfl hc_1.1 hc_1.2 ?_
    obtain ⟨hc_2, h⟩ := kchk_h h
    obtain ⟨σ_3, eσ_3, h⟩ := klet_h h
    refine kw_iast C (kdec dc_M_tries 14 rfl) 25 rfl rfl hc_2.1 hc_2.2 ?_
    refine kw_sig eσ_3 ?_
    obtain ⟨x1_4, ex1_4, h⟩ := klet_h h
    refine kw_iinc (L' := [some (kr 0), some (ki x1_4)]) C (kdec dc_M_tries 15 rfl) 28 rfl rfl (by decide) rfl (by rw [ex1_4]; rfl) ?_
    refine kw_goto C (kdec dc_M_tries 16 rfl) 2 (by decide) ?_
    obtain rfl := Option.some.inj h
    exact (hC _ _ rfl)
theorem lp_mm_tries_l2 {x : kX} {l0 : Launch} {Q : State → Prop} (C : kCx x prog_14_method_45_code "PoetFinesModel" none kcl yM 2 l0 R0_mm_tries) {ex : (kM)} (hX31 : ∀ (σ' : kM), ex = σ' → KW x 0 0 Q σ' 31 [some (kr 0), none] []) (n : Nat) (σ : kM) (x1 : Int) (h : kloop (fun st => mm_tries_l2 st.1 st.2) n (σ, x1) = some ex) : KW x 0 0 Q σ 2 [some (kr 0), some (ki x1)] [] :=
  kloop_ind (P := (fun st : kM × Int => KW x 0 0 Q st.1 2 [some (kr 0), some (ki (st.2))] [])) (fun st out hb hc hx => bd_mm_tries_l2 C st.1 st.2 hb (fun a0 a1 e => hc _ e) (fun a0 e => hX31 _ ((hx _ e).symm))) n (σ, x1) h
def mm_tries (σ : kM) : Option (kM) :=
  (kloop (fun st => mm_tries_l2 st.1 st.2) kFuel (σ, 0)).bind fun σ_7 =>
  (mm_clears σ_7).bind fun σ_8 =>
  some σ_8
set_option maxHeartbeats 4000000 in
theorem bd_mm_tries {x : kX} {l0 : Launch} {Q : State → Prop} (C : kCx x prog_14_method_45_code "PoetFinesModel" none kcl yM 2 l0 R0_mm_tries) (σ : kM) {out : kM} (h : mm_tries σ = some out) (hR : ∀ (τ : kM), out = τ → Q = kQ x none τ 0 0) : KW x 0 0 Q σ 0 [some (kr 0), none] [] := by
  unfold mm_tries at h
  refine kw_iconst C (kdec dc_M_tries 0 rfl) 1 rfl rfl ⟨by decide, by decide⟩ ?_
  refine kw_istore_n (L' := [some (kr 0), some (ki 0)]) C (kdec dc_M_tries 1 rfl) rfl 2 rfl (by decide) rfl rfl ?_
  obtain ⟨ex_5, hl_6, h⟩ := kbind_h h
  refine lp_mm_tries_l2 C ?_ kFuel σ 0 hl_6
  · intro σ_7 e
    subst ex_5
    try dsimp only at h
    refine kw_aload_n C (kdec dc_M_tries 17 rfl) rfl 32 rfl rfl ?_
    obtain ⟨σ_8, hg_9, h⟩ := kbind_h h
    refine kw_callV (As := []) C (kdec dc_M_tries 18 rfl) 35 rfl cv_M_296 rfl rfl (mt_mm_clears l0 hg_9) ⟨rfl, rfl⟩ ⟨Nat.le_of_ble_eq_true rfl, Nat.le_of_ble_eq_true rfl⟩ ⟨Nat.zero_le _, Nat.zero_le _⟩ rfl (Nat.le_of_ble_eq_true rfl) ?_
    change KW x 0 0 Q σ_8 35 [some (kr 0), none] []
    obtain rfl := Option.some.inj h
    exact kw_Q (hR _ rfl) (kw_return C (kdec dc_M_tries 19 rfl))
theorem mt_mm_tries (l0 : Launch) {σ : kM} {τ : kM} (h : mm_tries σ = some τ) : kMet l0 ky_M_tries prog_14_method_45_code 2 none R0_mm_tries kcl yM σ [kr 0] none τ := kMet.of' [some (kr 0), none] (by decide) (Nat.le_of_ble_eq_true rfl) ⟨rfl, trivial⟩ (fun x C => bd_mm_tries C σ h (fun τ e => by subst e; rfl))
def R0_mm_works : Room := ({ frames := 0, cells := 0, slots := 0, locals := 0 } : Room)
def mm_works (σ : kM) (x0 : Int) (x1 : Int) (x2 : Int) : Option (Int) :=
  if x0 = 4 then
    if x1 = 0 then
      some 0
    else
      if x2 = 0 then
        some 0
      else
        some 1
  else
    if x0 = 5 then
      if x1 = 0 then
        if x2 = 0 then
          some 0
        else
          some 1
      else
        some 1
    else
      if x0 = 6 then
        if x2 ≤ x1 then
          some 0
        else
          some 1
      else
        if x0 = 7 then
          if x1 = x2 then
            some 1
          else
            some 0
        else
          if x0 = 8 then
            some (w32 (x1 + x2))
          else
            if x0 = 9 then
              some (w32 (x1 - x2))
            else
              if x0 = 10 then
                some (w32 (x1 * x2))
              else
                if x2 = 0 then
                  some 0
                else
                  kchk (¬ x2 = 0) <|
                  some (kdiv x1 x2)
set_option maxHeartbeats 4000000 in
theorem bd_mm_works {x : kX} {l0 : Launch} {Q : State → Prop} (C : kCx x prog_14_method_46_code "PoetFinesModel" (some .int) kcl yM 3 l0 R0_mm_works) (σ : kM) (x0 : Int) (x1 : Int) (x2 : Int) {out : Int} (h : mm_works σ x0 x1 x2 = some out) (hR : ∀ (r : Int), out = r → Q = kQ x (some (ki r)) σ 0 0) : KW x 0 0 Q σ 0 [some (ki x0), some (ki x1), some (ki x2)] [] := by
  unfold mm_works at h
  refine kw_iload_n C (kdec dc_M_works 0 rfl) rfl 1 rfl rfl ?_
  by_cases hc1_0 : x0 = 4
  · rw [if_pos hc1_0] at h
    refine kw_table C (kdec dc_M_works 1 rfl) 44 (Or.inr ⟨by omega, by omega, _, by rw [hc1_0]; rfl, by decide⟩) ?_
    refine kw_iload_n C (kdec dc_M_works 2 rfl) rfl 45 rfl rfl ?_
    refine kw_if_eq C (kdec dc_M_works 3 rfl) 56 48 (by decide) rfl (fun hc45 => ?_) (fun hc45 => ?_)
    · rw [if_pos hc45] at h
      refine kw_iconst C (kdec dc_M_works 8 rfl) 57 rfl rfl ⟨by decide, by decide⟩ ?_
      obtain rfl := Option.some.inj h
      exact kw_Q (hR _ rfl) (kw_ireturn C (kdec dc_M_works 9 rfl))
    · rw [if_neg hc45] at h
      refine kw_iload_n C (kdec dc_M_works 4 rfl) rfl 49 rfl rfl ?_
      refine kw_if_eq C (kdec dc_M_works 5 rfl) 56 52 (by decide) rfl (fun hc49 => ?_) (fun hc49 => ?_)
      · rw [if_pos hc49] at h
        refine kw_iconst C (kdec dc_M_works 8 rfl) 57 rfl rfl ⟨by decide, by decide⟩ ?_
        obtain rfl := Option.some.inj h
        exact kw_Q (hR _ rfl) (kw_ireturn C (kdec dc_M_works 9 rfl))
      · rw [if_neg hc49] at h
        refine kw_iconst C (kdec dc_M_works 6 rfl) 53 rfl rfl ⟨by decide, by decide⟩ ?_
        refine kw_goto C (kdec dc_M_works 7 rfl) 57 (by decide) ?_
        obtain rfl := Option.some.inj h
        exact kw_Q (hR _ rfl) (kw_ireturn C (kdec dc_M_works 9 rfl))
  · rw [if_neg hc1_0] at h
    by_cases hc1_1 : x0 = 5
    · rw [if_pos hc1_1] at h
      refine kw_table C (kdec dc_M_works 1 rfl) 58 (Or.inr ⟨by omega, by omega, _, by rw [hc1_1]; rfl, by decide⟩) ?_
      refine kw_iload_n C (kdec dc_M_works 10 rfl) rfl 59 rfl rfl ?_
      refine kw_if_ne C (kdec dc_M_works 11 rfl) 66 62 (by decide) rfl (fun hc59 => ?_) (fun hc59 => ?_)
      · rw [if_neg hc59] at h
        refine kw_iconst C (kdec dc_M_works 14 rfl) 67 rfl rfl ⟨by decide, by decide⟩ ?_
        refine kw_goto C (kdec dc_M_works 15 rfl) 71 (by decide) ?_
        obtain rfl := Option.some.inj h
        exact kw_Q (hR _ rfl) (kw_ireturn C (kdec dc_M_works 17 rfl))
      · rw [if_pos hc59] at h
        refine kw_iload_n C (kdec dc_M_works 12 rfl) rfl 63 rfl rfl ?_
        refine kw_if_eq C (kdec dc_M_works 13 rfl) 70 66 (by decide) rfl (fun hc63 => ?_) (fun hc63 => ?_)
        · rw [if_pos hc63] at h
          refine kw_iconst C (kdec dc_M_works 16 rfl) 71 rfl rfl ⟨by decide, by decide⟩ ?_
          obtain rfl := Option.some.inj h
          exact kw_Q (hR _ rfl) (kw_ireturn C (kdec dc_M_works 17 rfl))
        · rw [if_neg hc63] at h
          refine kw_iconst C (kdec dc_M_works 14 rfl) 67 rfl rfl ⟨by decide, by decide⟩ ?_
          refine kw_goto C (kdec dc_M_works 15 rfl) 71 (by decide) ?_
          obtain rfl := Option.some.inj h
          exact kw_Q (hR _ rfl) (kw_ireturn C (kdec dc_M_works 17 rfl))
    · rw [if_neg hc1_1] at h
      by_cases hc1_2 : x0 = 6
      · rw [if_pos hc1_2] at h
        refine kw_table C (kdec dc_M_works 1 rfl) 72 (Or.inr ⟨by omega, by omega, _, by rw [hc1_2]; rfl, by decide⟩) ?_
        refine kw_iload_n C (kdec dc_M_works 18 rfl) rfl 73 rfl rfl ?_
        refine kw_iload_n C (kdec dc_M_works 19 rfl) rfl 74 rfl rfl ?_
        refine kw_icmp_ge C (kdec dc_M_works 20 rfl) 81 77 (by decide) rfl (fun hc74 => ?_) (fun hc74 => ?_)
        · rw [if_pos hc74] at h
          refine kw_iconst C (kdec dc_M_works 23 rfl) 82 rfl rfl ⟨by decide, by decide⟩ ?_
          obtain rfl := Option.some.inj h
          exact kw_Q (hR _ rfl) (kw_ireturn C (kdec dc_M_works 24 rfl))
        · rw [if_neg hc74] at h
          refine kw_iconst C (kdec dc_M_works 21 rfl) 78 rfl rfl ⟨by decide, by decide⟩ ?_
          refine kw_goto C (kdec dc_M_works 22 rfl) 82 (by decide) ?_
          obtain rfl := Option.some.inj h
          exact kw_Q (hR _ rfl) (kw_ireturn C (kdec dc_M_works 24 rfl))
      · rw [if_neg hc1_2] at h
        by_cases hc1_3 : x0 = 7
        · rw [if_pos hc1_3] at h
          refine kw_table C (kdec dc_M_works 1 rfl) 83 (Or.inr ⟨by omega, by omega, _, by rw [hc1_3]; rfl, by decide⟩) ?_
          refine kw_iload_n C (kdec dc_M_works 25 rfl) rfl 84 rfl rfl ?_
          refine kw_iload_n C (kdec dc_M_works 26 rfl) rfl 85 rfl rfl ?_
          refine kw_icmp_ne C (kdec dc_M_works 27 rfl) 92 88 (by decide) rfl (fun hc85 => ?_) (fun hc85 => ?_)
          · rw [if_neg hc85] at h
            refine kw_iconst C (kdec dc_M_works 30 rfl) 93 rfl rfl ⟨by decide, by decide⟩ ?_
            obtain rfl := Option.some.inj h
            exact kw_Q (hR _ rfl) (kw_ireturn C (kdec dc_M_works 31 rfl))
          · rw [if_pos hc85] at h
            refine kw_iconst C (kdec dc_M_works 28 rfl) 89 rfl rfl ⟨by decide, by decide⟩ ?_
            refine kw_goto C (kdec dc_M_works 29 rfl) 93 (by decide) ?_
            obtain rfl := Option.some.inj h
            exact kw_Q (hR _ rfl) (kw_ireturn C (kdec dc_M_works 31 rfl))
        · rw [if_neg hc1_3] at h
          by_cases hc1_4 : x0 = 8
          · rw [if_pos hc1_4] at h
            refine kw_table C (kdec dc_M_works 1 rfl) 94 (Or.inr ⟨by omega, by omega, _, by rw [hc1_4]; rfl, by decide⟩) ?_
            refine kw_iload_n C (kdec dc_M_works 32 rfl) rfl 95 rfl rfl ?_
            refine kw_iload_n C (kdec dc_M_works 33 rfl) rfl 96 rfl rfl ?_
            refine kw_iadd C (kdec dc_M_works 34 rfl) 97 rfl ?_
            obtain rfl := Option.some.inj h
            exact kw_Q (hR _ rfl) (kw_ireturn C (kdec dc_M_works 35 rfl))
          · rw [if_neg hc1_4] at h
            by_cases hc1_5 : x0 = 9
            · rw [if_pos hc1_5] at h
              refine kw_table C (kdec dc_M_works 1 rfl) 98 (Or.inr ⟨by omega, by omega, _, by rw [hc1_5]; rfl, by decide⟩) ?_
              refine kw_iload_n C (kdec dc_M_works 36 rfl) rfl 99 rfl rfl ?_
              refine kw_iload_n C (kdec dc_M_works 37 rfl) rfl 100 rfl rfl ?_
              refine kw_isub C (kdec dc_M_works 38 rfl) 101 rfl ?_
              obtain rfl := Option.some.inj h
              exact kw_Q (hR _ rfl) (kw_ireturn C (kdec dc_M_works 39 rfl))
            · rw [if_neg hc1_5] at h
              by_cases hc1_6 : x0 = 10
              · rw [if_pos hc1_6] at h
                refine kw_table C (kdec dc_M_works 1 rfl) 102 (Or.inr ⟨by omega, by omega, _, by rw [hc1_6]; rfl, by decide⟩) ?_
                refine kw_iload_n C (kdec dc_M_works 40 rfl) rfl 103 rfl rfl ?_
                refine kw_iload_n C (kdec dc_M_works 41 rfl) rfl 104 rfl rfl ?_
                refine kw_imul C (kdec dc_M_works 42 rfl) 105 rfl ?_
                obtain rfl := Option.some.inj h
                exact kw_Q (hR _ rfl) (kw_ireturn C (kdec dc_M_works 43 rfl))
              · rw [if_neg hc1_6] at h
                refine kw_table C (kdec dc_M_works 1 rfl) 106 (Or.inl ⟨by omega, by decide⟩) ?_
                refine kw_iload_n C (kdec dc_M_works 44 rfl) rfl 107 rfl rfl ?_
                refine kw_if_ne C (kdec dc_M_works 45 rfl) 114 110 (by decide) rfl (fun hc107 => ?_) (fun hc107 => ?_)
                · rw [if_neg hc107] at h
                  refine kw_iload_n C (kdec dc_M_works 48 rfl) rfl 115 rfl rfl ?_
                  refine kw_iload_n C (kdec dc_M_works 49 rfl) rfl 116 rfl rfl ?_
                  obtain ⟨hc_1, h⟩ := kchk_h h
                  refine kw_idiv C (kdec dc_M_works 50 rfl) 117 rfl hc_1 ?_
                  obtain rfl := Option.some.inj h
                  exact kw_Q (hR _ rfl) (kw_ireturn C (kdec dc_M_works 51 rfl))
                · rw [if_pos hc107] at h
                  refine kw_iconst C (kdec dc_M_works 46 rfl) 111 rfl rfl ⟨by decide, by decide⟩ ?_
                  refine kw_goto C (kdec dc_M_works 47 rfl) 117 (by decide) ?_
                  obtain rfl := Option.some.inj h
                  exact kw_Q (hR _ rfl) (kw_ireturn C (kdec dc_M_works 51 rfl))
theorem mt_mm_works (l0 : Launch) {σ : kM} {x0 : Int} {x1 : Int} {x2 : Int} {r : Int} (h : mm_works σ x0 x1 x2 = some r) : kMet l0 ky_M_works prog_14_method_46_code 3 (some .int) R0_mm_works kcl yM σ [ki x0, ki x1, ki x2] (some (ki r)) σ := kMet.of' [some (ki x0), some (ki x1), some (ki x2)] (by decide) (Nat.le_of_ble_eq_true rfl) ⟨rfl, rfl, rfl, trivial⟩ (fun x C => bd_mm_works C σ x0 x1 x2 h (fun r e => by subst e; rfl))
def R0_mm_reckons : Room := ({ frames := 1, cells := 0, slots := 0, locals := 22 } : Room)
def mm_reckons_l4_j140 (σ : kM) (x2 : Int) (x3 : Int) : Option ((kM × Int × Int) ⊕ ((kM))) :=
  some (Sum.inl (σ, x2, x3))
set_option maxHeartbeats 4000000 in
theorem bd_mm_reckons_l4_j140 {x : kX} {l0 : Launch} {Q : State → Prop} (C : kCx x prog_14_method_47_code "PoetFinesModel" (some .int) kcl yM 5 l0 R0_mm_reckons) (σ : kM) (x2 : Int) (x3 : Int) {out : (kM × Int × Int) ⊕ ((kM))} (h : mm_reckons_l4_j140 σ x2 x3 = some out) (hC : ∀ (σ' : kM) (x2' : Int) (x3' : Int), out = Sum.inl (σ', x2', x3') → KW x 0 0 Q σ' 4 [some (kr 0), none, some (ki x2'), some (ki x3'), none] []) (hX143 : ∀ (σ' : kM), out = Sum.inr σ' → KW x 0 0 Q σ' 143 [some (kr 0), none, none, none, none] []) : KW x 0 0 Q σ 140 [some (kr 0), none, some (ki x2), some (ki x3), none] [] := by
  unfold mm_reckons_l4_j140 at h
  refine kw_goto C (kdec dc_M_reckons 82 rfl) 4 (by decide) ?_
  obtain rfl := Option.some.inj h
  exact (hC _ _ _ rfl)
def mm_reckons_l4_j67 (σ : kM) (x2 : Int) (x3 : Int) (s0 : Int) (s1 : Int) : Option ((kM × Int × Int) ⊕ ((kM))) :=
  kchk (0 ≤ s1 ∧ s1 < 950) <|
  klet (kst σ 16 (kup (σ 16) s1.toNat s0)) fun σ_8 =>
  klet (w32 (x3 + 1)) fun x3_9 =>
  klet (w32 (x2 + 1)) fun x2_10 =>
  mm_reckons_l4_j140 σ_8 x2_10 x3_9
set_option maxHeartbeats 4000000 in
theorem bd_mm_reckons_l4_j67 {x : kX} {l0 : Launch} {Q : State → Prop} (C : kCx x prog_14_method_47_code "PoetFinesModel" (some .int) kcl yM 5 l0 R0_mm_reckons) (σ : kM) (x2 : Int) (x3 : Int) (s0 : Int) (s1 : Int) {out : (kM × Int × Int) ⊕ ((kM))} (h : mm_reckons_l4_j67 σ x2 x3 s0 s1 = some out) (hC : ∀ (σ' : kM) (x2' : Int) (x3' : Int), out = Sum.inl (σ', x2', x3') → KW x 0 0 Q σ' 4 [some (kr 0), none, some (ki x2'), some (ki x3'), none] []) (hX143 : ∀ (σ' : kM), out = Sum.inr σ' → KW x 0 0 Q σ' 143 [some (kr 0), none, none, none, none] []) : KW x 0 0 Q σ 67 [some (kr 0), none, some (ki x2), some (ki x3), none] [ki s0, ki s1, kr 16] := by
  unfold mm_reckons_l4_j67 at h
  obtain ⟨hc_7, h⟩ := kchk_h h
  obtain ⟨σ_8, eσ_8, h⟩ := klet_h h
  refine kw_iast C (kdec dc_M_reckons 39 rfl) 68 rfl rfl hc_7.1 hc_7.2 ?_
  refine kw_sig eσ_8 ?_
  obtain ⟨x3_9, ex3_9, h⟩ := klet_h h
  refine kw_iinc (L' := [some (kr 0), none, some (ki x2), some (ki x3_9), none]) C (kdec dc_M_reckons 40 rfl) 71 rfl rfl (by decide) rfl (by rw [ex3_9]; rfl) ?_
  obtain ⟨x2_10, ex2_10, h⟩ := klet_h h
  refine kw_iinc (L' := [some (kr 0), none, some (ki x2_10), some (ki x3_9), none]) C (kdec dc_M_reckons 41 rfl) 74 rfl rfl (by decide) rfl (by rw [ex2_10]; rfl) ?_
  refine kw_goto C (kdec dc_M_reckons 42 rfl) 140 (by decide) ?_
  exact bd_mm_reckons_l4_j140 C σ_8 x2_10 x3_9 h hC hX143
def mm_reckons_l4_j36 (σ : kM) (x2 : Int) (x3 : Int) (x4 : Int) : Option ((kM × Int × Int) ⊕ ((kM))) :=
  if x4 = 1 then
    kchk (0 ≤ x3 ∧ x3 < 1400) <|
    mm_reckons_l4_j67 σ x2 x3 (σ 1 x3.toNat) x2
  else
    kchk (0 ≤ x3 ∧ x3 < 1400) <|
    kchk (0 ≤ (σ 1 x3.toNat) ∧ (σ 1 x3.toNat) < 8) <|
    mm_reckons_l4_j67 σ x2 x3 (σ 15 (σ 1 x3.toNat).toNat) x2
set_option maxHeartbeats 4000000 in
theorem bd_mm_reckons_l4_j36 {x : kX} {l0 : Launch} {Q : State → Prop} (C : kCx x prog_14_method_47_code "PoetFinesModel" (some .int) kcl yM 5 l0 R0_mm_reckons) (σ : kM) (x2 : Int) (x3 : Int) (x4 : Int) {out : (kM × Int × Int) ⊕ ((kM))} (h : mm_reckons_l4_j36 σ x2 x3 x4 = some out) (hC : ∀ (σ' : kM) (x2' : Int) (x3' : Int), out = Sum.inl (σ', x2', x3') → KW x 0 0 Q σ' 4 [some (kr 0), none, some (ki x2'), some (ki x3'), none] []) (hX143 : ∀ (σ' : kM), out = Sum.inr σ' → KW x 0 0 Q σ' 143 [some (kr 0), none, none, none, none] []) : KW x 0 0 Q σ 36 [some (kr 0), none, some (ki x2), some (ki x3), some (ki x4)] [] := by
  unfold mm_reckons_l4_j36 at h
  refine kw_aload_n C (kdec dc_M_reckons 21 rfl) rfl 37 rfl rfl ?_
  refine kw_getR C (kdec dc_M_reckons 22 rfl) 40 rfl fd_M_M_72_0 ?_
  refine kw_iload_n C (kdec dc_M_reckons 23 rfl) rfl 41 rfl rfl ?_
  refine kw_iload C (kdec dc_M_reckons 24 rfl) 43 rfl rfl ?_
  refine kw_iconst C (kdec dc_M_reckons 25 rfl) 44 rfl rfl ⟨by decide, by decide⟩ ?_
  refine kw_icmp_ne C (kdec dc_M_reckons 26 rfl) 56 47 (by decide) rfl (fun hc44 => ?_) (fun hc44 => ?_)
  · rw [if_neg hc44] at h
    refine kw_aload_n C (kdec dc_M_reckons 32 rfl) rfl 57 rfl rfl ?_
    refine kw_getR C (kdec dc_M_reckons 33 rfl) 60 rfl fd_M_M_69_0 ?_
    refine kw_aload_n C (kdec dc_M_reckons 34 rfl) rfl 61 rfl rfl ?_
    refine kw_getR C (kdec dc_M_reckons 35 rfl) 64 rfl fd_M_M_22_0 ?_
    refine kw_iload_n C (kdec dc_M_reckons 36 rfl) rfl 65 rfl rfl ?_
    obtain ⟨hc_5, h⟩ := kchk_h h
    refine kw_iald C (kdec dc_M_reckons 37 rfl) 66 rfl rfl hc_5.1 hc_5.2 ?_
    obtain ⟨hc_6, h⟩ := kchk_h h
    refine kw_iald C (kdec dc_M_reckons 38 rfl) 67 rfl rfl hc_6.1 hc_6.2 ?_
    exact kw_sub (L' := [some (kr 0), none, some (ki x2), some (ki x3), none]) ⟨rfl, rfl, rfl, trivial⟩ (bd_mm_reckons_l4_j67 C σ x2 x3 (σ 15 (σ 1 x3.toNat).toNat) x2 h hC hX143)
  · rw [if_pos hc44] at h
    refine kw_aload_n C (kdec dc_M_reckons 27 rfl) rfl 48 rfl rfl ?_
    refine kw_getR C (kdec dc_M_reckons 28 rfl) 51 rfl fd_M_M_22_0 ?_
    refine kw_iload_n C (kdec dc_M_reckons 29 rfl) rfl 52 rfl rfl ?_
    obtain ⟨hc_11, h⟩ := kchk_h h
    refine kw_iald C (kdec dc_M_reckons 30 rfl) 53 rfl rfl hc_11.1 hc_11.2 ?_
    refine kw_goto C (kdec dc_M_reckons 31 rfl) 67 (by decide) ?_
    exact kw_sub (L' := [some (kr 0), none, some (ki x2), some (ki x3), none]) ⟨rfl, rfl, rfl, trivial⟩ (bd_mm_reckons_l4_j67 C σ x2 x3 (σ 1 x3.toNat) x2 h hC hX143)
def mm_reckons_l4_j106 (σ : kM) (x2 : Int) (x3 : Int) (s0 : Int) (s1 : Int) : Option ((kM × Int × Int) ⊕ ((kM))) :=
  kchk (0 ≤ s1 ∧ s1 < 950) <|
  klet (kst σ 16 (kup (σ 16) s1.toNat s0)) fun σ_21 =>
  mm_reckons_l4_j140 σ_21 x2 x3
set_option maxHeartbeats 4000000 in
theorem bd_mm_reckons_l4_j106 {x : kX} {l0 : Launch} {Q : State → Prop} (C : kCx x prog_14_method_47_code "PoetFinesModel" (some .int) kcl yM 5 l0 R0_mm_reckons) (σ : kM) (x2 : Int) (x3 : Int) (s0 : Int) (s1 : Int) {out : (kM × Int × Int) ⊕ ((kM))} (h : mm_reckons_l4_j106 σ x2 x3 s0 s1 = some out) (hC : ∀ (σ' : kM) (x2' : Int) (x3' : Int), out = Sum.inl (σ', x2', x3') → KW x 0 0 Q σ' 4 [some (kr 0), none, some (ki x2'), some (ki x3'), none] []) (hX143 : ∀ (σ' : kM), out = Sum.inr σ' → KW x 0 0 Q σ' 143 [some (kr 0), none, none, none, none] []) : KW x 0 0 Q σ 106 [some (kr 0), none, some (ki x2), some (ki x3), none] [ki s0, ki s1, kr 16] := by
  unfold mm_reckons_l4_j106 at h
  obtain ⟨hc_20, h⟩ := kchk_h h
  obtain ⟨σ_21, eσ_21, h⟩ := klet_h h
  refine kw_iast C (kdec dc_M_reckons 61 rfl) 107 rfl rfl hc_20.1 hc_20.2 ?_
  refine kw_sig eσ_21 ?_
  refine kw_goto C (kdec dc_M_reckons 62 rfl) 140 (by decide) ?_
  exact bd_mm_reckons_l4_j140 C σ_21 x2 x3 h hC hX143
def mm_reckons_l4 (σ : kM) (x2 : Int) (x3 : Int) : Option ((kM × Int × Int) ⊕ ((kM))) :=
  kchk (0 ≤ x3 ∧ x3 < 1400) <|
  if (σ 1 x3.toNat) = 0 then
    some (Sum.inr σ)
  else
    kchk (0 ≤ x3 ∧ x3 < 1400) <|
    klet (σ 1 x3.toNat) fun x4_3 =>
    klet (w32 (x3 + 1)) fun x3_4 =>
    if x4_3 = 1 then
      mm_reckons_l4_j36 σ x2 x3_4 x4_3
    else
      if x4_3 = 2 then
        mm_reckons_l4_j36 σ x2 x3_4 x4_3
      else
        if x4_3 = 3 then
          kchk (0 ≤ (w32 (x2 - 1)) ∧ (w32 (x2 - 1)) < 950) <|
          if (σ 16 (w32 (x2 - 1)).toNat) = 0 then
            mm_reckons_l4_j106 σ x2 x3_4 1 (w32 (x2 - 1))
          else
            mm_reckons_l4_j106 σ x2 x3_4 0 (w32 (x2 - 1))
        else
          klet (w32 (x2 + (-1))) fun x2_12 =>
          kchk (0 ≤ (w32 (x2_12 - 1)) ∧ (w32 (x2_12 - 1)) < 950) <|
          kchk (0 ≤ x2_12 ∧ x2_12 < 950) <|
          (mm_works σ x4_3 (σ 16 (w32 (x2_12 - 1)).toNat) (σ 16 x2_12.toNat)).bind fun r_15 =>
          kchk (0 ≤ (w32 (x2_12 - 1)) ∧ (w32 (x2_12 - 1)) < 950) <|
          klet (kst σ 16 (kup (σ 16) ((w32 (x2_12 - 1)).toNat) r_15)) fun σ_17 =>
          mm_reckons_l4_j140 σ_17 x2_12 x3_4
set_option maxHeartbeats 4000000 in
theorem bd_mm_reckons_l4 {x : kX} {l0 : Launch} {Q : State → Prop} (C : kCx x prog_14_method_47_code "PoetFinesModel" (some .int) kcl yM 5 l0 R0_mm_reckons) (σ : kM) (x2 : Int) (x3 : Int) {out : (kM × Int × Int) ⊕ ((kM))} (h : mm_reckons_l4 σ x2 x3 = some out) (hC : ∀ (σ' : kM) (x2' : Int) (x3' : Int), out = Sum.inl (σ', x2', x3') → KW x 0 0 Q σ' 4 [some (kr 0), none, some (ki x2'), some (ki x3'), none] []) (hX143 : ∀ (σ' : kM), out = Sum.inr σ' → KW x 0 0 Q σ' 143 [some (kr 0), none, none, none, none] []) : KW x 0 0 Q σ 4 [some (kr 0), none, some (ki x2), some (ki x3), none] [] := by
  unfold mm_reckons_l4 at h
  refine kw_aload_n C (kdec dc_M_reckons 4 rfl) rfl 5 rfl rfl ?_
  refine kw_getR C (kdec dc_M_reckons 5 rfl) 8 rfl fd_M_M_22_0 ?_
  refine kw_iload_n C (kdec dc_M_reckons 6 rfl) rfl 9 rfl rfl ?_
  obtain ⟨hc_1, h⟩ := kchk_h h
  refine kw_iald C (kdec dc_M_reckons 7 rfl) 10 rfl rfl hc_1.1 hc_1.2 ?_
  refine kw_if_eq C (kdec dc_M_reckons 8 rfl) 143 13 (by decide) rfl (fun hc10 => ?_) (fun hc10 => ?_)
  · rw [if_pos hc10] at h
    obtain rfl := Option.some.inj h
    exact kw_sub (L' := [some (kr 0), none, none, none, none]) ⟨rfl, trivial⟩ (hX143 _ rfl)
  · rw [if_neg hc10] at h
    refine kw_aload_n C (kdec dc_M_reckons 9 rfl) rfl 14 rfl rfl ?_
    refine kw_getR C (kdec dc_M_reckons 10 rfl) 17 rfl fd_M_M_22_0 ?_
    refine kw_iload_n C (kdec dc_M_reckons 11 rfl) rfl 18 rfl rfl ?_
    obtain ⟨hc_2, h⟩ := kchk_h h
    refine kw_iald C (kdec dc_M_reckons 12 rfl) 19 rfl rfl hc_2.1 hc_2.2 ?_
    obtain ⟨x4_3, ex4_3, h⟩ := klet_h h
    refine kw_top ex4_3 ?_
    refine kw_istore (L' := [some (kr 0), none, some (ki x2), some (ki x3), some (ki x4_3)]) C (kdec dc_M_reckons 13 rfl) 21 rfl (by decide) rfl rfl ?_
    obtain ⟨x3_4, ex3_4, h⟩ := klet_h h
    refine kw_iinc (L' := [some (kr 0), none, some (ki x2), some (ki x3_4), some (ki x4_3)]) C (kdec dc_M_reckons 14 rfl) 24 rfl rfl (by decide) rfl (by rw [ex3_4]; rfl) ?_
    refine kw_iload C (kdec dc_M_reckons 15 rfl) 26 rfl rfl ?_
    refine kw_iconst C (kdec dc_M_reckons 16 rfl) 27 rfl rfl ⟨by decide, by decide⟩ ?_
    refine kw_icmp_eq C (kdec dc_M_reckons 17 rfl) 36 30 (by decide) rfl (fun hc27 => ?_) (fun hc27 => ?_)
    · rw [if_pos hc27] at h
      exact bd_mm_reckons_l4_j36 C σ x2 x3_4 x4_3 h hC hX143
    · rw [if_neg hc27] at h
      refine kw_iload C (kdec dc_M_reckons 18 rfl) 32 rfl rfl ?_
      refine kw_iconst C (kdec dc_M_reckons 19 rfl) 33 rfl rfl ⟨by decide, by decide⟩ ?_
      refine kw_icmp_ne C (kdec dc_M_reckons 20 rfl) 77 36 (by decide) rfl (fun hc33 => ?_) (fun hc33 => ?_)
      · rw [if_neg hc33] at h
        refine kw_iload C (kdec dc_M_reckons 43 rfl) 79 rfl rfl ?_
        refine kw_iconst C (kdec dc_M_reckons 44 rfl) 80 rfl rfl ⟨by decide, by decide⟩ ?_
        refine kw_icmp_ne C (kdec dc_M_reckons 45 rfl) 110 83 (by decide) rfl (fun hc80 => ?_) (fun hc80 => ?_)
        · rw [if_neg hc80] at h
          obtain ⟨x2_12, ex2_12, h⟩ := klet_h h
          refine kw_iinc (L' := [some (kr 0), none, some (ki x2_12), some (ki x3_4), some (ki x4_3)]) C (kdec dc_M_reckons 63 rfl) 113 rfl rfl (by decide) rfl (by rw [ex2_12]; rfl) ?_
          refine kw_aload_n C (kdec dc_M_reckons 64 rfl) rfl 114 rfl rfl ?_
          refine kw_getR C (kdec dc_M_reckons 65 rfl) 117 rfl fd_M_M_72_0 ?_
          refine kw_iload_n C (kdec dc_M_reckons 66 rfl) rfl 118 rfl rfl ?_
          refine kw_iconst C (kdec dc_M_reckons 67 rfl) 119 rfl rfl ⟨by decide, by decide⟩ ?_
          refine kw_isub C (kdec dc_M_reckons 68 rfl) 120 rfl ?_
          refine kw_iload C (kdec dc_M_reckons 69 rfl) 122 rfl rfl ?_
          refine kw_aload_n C (kdec dc_M_reckons 70 rfl) rfl 123 rfl rfl ?_
          refine kw_getR C (kdec dc_M_reckons 71 rfl) 126 rfl fd_M_M_72_0 ?_
          refine kw_iload_n C (kdec dc_M_reckons 72 rfl) rfl 127 rfl rfl ?_
          refine kw_iconst C (kdec dc_M_reckons 73 rfl) 128 rfl rfl ⟨by decide, by decide⟩ ?_
          refine kw_isub C (kdec dc_M_reckons 74 rfl) 129 rfl ?_
          obtain ⟨hc_13, h⟩ := kchk_h h
          refine kw_iald C (kdec dc_M_reckons 75 rfl) 130 rfl rfl hc_13.1 hc_13.2 ?_
          refine kw_aload_n C (kdec dc_M_reckons 76 rfl) rfl 131 rfl rfl ?_
          refine kw_getR C (kdec dc_M_reckons 77 rfl) 134 rfl fd_M_M_72_0 ?_
          refine kw_iload_n C (kdec dc_M_reckons 78 rfl) rfl 135 rfl rfl ?_
          obtain ⟨hc_14, h⟩ := kchk_h h
          refine kw_iald C (kdec dc_M_reckons 79 rfl) 136 rfl rfl hc_14.1 hc_14.2 ?_
          obtain ⟨r_15, hg_18, h⟩ := kbind_h h
          refine kw_callS (As := [ki x4_3, ki (σ 16 (w32 (x2_12 - 1)).toNat), ki (σ 16 x2_12.toNat)]) C (kdec dc_M_reckons 80 rfl) 139 rfl cs_M_299 (mt_mm_works l0 hg_18) ⟨rfl, rfl⟩ ⟨Nat.le_of_ble_eq_true rfl, Nat.le_of_ble_eq_true rfl⟩ ⟨Nat.zero_le _, Nat.zero_le _⟩ rfl (Nat.le_of_ble_eq_true rfl) ?_
          change KW x 0 0 Q σ 139 [some (kr 0), none, some (ki x2_12), some (ki x3_4), some (ki x4_3)] [ki r_15, ki (w32 (x2_12 - 1)), kr 16]
          obtain ⟨hc_16, h⟩ := kchk_h h
          obtain ⟨σ_17, eσ_17, h⟩ := klet_h h
          refine kw_iast C (kdec dc_M_reckons 81 rfl) 140 rfl rfl hc_16.1 hc_16.2 ?_
          refine kw_sig eσ_17 ?_
          exact kw_sub (L' := [some (kr 0), none, some (ki x2_12), some (ki x3_4), none]) ⟨rfl, rfl, rfl, trivial⟩ (bd_mm_reckons_l4_j140 C σ_17 x2_12 x3_4 h hC hX143)
        · rw [if_pos hc80] at h
          refine kw_aload_n C (kdec dc_M_reckons 46 rfl) rfl 84 rfl rfl ?_
          refine kw_getR C (kdec dc_M_reckons 47 rfl) 87 rfl fd_M_M_72_0 ?_
          refine kw_iload_n C (kdec dc_M_reckons 48 rfl) rfl 88 rfl rfl ?_
          refine kw_iconst C (kdec dc_M_reckons 49 rfl) 89 rfl rfl ⟨by decide, by decide⟩ ?_
          refine kw_isub C (kdec dc_M_reckons 50 rfl) 90 rfl ?_
          refine kw_aload_n C (kdec dc_M_reckons 51 rfl) rfl 91 rfl rfl ?_
          refine kw_getR C (kdec dc_M_reckons 52 rfl) 94 rfl fd_M_M_72_0 ?_
          refine kw_iload_n C (kdec dc_M_reckons 53 rfl) rfl 95 rfl rfl ?_
          refine kw_iconst C (kdec dc_M_reckons 54 rfl) 96 rfl rfl ⟨by decide, by decide⟩ ?_
          refine kw_isub C (kdec dc_M_reckons 55 rfl) 97 rfl ?_
          obtain ⟨hc_19, h⟩ := kchk_h h
          refine kw_iald C (kdec dc_M_reckons 56 rfl) 98 rfl rfl hc_19.1 hc_19.2 ?_
          refine kw_if_ne C (kdec dc_M_reckons 57 rfl) 105 101 (by decide) rfl (fun hc98 => ?_) (fun hc98 => ?_)
          · rw [if_neg hc98] at h
            refine kw_iconst C (kdec dc_M_reckons 60 rfl) 106 rfl rfl ⟨by decide, by decide⟩ ?_
            exact kw_sub (L' := [some (kr 0), none, some (ki x2), some (ki x3_4), none]) ⟨rfl, rfl, rfl, trivial⟩ (bd_mm_reckons_l4_j106 C σ x2 x3_4 0 (w32 (x2 - 1)) h hC hX143)
          · rw [if_pos hc98] at h
            refine kw_iconst C (kdec dc_M_reckons 58 rfl) 102 rfl rfl ⟨by decide, by decide⟩ ?_
            refine kw_goto C (kdec dc_M_reckons 59 rfl) 106 (by decide) ?_
            exact kw_sub (L' := [some (kr 0), none, some (ki x2), some (ki x3_4), none]) ⟨rfl, rfl, rfl, trivial⟩ (bd_mm_reckons_l4_j106 C σ x2 x3_4 1 (w32 (x2 - 1)) h hC hX143)
      · rw [if_pos hc33] at h
        exact bd_mm_reckons_l4_j36 C σ x2 x3_4 x4_3 h hC hX143
theorem lp_mm_reckons_l4 {x : kX} {l0 : Launch} {Q : State → Prop} (C : kCx x prog_14_method_47_code "PoetFinesModel" (some .int) kcl yM 5 l0 R0_mm_reckons) {ex : (kM)} (hX143 : ∀ (σ' : kM), ex = σ' → KW x 0 0 Q σ' 143 [some (kr 0), none, none, none, none] []) (n : Nat) (σ : kM) (x2 : Int) (x3 : Int) (h : kloop (fun st => mm_reckons_l4 st.1 st.2.1 st.2.2) n (σ, x2, x3) = some ex) : KW x 0 0 Q σ 4 [some (kr 0), none, some (ki x2), some (ki x3), none] [] :=
  kloop_ind (P := (fun st : kM × Int × Int => KW x 0 0 Q st.1 4 [some (kr 0), none, some (ki (st.2.1)), some (ki (st.2.2)), none] [])) (fun st out hb hc hx => bd_mm_reckons_l4 C st.1 st.2.1 st.2.2 hb (fun a0 a1 a2 e => hc _ e) (fun a0 e => hX143 _ ((hx _ e).symm))) n (σ, x2, x3) h
def mm_reckons (σ : kM) (x1 : Int) : Option (Int × kM) :=
  (kloop (fun st => mm_reckons_l4 st.1 st.2.1 st.2.2) kFuel (σ, 0, x1)).bind fun σ_24 =>
  some ((σ_24 16 (0 : Int).toNat, σ_24))
set_option maxHeartbeats 4000000 in
theorem bd_mm_reckons {x : kX} {l0 : Launch} {Q : State → Prop} (C : kCx x prog_14_method_47_code "PoetFinesModel" (some .int) kcl yM 5 l0 R0_mm_reckons) (σ : kM) (x1 : Int) {out : Int × kM} (h : mm_reckons σ x1 = some out) (hR : ∀ (r : Int) (τ : kM), out = (r, τ) → Q = kQ x (some (ki r)) τ 0 0) : KW x 0 0 Q σ 0 [some (kr 0), some (ki x1), none, none, none] [] := by
  unfold mm_reckons at h
  refine kw_iconst C (kdec dc_M_reckons 0 rfl) 1 rfl rfl ⟨by decide, by decide⟩ ?_
  refine kw_istore_n (L' := [some (kr 0), some (ki x1), some (ki 0), none, none]) C (kdec dc_M_reckons 1 rfl) rfl 2 rfl (by decide) rfl rfl ?_
  refine kw_iload_n C (kdec dc_M_reckons 2 rfl) rfl 3 rfl rfl ?_
  refine kw_istore_n (L' := [some (kr 0), some (ki x1), some (ki 0), some (ki x1), none]) C (kdec dc_M_reckons 3 rfl) rfl 4 rfl (by decide) rfl rfl ?_
  obtain ⟨ex_22, hl_23, h⟩ := kbind_h h
  refine kw_sub (L' := [some (kr 0), none, some (ki 0), some (ki x1), none]) ⟨rfl, rfl, rfl, trivial⟩ (lp_mm_reckons_l4 C ?_ kFuel σ 0 x1 hl_23)
  · intro σ_24 e
    subst ex_22
    try dsimp only at h
    refine kw_aload_n C (kdec dc_M_reckons 83 rfl) rfl 144 rfl rfl ?_
    refine kw_getR C (kdec dc_M_reckons 84 rfl) 147 rfl fd_M_M_72_0 ?_
    refine kw_iconst C (kdec dc_M_reckons 85 rfl) 148 rfl rfl ⟨by decide, by decide⟩ ?_
    refine kw_iald C (kdec dc_M_reckons 86 rfl) 149 rfl rfl (by decide) (by decide) ?_
    obtain rfl := Option.some.inj h
    exact kw_Q (hR _ _ rfl) (kw_ireturn C (kdec dc_M_reckons 87 rfl))
theorem mt_mm_reckons (l0 : Launch) {σ : kM} {x1 : Int} {r : Int} {τ : kM} (h : mm_reckons σ x1 = some (r, τ)) : kMet l0 ky_M_reckons prog_14_method_47_code 5 (some .int) R0_mm_reckons kcl yM σ [kr 0, ki x1] (some (ki r)) τ := kMet.of' [some (kr 0), some (ki x1), none, none, none] (by decide) (Nat.le_of_ble_eq_true rfl) ⟨rfl, rfl, trivial⟩ (fun x C => bd_mm_reckons C σ x1 h (fun r τ e => by cases e; rfl))

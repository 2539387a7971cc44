def R0_mm_knownWord : Room := ({ frames := 2, cells := 0, slots := 0, locals := 47 } : Room)
def mm_knownWord_l21 (σ : kM) (x1 : Int) : Option ((Int) ⊕ ((Int) ⊕ (Unit))) :=
  if 17 ≤ x1 then
    some (Sum.inr (Sum.inr ()))
  else
    (mm_letters σ x1).bind fun r_1 =>
    if (kcmp r_1 (σ 0 20)) = 0 then
      some (Sum.inr (Sum.inl x1))
    else
      klet (w32 (x1 + 1)) fun x1_2 =>
      some (Sum.inl x1_2)
set_option maxHeartbeats 4000000 in
theorem bd_mm_knownWord_l21 {x : kX} {l0 : Launch} {Q : State → Prop} (C : kCx x prog_14_method_17_code "PoetFinesModel" (some .int) kcl yM 2 l0 R0_mm_knownWord) (σ : kM) (x1 : Int) {out : (Int) ⊕ ((Int) ⊕ (Unit))} (h : mm_knownWord_l21 σ x1 = some out) (hC : ∀ (x1' : Int), out = Sum.inl x1' → KW x 0 0 Q σ 21 [some (kr 0), some (ki x1')] []) (hX39 : ∀ (x1' : Int), out = Sum.inr (Sum.inl x1') → KW x 0 0 Q σ 39 [none, some (ki x1')] []) (hX47 : out = Sum.inr (Sum.inr ()) → KW x 0 0 Q σ 47 [none, none] []) : KW x 0 0 Q σ 21 [some (kr 0), some (ki x1)] [] := by
  unfold mm_knownWord_l21 at h
  refine kw_iload_n C (kdec dc_M_knownWord 12 rfl) rfl 22 rfl rfl ?_
  refine kw_bipush (v := 17) C (kdec dc_M_knownWord 13 rfl) 24 rfl (by decide) ⟨by decide, by decide⟩ ?_
  refine kw_icmp_ge C (kdec dc_M_knownWord 14 rfl) 47 27 (by decide) rfl (fun hc24 => ?_) (fun hc24 => ?_)
  · rw [if_pos hc24] at h
    obtain rfl := Option.some.inj h
    exact kw_sub (L' := [none, none]) trivial (hX47 rfl)
  · rw [if_neg hc24] at h
    refine kw_iload_n C (kdec dc_M_knownWord 15 rfl) rfl 28 rfl rfl ?_
    obtain ⟨r_1, hg_3, h⟩ := kbind_h h
    refine kw_callS (As := [ki x1]) C (kdec dc_M_knownWord 16 rfl) 31 rfl cs_M_151 (mt_mm_letters l0 hg_3) ⟨rfl, rfl⟩ ⟨Nat.le_of_ble_eq_true rfl, Nat.le_of_ble_eq_true rfl⟩ ⟨Nat.zero_le _, Nat.zero_le _⟩ rfl (Nat.le_of_ble_eq_true rfl) ?_
    change KW x 0 0 Q σ 31 [some (kr 0), some (ki x1)] [kl r_1]
    refine kw_aload_n C (kdec dc_M_knownWord 17 rfl) rfl 32 rfl rfl ?_
    refine kw_getL C (kdec dc_M_knownWord 18 rfl) 35 rfl fd_M_M_122_0 ?_
    refine kw_lcmp C (kdec dc_M_knownWord 19 rfl) 36 rfl ?_
    refine kw_if_ne C (kdec dc_M_knownWord 20 rfl) 41 39 (by decide) rfl (fun hc36 => ?_) (fun hc36 => ?_)
    · rw [if_neg hc36] at h
      obtain ⟨x1_2, ex1_2, h⟩ := klet_h h
      refine kw_iinc (L' := [some (kr 0), some (ki x1_2)]) C (kdec dc_M_knownWord 23 rfl) 44 rfl rfl (by decide) rfl (by rw [ex1_2]; rfl) ?_
      refine kw_goto C (kdec dc_M_knownWord 24 rfl) 21 (by decide) ?_
      obtain rfl := Option.some.inj h
      exact (hC _ rfl)
    · rw [if_pos hc36] at h
      obtain rfl := Option.some.inj h
      exact kw_sub (L' := [none, some (ki x1)]) ⟨rfl, trivial⟩ (hX39 _ rfl)
theorem lp_mm_knownWord_l21 {x : kX} {l0 : Launch} {Q : State → Prop} (C : kCx x prog_14_method_17_code "PoetFinesModel" (some .int) kcl yM 2 l0 R0_mm_knownWord) (σ : kM) {ex : (Int) ⊕ (Unit)} (hX39 : ∀ (x1' : Int), ex = (Sum.inl x1') → KW x 0 0 Q σ 39 [none, some (ki x1')] []) (hX47 : ex = (Sum.inr ()) → KW x 0 0 Q σ 47 [none, none] []) (n : Nat) (x1 : Int) (h : kloop (fun st => mm_knownWord_l21 σ st) n x1 = some ex) : KW x 0 0 Q σ 21 [some (kr 0), some (ki x1)] [] :=
  kloop_ind (P := (fun st : Int => KW x 0 0 Q σ 21 [some (kr 0), some (ki st)] [])) (fun st out hb hc hx => bd_mm_knownWord_l21 C σ st hb (fun a0 e => hc _ e) (fun a0 e => hX39 _ ((hx _ e).symm)) (fun e => hX47 ((hx _ e).symm))) n x1 h
def mm_knownWord (σ : kM) : Option (Int) :=
  if (σ 0 15) = 1 then
    if (σ 0 17) ≤ 6 then
      (kloop (fun st => mm_knownWord_l21 σ st) kFuel 0).bind fun ex_4 => match ex_4 with
        | (Sum.inl x1_6) =>
          some x1_6
        | (Sum.inr ()) =>
          some ((-1))
    else
      some ((-1))
  else
    some ((-1))
set_option maxHeartbeats 4000000 in
theorem bd_mm_knownWord {x : kX} {l0 : Launch} {Q : State → Prop} (C : kCx x prog_14_method_17_code "PoetFinesModel" (some .int) kcl yM 2 l0 R0_mm_knownWord) (σ : kM) {out : Int} (h : mm_knownWord σ = some out) (hR : ∀ (r : Int), out = r → Q = kQ x (some (ki r)) σ 0 0) : KW x 0 0 Q σ 0 [some (kr 0), none] [] := by
  unfold mm_knownWord at h
  refine kw_aload_n C (kdec dc_M_knownWord 0 rfl) rfl 1 rfl rfl ?_
  refine kw_getI C (kdec dc_M_knownWord 1 rfl) 4 rfl fd_M_M_132_0 ?_
  refine kw_iconst C (kdec dc_M_knownWord 2 rfl) 5 rfl rfl ⟨by decide, by decide⟩ ?_
  refine kw_icmp_ne C (kdec dc_M_knownWord 3 rfl) 17 8 (by decide) rfl (fun hc5 => ?_) (fun hc5 => ?_)
  · rw [if_neg hc5] at h
    refine kw_iconst C (kdec dc_M_knownWord 8 rfl) 18 rfl rfl ⟨by decide, by decide⟩ ?_
    obtain rfl := Option.some.inj h
    exact kw_Q (hR _ rfl) (kw_ireturn C (kdec dc_M_knownWord 9 rfl))
  · rw [if_pos hc5] at h
    refine kw_aload_n C (kdec dc_M_knownWord 4 rfl) rfl 9 rfl rfl ?_
    refine kw_getI C (kdec dc_M_knownWord 5 rfl) 12 rfl fd_M_M_142_0 ?_
    refine kw_bipush (v := 6) C (kdec dc_M_knownWord 6 rfl) 14 rfl (by decide) ⟨by decide, by decide⟩ ?_
    refine kw_icmp_le C (kdec dc_M_knownWord 7 rfl) 19 17 (by decide) rfl (fun hc14 => ?_) (fun hc14 => ?_)
    · rw [if_pos hc14] at h
      refine kw_iconst C (kdec dc_M_knownWord 10 rfl) 20 rfl rfl ⟨by decide, by decide⟩ ?_
      refine kw_istore_n (L' := [some (kr 0), some (ki 0)]) C (kdec dc_M_knownWord 11 rfl) rfl 21 rfl (by decide) rfl rfl ?_
      obtain ⟨ex_4, hl_5, h⟩ := kbind_h h
      refine lp_mm_knownWord_l21 C σ ?_ ?_ kFuel 0 hl_5
      · intro x1_6 e
        subst ex_4
        try dsimp only at h
        refine kw_iload_n C (kdec dc_M_knownWord 21 rfl) rfl 40 rfl rfl ?_
        obtain rfl := Option.some.inj h
        exact kw_Q (hR _ rfl) (kw_ireturn C (kdec dc_M_knownWord 22 rfl))
      · intro e
        subst ex_4
        try dsimp only at h
        refine kw_iconst C (kdec dc_M_knownWord 25 rfl) 48 rfl rfl ⟨by decide, by decide⟩ ?_
        obtain rfl := Option.some.inj h
        exact kw_Q (hR _ rfl) (kw_ireturn C (kdec dc_M_knownWord 26 rfl))
    · rw [if_neg hc14] at h
      refine kw_iconst C (kdec dc_M_knownWord 8 rfl) 18 rfl rfl ⟨by decide, by decide⟩ ?_
      obtain rfl := Option.some.inj h
      exact kw_Q (hR _ rfl) (kw_ireturn C (kdec dc_M_knownWord 9 rfl))
theorem mt_mm_knownWord (l0 : Launch) {σ : kM} {r : Int} (h : mm_knownWord σ = some r) : kMet l0 ky_M_knownWord prog_14_method_17_code 2 (some .int) R0_mm_knownWord kcl yM σ [kr 0] (some (ki r)) σ := kMet.of' [some (kr 0), none] (by decide) (Nat.le_of_ble_eq_true rfl) ⟨rfl, trivial⟩ (fun x C => bd_mm_knownWord C σ h (fun r e => by subst e; rfl))
def R0_mm_wrong : Room := ({ frames := 0, cells := 0, slots := 0, locals := 0 } : Room)
def mm_wrong (σ : kM) (x1 : Int) : Option (kM) :=
  if (σ 0 10) = 0 then
    klet (kst σ 0 (kup (σ 0) 10 x1)) fun σ_1 =>
    klet (kst σ_1 0 (kup (σ_1 0) 11 (σ_1 0 16))) fun σ_2 =>
    some σ_2
  else
    some σ
set_option maxHeartbeats 4000000 in
theorem bd_mm_wrong {x : kX} {l0 : Launch} {Q : State → Prop} (C : kCx x prog_14_method_18_code "PoetFinesModel" none kcl yM 2 l0 R0_mm_wrong) (σ : kM) (x1 : Int) {out : kM} (h : mm_wrong σ x1 = some out) (hR : ∀ (τ : kM), out = τ → Q = kQ x none τ 0 0) : KW x 0 0 Q σ 0 [some (kr 0), some (ki x1)] [] := by
  unfold mm_wrong at h
  refine kw_aload_n C (kdec dc_M_wrong 0 rfl) rfl 1 rfl rfl ?_
  refine kw_getI C (kdec dc_M_wrong 1 rfl) 4 rfl fd_M_M_155_0 ?_
  refine kw_if_eq C (kdec dc_M_wrong 2 rfl) 8 7 (by decide) rfl (fun hc4 => ?_) (fun hc4 => ?_)
  · rw [if_pos hc4] at h
    refine kw_aload_n C (kdec dc_M_wrong 4 rfl) rfl 9 rfl rfl ?_
    refine kw_iload_n C (kdec dc_M_wrong 5 rfl) rfl 10 rfl rfl ?_
    obtain ⟨σ_1, eσ_1, h⟩ := klet_h h
    refine kw_putI C (kdec dc_M_wrong 6 rfl) 13 rfl fp_M_M_155_0 ?_
    refine kw_sig eσ_1 ?_
    refine kw_aload_n C (kdec dc_M_wrong 7 rfl) rfl 14 rfl rfl ?_
    refine kw_aload_n C (kdec dc_M_wrong 8 rfl) rfl 15 rfl rfl ?_
    refine kw_getI C (kdec dc_M_wrong 9 rfl) 18 rfl fd_M_M_119_0 ?_
    obtain ⟨σ_2, eσ_2, h⟩ := klet_h h
    refine kw_putI C (kdec dc_M_wrong 10 rfl) 21 rfl fp_M_M_29_0 ?_
    refine kw_sig eσ_2 ?_
    obtain rfl := Option.some.inj h
    exact kw_Q (hR _ rfl) (kw_return C (kdec dc_M_wrong 11 rfl))
  · rw [if_neg hc4] at h
    obtain rfl := Option.some.inj h
    exact kw_Q (hR _ rfl) (kw_return C (kdec dc_M_wrong 3 rfl))
theorem mt_mm_wrong (l0 : Launch) {σ : kM} {x1 : Int} {τ : kM} (h : mm_wrong σ x1 = some τ) : kMet l0 ky_M_wrong prog_14_method_18_code 2 none R0_mm_wrong kcl yM σ [kr 0, ki x1] none τ := kMet.of' [some (kr 0), some (ki x1)] (by decide) (Nat.le_of_ble_eq_true rfl) ⟨rfl, rfl, trivial⟩ (fun x C => bd_mm_wrong C σ x1 h (fun τ e => by subst e; rfl))
def R0_mm_isGood : Room := ({ frames := 0, cells := 0, slots := 0, locals := 0 } : Room)
def mm_isGood (σ : kM) : Option (Int) :=
  if (σ 0 10) = 0 then
    some 1
  else
    some 0
set_option maxHeartbeats 4000000 in
theorem bd_mm_isGood {x : kX} {l0 : Launch} {Q : State → Prop} (C : kCx x prog_14_method_19_code "PoetFinesModel" (some .boolean) kcl yM 1 l0 R0_mm_isGood) (σ : kM) {out : Int} (h : mm_isGood σ = some out) (hR : ∀ (r : Int), out = r → Q = kQ x (some (ki r)) σ 0 0) : KW x 0 0 Q σ 0 [some (kr 0)] [] := by
  unfold mm_isGood at h
  refine kw_aload_n C (kdec dc_M_isGood 0 rfl) rfl 1 rfl rfl ?_
  refine kw_getI C (kdec dc_M_isGood 1 rfl) 4 rfl fd_M_M_155_0 ?_
  refine kw_if_ne C (kdec dc_M_isGood 2 rfl) 11 7 (by decide) rfl (fun hc4 => ?_) (fun hc4 => ?_)
  · rw [if_neg hc4] at h
    refine kw_iconst C (kdec dc_M_isGood 5 rfl) 12 rfl rfl ⟨by decide, by decide⟩ ?_
    obtain rfl := Option.some.inj h
    exact kw_Q (hR _ rfl) (kw_zreturn C (kdec dc_M_isGood 6 rfl) (by decide))
  · rw [if_pos hc4] at h
    refine kw_iconst C (kdec dc_M_isGood 3 rfl) 8 rfl rfl ⟨by decide, by decide⟩ ?_
    refine kw_goto C (kdec dc_M_isGood 4 rfl) 12 (by decide) ?_
    obtain rfl := Option.some.inj h
    exact kw_Q (hR _ rfl) (kw_zreturn C (kdec dc_M_isGood 6 rfl) (by decide))
theorem mt_mm_isGood (l0 : Launch) {σ : kM} {r : Int} (h : mm_isGood σ = some r) : kMet l0 ky_M_isGood prog_14_method_19_code 1 (some .boolean) R0_mm_isGood kcl yM σ [kr 0] (some (ki r)) σ := kMet.of' [some (kr 0)] (by decide) (Nat.le_of_ble_eq_true rfl) ⟨rfl, trivial⟩ (fun x C => bd_mm_isGood C σ h (fun r e => by subst e; rfl))
def R0_mm_isSign : Room := ({ frames := 0, cells := 0, slots := 0, locals := 0 } : Room)
def mm_isSign (σ : kM) (x1 : Int) : Option (Int) :=
  if (σ 0 15) = 3 then
    if (σ 0 19) = x1 then
      some 1
    else
      some 0
  else
    some 0
set_option maxHeartbeats 4000000 in
theorem bd_mm_isSign {x : kX} {l0 : Launch} {Q : State → Prop} (C : kCx x prog_14_method_20_code "PoetFinesModel" (some .boolean) kcl yM 2 l0 R0_mm_isSign) (σ : kM) (x1 : Int) {out : Int} (h : mm_isSign σ x1 = some out) (hR : ∀ (r : Int), out = r → Q = kQ x (some (ki r)) σ 0 0) : KW x 0 0 Q σ 0 [some (kr 0), some (ki x1)] [] := by
  unfold mm_isSign at h
  refine kw_aload_n C (kdec dc_M_isSign 0 rfl) rfl 1 rfl rfl ?_
  refine kw_getI C (kdec dc_M_isSign 1 rfl) 4 rfl fd_M_M_132_0 ?_
  refine kw_iconst C (kdec dc_M_isSign 2 rfl) 5 rfl rfl ⟨by decide, by decide⟩ ?_
  refine kw_icmp_ne C (kdec dc_M_isSign 3 rfl) 20 8 (by decide) rfl (fun hc5 => ?_) (fun hc5 => ?_)
  · rw [if_neg hc5] at h
    refine kw_iconst C (kdec dc_M_isSign 10 rfl) 21 rfl rfl ⟨by decide, by decide⟩ ?_
    obtain rfl := Option.some.inj h
    exact kw_Q (hR _ rfl) (kw_zreturn C (kdec dc_M_isSign 11 rfl) (by decide))
  · rw [if_pos hc5] at h
    refine kw_aload_n C (kdec dc_M_isSign 4 rfl) rfl 9 rfl rfl ?_
    refine kw_getI C (kdec dc_M_isSign 5 rfl) 12 rfl fd_M_M_129_0 ?_
    refine kw_iload_n C (kdec dc_M_isSign 6 rfl) rfl 13 rfl rfl ?_
    refine kw_icmp_ne C (kdec dc_M_isSign 7 rfl) 20 16 (by decide) rfl (fun hc13 => ?_) (fun hc13 => ?_)
    · rw [if_neg hc13] at h
      refine kw_iconst C (kdec dc_M_isSign 10 rfl) 21 rfl rfl ⟨by decide, by decide⟩ ?_
      obtain rfl := Option.some.inj h
      exact kw_Q (hR _ rfl) (kw_zreturn C (kdec dc_M_isSign 11 rfl) (by decide))
    · rw [if_pos hc13] at h
      refine kw_iconst C (kdec dc_M_isSign 8 rfl) 17 rfl rfl ⟨by decide, by decide⟩ ?_
      refine kw_goto C (kdec dc_M_isSign 9 rfl) 21 (by decide) ?_
      obtain rfl := Option.some.inj h
      exact kw_Q (hR _ rfl) (kw_zreturn C (kdec dc_M_isSign 11 rfl) (by decide))
theorem mt_mm_isSign (l0 : Launch) {σ : kM} {x1 : Int} {r : Int} (h : mm_isSign σ x1 = some r) : kMet l0 ky_M_isSign prog_14_method_20_code 2 (some .boolean) R0_mm_isSign kcl yM σ [kr 0, ki x1] (some (ki r)) σ := kMet.of' [some (kr 0), some (ki x1)] (by decide) (Nat.le_of_ble_eq_true rfl) ⟨rfl, rfl, trivial⟩ (fun x C => bd_mm_isSign C σ x1 h (fun r e => by subst e; rfl))
def R0_mm_need : Room := ({ frames := 2, cells := 0, slots := 0, locals := 42 } : Room)
def mm_need (σ : kM) (x1 : Int) : Option (kM) :=
  (mm_isGood σ).bind fun r_1 =>
  if r_1 = 0 then
    some σ
  else
    if x1 = 0 then
      (mm_wrong σ 1).bind fun σ_2 =>
      some σ_2
    else
      (mm_goes σ).bind fun σ_4 =>
      some σ_4
set_option maxHeartbeats 4000000 in
theorem bd_mm_need {x : kX} {l0 : Launch} {Q : State → Prop} (C : kCx x prog_14_method_21_code "PoetFinesModel" none kcl yM 2 l0 R0_mm_need) (σ : kM) (x1 : Int) {out : kM} (h : mm_need σ x1 = some out) (hR : ∀ (τ : kM), out = τ → Q = kQ x none τ 0 0) : KW x 0 0 Q σ 0 [some (kr 0), some (ki x1)] [] := by
  unfold mm_need at h
  refine kw_aload_n C (kdec dc_M_need 0 rfl) rfl 1 rfl rfl ?_
  obtain ⟨r_1, hg_6, h⟩ := kbind_h h
  refine kw_callV (As := []) C (kdec dc_M_need 1 rfl) 4 rfl cv_M_158 rfl rfl (mt_mm_isGood l0 hg_6) ⟨rfl, rfl⟩ ⟨Nat.le_of_ble_eq_true rfl, Nat.le_of_ble_eq_true rfl⟩ ⟨Nat.zero_le _, Nat.zero_le _⟩ rfl (Nat.le_of_ble_eq_true rfl) ?_
  change KW x 0 0 Q σ 4 [some (kr 0), some (ki x1)] [ki r_1]
  refine kw_if_ne C (kdec dc_M_need 2 rfl) 8 7 (by decide) rfl (fun hc4 => ?_) (fun hc4 => ?_)
  · rw [if_neg hc4] at h
    refine kw_iload_n C (kdec dc_M_need 4 rfl) rfl 9 rfl rfl ?_
    refine kw_if_eq C (kdec dc_M_need 5 rfl) 19 12 (by decide) rfl (fun hc9 => ?_) (fun hc9 => ?_)
    · rw [if_pos hc9] at h
      refine kw_aload_n C (kdec dc_M_need 9 rfl) rfl 20 rfl rfl ?_
      refine kw_iconst C (kdec dc_M_need 10 rfl) 21 rfl rfl ⟨by decide, by decide⟩ ?_
      obtain ⟨σ_2, hg_3, h⟩ := kbind_h h
      refine kw_callV (As := [ki 1]) C (kdec dc_M_need 11 rfl) 24 rfl cv_M_165 rfl rfl (mt_mm_wrong l0 hg_3) ⟨rfl, rfl⟩ ⟨Nat.le_of_ble_eq_true rfl, Nat.le_of_ble_eq_true rfl⟩ ⟨Nat.zero_le _, Nat.zero_le _⟩ rfl (Nat.le_of_ble_eq_true rfl) ?_
      change KW x 0 0 Q σ_2 24 [some (kr 0), some (ki x1)] []
      obtain rfl := Option.some.inj h
      exact kw_Q (hR _ rfl) (kw_return C (kdec dc_M_need 12 rfl))
    · rw [if_neg hc9] at h
      refine kw_aload_n C (kdec dc_M_need 6 rfl) rfl 13 rfl rfl ?_
      obtain ⟨σ_4, hg_5, h⟩ := kbind_h h
      refine kw_callV (As := []) C (kdec dc_M_need 7 rfl) 16 rfl cv_M_162 rfl rfl (mt_mm_goes l0 hg_5) ⟨rfl, rfl⟩ ⟨Nat.le_of_ble_eq_true rfl, Nat.le_of_ble_eq_true rfl⟩ ⟨Nat.zero_le _, Nat.zero_le _⟩ rfl (Nat.le_of_ble_eq_true rfl) ?_
      change KW x 0 0 Q σ_4 16 [some (kr 0), some (ki x1)] []
      refine kw_goto C (kdec dc_M_need 8 rfl) 24 (by decide) ?_
      obtain rfl := Option.some.inj h
      exact kw_Q (hR _ rfl) (kw_return C (kdec dc_M_need 12 rfl))
  · rw [if_pos hc4] at h
    obtain rfl := Option.some.inj h
    exact kw_Q (hR _ rfl) (kw_return C (kdec dc_M_need 3 rfl))
theorem mt_mm_need (l0 : Launch) {σ : kM} {x1 : Int} {τ : kM} (h : mm_need σ x1 = some τ) : kMet l0 ky_M_need prog_14_method_21_code 2 none R0_mm_need kcl yM σ [kr 0, ki x1] none τ := kMet.of' [some (kr 0), some (ki x1)] (by decide) (Nat.le_of_ble_eq_true rfl) ⟨rfl, rfl, trivial⟩ (fun x C => bd_mm_need C σ x1 h (fun τ e => by subst e; rfl))
def R0_mm_number : Room := ({ frames := 2, cells := 0, slots := 0, locals := 42 } : Room)
def mm_number_j54 (σ : kM) : Option (Int × kM) :=
  klet (σ 0 18) fun x3_3 =>
  (mm_isGood σ).bind fun r_4 =>
  if r_4 = 0 then
    some ((x3_3, σ))
  else
    (mm_goes σ).bind fun σ_5 =>
    some ((x3_3, σ_5))
set_option maxHeartbeats 4000000 in
theorem bd_mm_number_j54 {x : kX} {l0 : Launch} {Q : State → Prop} (C : kCx x prog_14_method_22_code "PoetFinesModel" (some .int) kcl yM 4 l0 R0_mm_number) (σ : kM) {out : Int × kM} (h : mm_number_j54 σ = some out) (hR : ∀ (r : Int) (τ : kM), out = (r, τ) → Q = kQ x (some (ki r)) τ 0 0) : KW x 0 0 Q σ 54 [some (kr 0), none, none, none] [] := by
  unfold mm_number_j54 at h
  refine kw_aload_n C (kdec dc_M_number 28 rfl) rfl 55 rfl rfl ?_
  refine kw_getI C (kdec dc_M_number 29 rfl) 58 rfl fd_M_M_126_0 ?_
  obtain ⟨x3_3, ex3_3, h⟩ := klet_h h
  refine kw_top ex3_3 ?_
  refine kw_istore_n (L' := [some (kr 0), none, none, some (ki x3_3)]) C (kdec dc_M_number 30 rfl) rfl 59 rfl (by decide) rfl rfl ?_
  refine kw_aload_n C (kdec dc_M_number 31 rfl) rfl 60 rfl rfl ?_
  obtain ⟨r_4, hg_7, h⟩ := kbind_h h
  refine kw_callV (As := []) C (kdec dc_M_number 32 rfl) 63 rfl cv_M_158 rfl rfl (mt_mm_isGood l0 hg_7) ⟨rfl, rfl⟩ ⟨Nat.le_of_ble_eq_true rfl, Nat.le_of_ble_eq_true rfl⟩ ⟨Nat.zero_le _, Nat.zero_le _⟩ rfl (Nat.le_of_ble_eq_true rfl) ?_
  change KW x 0 0 Q σ 63 [some (kr 0), none, none, some (ki x3_3)] [ki r_4]
  refine kw_if_eq C (kdec dc_M_number 33 rfl) 70 66 (by decide) rfl (fun hc63 => ?_) (fun hc63 => ?_)
  · rw [if_pos hc63] at h
    refine kw_iload_n C (kdec dc_M_number 36 rfl) rfl 71 rfl rfl ?_
    obtain rfl := Option.some.inj h
    exact kw_Q (hR _ _ rfl) (kw_ireturn C (kdec dc_M_number 37 rfl))
  · rw [if_neg hc63] at h
    refine kw_aload_n C (kdec dc_M_number 34 rfl) rfl 67 rfl rfl ?_
    obtain ⟨σ_5, hg_6, h⟩ := kbind_h h
    refine kw_callV (As := []) C (kdec dc_M_number 35 rfl) 70 rfl cv_M_162 rfl rfl (mt_mm_goes l0 hg_6) ⟨rfl, rfl⟩ ⟨Nat.le_of_ble_eq_true rfl, Nat.le_of_ble_eq_true rfl⟩ ⟨Nat.zero_le _, Nat.zero_le _⟩ rfl (Nat.le_of_ble_eq_true rfl) ?_
    change KW x 0 0 Q σ_5 70 [some (kr 0), none, none, some (ki x3_3)] []
    refine kw_iload_n C (kdec dc_M_number 36 rfl) rfl 71 rfl rfl ?_
    obtain rfl := Option.some.inj h
    exact kw_Q (hR _ _ rfl) (kw_ireturn C (kdec dc_M_number 37 rfl))
def mm_number_j49 (σ : kM) : Option (Int × kM) :=
  (mm_wrong σ 2).bind fun σ_2 =>
  mm_number_j54 σ_2
set_option maxHeartbeats 4000000 in
theorem bd_mm_number_j49 {x : kX} {l0 : Launch} {Q : State → Prop} (C : kCx x prog_14_method_22_code "PoetFinesModel" (some .int) kcl yM 4 l0 R0_mm_number) (σ : kM) {out : Int × kM} (h : mm_number_j49 σ = some out) (hR : ∀ (r : Int) (τ : kM), out = (r, τ) → Q = kQ x (some (ki r)) τ 0 0) : KW x 0 0 Q σ 49 [some (kr 0), none, none, none] [] := by
  unfold mm_number_j49 at h
  refine kw_aload_n C (kdec dc_M_number 25 rfl) rfl 50 rfl rfl ?_
  refine kw_iconst C (kdec dc_M_number 26 rfl) 51 rfl rfl ⟨by decide, by decide⟩ ?_
  obtain ⟨σ_2, hg_8, h⟩ := kbind_h h
  refine kw_callV (As := [ki 2]) C (kdec dc_M_number 27 rfl) 54 rfl cv_M_165 rfl rfl (mt_mm_wrong l0 hg_8) ⟨rfl, rfl⟩ ⟨Nat.le_of_ble_eq_true rfl, Nat.le_of_ble_eq_true rfl⟩ ⟨Nat.zero_le _, Nat.zero_le _⟩ rfl (Nat.le_of_ble_eq_true rfl) ?_
  change KW x 0 0 Q σ_2 54 [some (kr 0), none, none, none] []
  exact bd_mm_number_j54 C σ_2 h hR
def mm_number (σ : kM) (x1 : Int) (x2 : Int) : Option (Int × kM) :=
  (mm_isGood σ).bind fun r_1 =>
  if r_1 = 0 then
    some ((0, σ))
  else
    if (σ 0 15) = 2 then
      if 4 < (σ 0 17) then
        mm_number_j49 σ
      else
        if (σ 0 18) < x1 then
          mm_number_j49 σ
        else
          if (σ 0 18) ≤ x2 then
            mm_number_j54 σ
          else
            mm_number_j49 σ
    else
      (mm_wrong σ 1).bind fun σ_9 =>
      mm_number_j54 σ_9
set_option maxHeartbeats 4000000 in
theorem bd_mm_number {x : kX} {l0 : Launch} {Q : State → Prop} (C : kCx x prog_14_method_22_code "PoetFinesModel" (some .int) kcl yM 4 l0 R0_mm_number) (σ : kM) (x1 : Int) (x2 : Int) {out : Int × kM} (h : mm_number σ x1 x2 = some out) (hR : ∀ (r : Int) (τ : kM), out = (r, τ) → Q = kQ x (some (ki r)) τ 0 0) : KW x 0 0 Q σ 0 [some (kr 0), some (ki x1), some (ki x2), none] [] := by
  unfold mm_number at h
  refine kw_aload_n C (kdec dc_M_number 0 rfl) rfl 1 rfl rfl ?_
  obtain ⟨r_1, hg_11, h⟩ := kbind_h h
  refine kw_callV (As := []) C (kdec dc_M_number 1 rfl) 4 rfl cv_M_158 rfl rfl (mt_mm_isGood l0 hg_11) ⟨rfl, rfl⟩ ⟨Nat.le_of_ble_eq_true rfl, Nat.le_of_ble_eq_true rfl⟩ ⟨Nat.zero_le _, Nat.zero_le _⟩ rfl (Nat.le_of_ble_eq_true rfl) ?_
  change KW x 0 0 Q σ 4 [some (kr 0), some (ki x1), some (ki x2), none] [ki r_1]
  refine kw_if_ne C (kdec dc_M_number 2 rfl) 9 7 (by decide) rfl (fun hc4 => ?_) (fun hc4 => ?_)
  · rw [if_neg hc4] at h
    refine kw_aload_n C (kdec dc_M_number 5 rfl) rfl 10 rfl rfl ?_
    refine kw_getI C (kdec dc_M_number 6 rfl) 13 rfl fd_M_M_132_0 ?_
    refine kw_iconst C (kdec dc_M_number 7 rfl) 14 rfl rfl ⟨by decide, by decide⟩ ?_
    refine kw_icmp_eq C (kdec dc_M_number 8 rfl) 25 17 (by decide) rfl (fun hc14 => ?_) (fun hc14 => ?_)
    · rw [if_pos hc14] at h
      refine kw_aload_n C (kdec dc_M_number 13 rfl) rfl 26 rfl rfl ?_
      refine kw_getI C (kdec dc_M_number 14 rfl) 29 rfl fd_M_M_142_0 ?_
      refine kw_iconst C (kdec dc_M_number 15 rfl) 30 rfl rfl ⟨by decide, by decide⟩ ?_
      refine kw_icmp_gt C (kdec dc_M_number 16 rfl) 49 33 (by decide) rfl (fun hc30 => ?_) (fun hc30 => ?_)
      · rw [if_pos hc30] at h
        exact kw_sub (L' := [some (kr 0), none, none, none]) ⟨rfl, trivial⟩ (bd_mm_number_j49 C σ h hR)
      · rw [if_neg hc30] at h
        refine kw_aload_n C (kdec dc_M_number 17 rfl) rfl 34 rfl rfl ?_
        refine kw_getI C (kdec dc_M_number 18 rfl) 37 rfl fd_M_M_126_0 ?_
        refine kw_iload_n C (kdec dc_M_number 19 rfl) rfl 38 rfl rfl ?_
        refine kw_icmp_lt C (kdec dc_M_number 20 rfl) 49 41 (by decide) rfl (fun hc38 => ?_) (fun hc38 => ?_)
        · rw [if_pos hc38] at h
          exact kw_sub (L' := [some (kr 0), none, none, none]) ⟨rfl, trivial⟩ (bd_mm_number_j49 C σ h hR)
        · rw [if_neg hc38] at h
          refine kw_aload_n C (kdec dc_M_number 21 rfl) rfl 42 rfl rfl ?_
          refine kw_getI C (kdec dc_M_number 22 rfl) 45 rfl fd_M_M_126_0 ?_
          refine kw_iload_n C (kdec dc_M_number 23 rfl) rfl 46 rfl rfl ?_
          refine kw_icmp_le C (kdec dc_M_number 24 rfl) 54 49 (by decide) rfl (fun hc46 => ?_) (fun hc46 => ?_)
          · rw [if_pos hc46] at h
            exact kw_sub (L' := [some (kr 0), none, none, none]) ⟨rfl, trivial⟩ (bd_mm_number_j54 C σ h hR)
          · rw [if_neg hc46] at h
            exact kw_sub (L' := [some (kr 0), none, none, none]) ⟨rfl, trivial⟩ (bd_mm_number_j49 C σ h hR)
    · rw [if_neg hc14] at h
      refine kw_aload_n C (kdec dc_M_number 9 rfl) rfl 18 rfl rfl ?_
      refine kw_iconst C (kdec dc_M_number 10 rfl) 19 rfl rfl ⟨by decide, by decide⟩ ?_
      obtain ⟨σ_9, hg_10, h⟩ := kbind_h h
      refine kw_callV (As := [ki 1]) C (kdec dc_M_number 11 rfl) 22 rfl cv_M_165 rfl rfl (mt_mm_wrong l0 hg_10) ⟨rfl, rfl⟩ ⟨Nat.le_of_ble_eq_true rfl, Nat.le_of_ble_eq_true rfl⟩ ⟨Nat.zero_le _, Nat.zero_le _⟩ rfl (Nat.le_of_ble_eq_true rfl) ?_
      change KW x 0 0 Q σ_9 22 [some (kr 0), some (ki x1), some (ki x2), none] []
      refine kw_goto C (kdec dc_M_number 12 rfl) 54 (by decide) ?_
      exact kw_sub (L' := [some (kr 0), none, none, none]) ⟨rfl, trivial⟩ (bd_mm_number_j54 C σ_9 h hR)
  · rw [if_pos hc4] at h
    refine kw_iconst C (kdec dc_M_number 3 rfl) 8 rfl rfl ⟨by decide, by decide⟩ ?_
    obtain rfl := Option.some.inj h
    exact kw_Q (hR _ _ rfl) (kw_ireturn C (kdec dc_M_number 4 rfl))
theorem mt_mm_number (l0 : Launch) {σ : kM} {x1 : Int} {x2 : Int} {r : Int} {τ : kM} (h : mm_number σ x1 x2 = some (r, τ)) : kMet l0 ky_M_number prog_14_method_22_code 4 (some .int) R0_mm_number kcl yM σ [kr 0, ki x1, ki x2] (some (ki r)) τ := kMet.of' [some (kr 0), some (ki x1), some (ki x2), none] (by decide) (Nat.le_of_ble_eq_true rfl) ⟨rfl, rfl, rfl, trivial⟩ (fun x C => bd_mm_number C σ x1 x2 h (fun r τ e => by cases e; rfl))
def R0_mm_topicHere : Room := ({ frames := 2, cells := 0, slots := 0, locals := 42 } : Room)
def mm_topicHere_j57 (σ : kM) : Option (Int × kM) :=
  klet (σ 0 18) fun x1_2 =>
  (mm_isGood σ).bind fun r_3 =>
  if r_3 = 0 then
    some ((x1_2, σ))
  else
    (mm_goes σ).bind fun σ_4 =>
    some ((x1_2, σ_4))
set_option maxHeartbeats 4000000 in
theorem bd_mm_topicHere_j57 {x : kX} {l0 : Launch} {Q : State → Prop} (C : kCx x prog_14_method_23_code "PoetFinesModel" (some .int) kcl yM 2 l0 R0_mm_topicHere) (σ : kM) {out : Int × kM} (h : mm_topicHere_j57 σ = some out) (hR : ∀ (r : Int) (τ : kM), out = (r, τ) → Q = kQ x (some (ki r)) τ 0 0) : KW x 0 0 Q σ 57 [some (kr 0), none] [] := by
  unfold mm_topicHere_j57 at h
  refine kw_aload_n C (kdec dc_M_topicHere 29 rfl) rfl 58 rfl rfl ?_
  refine kw_getI C (kdec dc_M_topicHere 30 rfl) 61 rfl fd_M_M_126_0 ?_
  obtain ⟨x1_2, ex1_2, h⟩ := klet_h h
  refine kw_top ex1_2 ?_
  refine kw_istore_n (L' := [some (kr 0), some (ki x1_2)]) C (kdec dc_M_topicHere 31 rfl) rfl 62 rfl (by decide) rfl rfl ?_
  refine kw_aload_n C (kdec dc_M_topicHere 32 rfl) rfl 63 rfl rfl ?_
  obtain ⟨r_3, hg_6, h⟩ := kbind_h h
  refine kw_callV (As := []) C (kdec dc_M_topicHere 33 rfl) 66 rfl cv_M_158 rfl rfl (mt_mm_isGood l0 hg_6) ⟨rfl, rfl⟩ ⟨Nat.le_of_ble_eq_true rfl, Nat.le_of_ble_eq_true rfl⟩ ⟨Nat.zero_le _, Nat.zero_le _⟩ rfl (Nat.le_of_ble_eq_true rfl) ?_
  change KW x 0 0 Q σ 66 [some (kr 0), some (ki x1_2)] [ki r_3]
  refine kw_if_eq C (kdec dc_M_topicHere 34 rfl) 73 69 (by decide) rfl (fun hc66 => ?_) (fun hc66 => ?_)
  · rw [if_pos hc66] at h
    refine kw_iload_n C (kdec dc_M_topicHere 37 rfl) rfl 74 rfl rfl ?_
    obtain rfl := Option.some.inj h
    exact kw_Q (hR _ _ rfl) (kw_ireturn C (kdec dc_M_topicHere 38 rfl))
  · rw [if_neg hc66] at h
    refine kw_aload_n C (kdec dc_M_topicHere 35 rfl) rfl 70 rfl rfl ?_
    obtain ⟨σ_4, hg_5, h⟩ := kbind_h h
    refine kw_callV (As := []) C (kdec dc_M_topicHere 36 rfl) 73 rfl cv_M_162 rfl rfl (mt_mm_goes l0 hg_5) ⟨rfl, rfl⟩ ⟨Nat.le_of_ble_eq_true rfl, Nat.le_of_ble_eq_true rfl⟩ ⟨Nat.zero_le _, Nat.zero_le _⟩ rfl (Nat.le_of_ble_eq_true rfl) ?_
    change KW x 0 0 Q σ_4 73 [some (kr 0), some (ki x1_2)] []
    refine kw_iload_n C (kdec dc_M_topicHere 37 rfl) rfl 74 rfl rfl ?_
    obtain rfl := Option.some.inj h
    exact kw_Q (hR _ _ rfl) (kw_ireturn C (kdec dc_M_topicHere 38 rfl))
def mm_topicHere (σ : kM) : Option (Int × kM) :=
  (mm_isGood σ).bind fun r_1 =>
  if r_1 = 0 then
    some ((0, σ))
  else
    if (σ 0 15) = 2 then
      if (σ 0 17) ≤ 4 then
        if (σ 0 18) < (σ 0 21) then
          mm_topicHere_j57 σ
        else
          (mm_wrong σ 3).bind fun σ_7 =>
          mm_topicHere_j57 σ_7
      else
        (mm_wrong σ 2).bind fun σ_9 =>
        mm_topicHere_j57 σ_9
    else
      (mm_wrong σ 1).bind fun σ_11 =>
      mm_topicHere_j57 σ_11
set_option maxHeartbeats 4000000 in
theorem bd_mm_topicHere {x : kX} {l0 : Launch} {Q : State → Prop} (C : kCx x prog_14_method_23_code "PoetFinesModel" (some .int) kcl yM 2 l0 R0_mm_topicHere) (σ : kM) {out : Int × kM} (h : mm_topicHere σ = some out) (hR : ∀ (r : Int) (τ : kM), out = (r, τ) → Q = kQ x (some (ki r)) τ 0 0) : KW x 0 0 Q σ 0 [some (kr 0), none] [] := by
  unfold mm_topicHere at h
  refine kw_aload_n C (kdec dc_M_topicHere 0 rfl) rfl 1 rfl rfl ?_
  obtain ⟨r_1, hg_13, h⟩ := kbind_h h
  refine kw_callV (As := []) C (kdec dc_M_topicHere 1 rfl) 4 rfl cv_M_158 rfl rfl (mt_mm_isGood l0 hg_13) ⟨rfl, rfl⟩ ⟨Nat.le_of_ble_eq_true rfl, Nat.le_of_ble_eq_true rfl⟩ ⟨Nat.zero_le _, Nat.zero_le _⟩ rfl (Nat.le_of_ble_eq_true rfl) ?_
  change KW x 0 0 Q σ 4 [some (kr 0), none] [ki r_1]
  refine kw_if_ne C (kdec dc_M_topicHere 2 rfl) 9 7 (by decide) rfl (fun hc4 => ?_) (fun hc4 => ?_)
  · rw [if_neg hc4] at h
    refine kw_aload_n C (kdec dc_M_topicHere 5 rfl) rfl 10 rfl rfl ?_
    refine kw_getI C (kdec dc_M_topicHere 6 rfl) 13 rfl fd_M_M_132_0 ?_
    refine kw_iconst C (kdec dc_M_topicHere 7 rfl) 14 rfl rfl ⟨by decide, by decide⟩ ?_
    refine kw_icmp_eq C (kdec dc_M_topicHere 8 rfl) 25 17 (by decide) rfl (fun hc14 => ?_) (fun hc14 => ?_)
    · rw [if_pos hc14] at h
      refine kw_aload_n C (kdec dc_M_topicHere 13 rfl) rfl 26 rfl rfl ?_
      refine kw_getI C (kdec dc_M_topicHere 14 rfl) 29 rfl fd_M_M_142_0 ?_
      refine kw_iconst C (kdec dc_M_topicHere 15 rfl) 30 rfl rfl ⟨by decide, by decide⟩ ?_
      refine kw_icmp_le C (kdec dc_M_topicHere 16 rfl) 41 33 (by decide) rfl (fun hc30 => ?_) (fun hc30 => ?_)
      · rw [if_pos hc30] at h
        refine kw_aload_n C (kdec dc_M_topicHere 21 rfl) rfl 42 rfl rfl ?_
        refine kw_getI C (kdec dc_M_topicHere 22 rfl) 45 rfl fd_M_M_126_0 ?_
        refine kw_aload_n C (kdec dc_M_topicHere 23 rfl) rfl 46 rfl rfl ?_
        refine kw_getI C (kdec dc_M_topicHere 24 rfl) 49 rfl fd_M_M_168_0 ?_
        refine kw_icmp_lt C (kdec dc_M_topicHere 25 rfl) 57 52 (by decide) rfl (fun hc49 => ?_) (fun hc49 => ?_)
        · rw [if_pos hc49] at h
          exact bd_mm_topicHere_j57 C σ h hR
        · rw [if_neg hc49] at h
          refine kw_aload_n C (kdec dc_M_topicHere 26 rfl) rfl 53 rfl rfl ?_
          refine kw_iconst C (kdec dc_M_topicHere 27 rfl) 54 rfl rfl ⟨by decide, by decide⟩ ?_
          obtain ⟨σ_7, hg_8, h⟩ := kbind_h h
          refine kw_callV (As := [ki 3]) C (kdec dc_M_topicHere 28 rfl) 57 rfl cv_M_165 rfl rfl (mt_mm_wrong l0 hg_8) ⟨rfl, rfl⟩ ⟨Nat.le_of_ble_eq_true rfl, Nat.le_of_ble_eq_true rfl⟩ ⟨Nat.zero_le _, Nat.zero_le _⟩ rfl (Nat.le_of_ble_eq_true rfl) ?_
          change KW x 0 0 Q σ_7 57 [some (kr 0), none] []
          exact bd_mm_topicHere_j57 C σ_7 h hR
      · rw [if_neg hc30] at h
        refine kw_aload_n C (kdec dc_M_topicHere 17 rfl) rfl 34 rfl rfl ?_
        refine kw_iconst C (kdec dc_M_topicHere 18 rfl) 35 rfl rfl ⟨by decide, by decide⟩ ?_
        obtain ⟨σ_9, hg_10, h⟩ := kbind_h h
        refine kw_callV (As := [ki 2]) C (kdec dc_M_topicHere 19 rfl) 38 rfl cv_M_165 rfl rfl (mt_mm_wrong l0 hg_10) ⟨rfl, rfl⟩ ⟨Nat.le_of_ble_eq_true rfl, Nat.le_of_ble_eq_true rfl⟩ ⟨Nat.zero_le _, Nat.zero_le _⟩ rfl (Nat.le_of_ble_eq_true rfl) ?_
        change KW x 0 0 Q σ_9 38 [some (kr 0), none] []
        refine kw_goto C (kdec dc_M_topicHere 20 rfl) 57 (by decide) ?_
        exact bd_mm_topicHere_j57 C σ_9 h hR
    · rw [if_neg hc14] at h
      refine kw_aload_n C (kdec dc_M_topicHere 9 rfl) rfl 18 rfl rfl ?_
      refine kw_iconst C (kdec dc_M_topicHere 10 rfl) 19 rfl rfl ⟨by decide, by decide⟩ ?_
      obtain ⟨σ_11, hg_12, h⟩ := kbind_h h
      refine kw_callV (As := [ki 1]) C (kdec dc_M_topicHere 11 rfl) 22 rfl cv_M_165 rfl rfl (mt_mm_wrong l0 hg_12) ⟨rfl, rfl⟩ ⟨Nat.le_of_ble_eq_true rfl, Nat.le_of_ble_eq_true rfl⟩ ⟨Nat.zero_le _, Nat.zero_le _⟩ rfl (Nat.le_of_ble_eq_true rfl) ?_
      change KW x 0 0 Q σ_11 22 [some (kr 0), none] []
      refine kw_goto C (kdec dc_M_topicHere 12 rfl) 57 (by decide) ?_
      exact bd_mm_topicHere_j57 C σ_11 h hR
  · rw [if_pos hc4] at h
    refine kw_iconst C (kdec dc_M_topicHere 3 rfl) 8 rfl rfl ⟨by decide, by decide⟩ ?_
    obtain rfl := Option.some.inj h
    exact kw_Q (hR _ _ rfl) (kw_ireturn C (kdec dc_M_topicHere 4 rfl))
theorem mt_mm_topicHere (l0 : Launch) {σ : kM} {r : Int} {τ : kM} (h : mm_topicHere σ = some (r, τ)) : kMet l0 ky_M_topicHere prog_14_method_23_code 2 (some .int) R0_mm_topicHere kcl yM σ [kr 0] (some (ki r)) τ := kMet.of' [some (kr 0), none] (by decide) (Nat.le_of_ble_eq_true rfl) ⟨rfl, trivial⟩ (fun x C => bd_mm_topicHere C σ h (fun r τ e => by cases e; rfl))
def R0_mm_puts : Room := ({ frames := 0, cells := 0, slots := 0, locals := 0 } : Room)
def mm_puts (σ : kM) (x1 : Int) : Option (kM) :=
  kchk (0 ≤ (σ 0 27) ∧ (σ 0 27) < 1400) <|
  klet (kst σ 5 (kup (σ 5) ((σ 0 27).toNat) x1)) fun σ_2 =>
  klet (kst σ_2 0 (kup (σ_2 0) 27 (w32 ((σ_2 0 27) + 1)))) fun σ_3 =>
  some σ_3
set_option maxHeartbeats 4000000 in
theorem bd_mm_puts {x : kX} {l0 : Launch} {Q : State → Prop} (C : kCx x prog_14_method_24_code "PoetFinesModel" none kcl yM 2 l0 R0_mm_puts) (σ : kM) (x1 : Int) {out : kM} (h : mm_puts σ x1 = some out) (hR : ∀ (τ : kM), out = τ → Q = kQ x none τ 0 0) : KW x 0 0 Q σ 0 [some (kr 0), some (ki x1)] [] := by
  unfold mm_puts at h
  refine kw_aload_n C (kdec dc_M_puts 0 rfl) rfl 1 rfl rfl ?_
  refine kw_getR C (kdec dc_M_puts 1 rfl) 4 rfl fd_M_M_38_0 ?_
  refine kw_aload_n C (kdec dc_M_puts 2 rfl) rfl 5 rfl rfl ?_
  refine kw_getI C (kdec dc_M_puts 3 rfl) 8 rfl fd_M_M_171_0 ?_
  refine kw_iload_n C (kdec dc_M_puts 4 rfl) rfl 9 rfl rfl ?_
  obtain ⟨hc_1, h⟩ := kchk_h h
  obtain ⟨σ_2, eσ_2, h⟩ := klet_h h
  refine kw_iast C (kdec dc_M_puts 5 rfl) 10 rfl rfl hc_1.1 hc_1.2 ?_
  refine kw_sig eσ_2 ?_
  refine kw_aload_n C (kdec dc_M_puts 6 rfl) rfl 11 rfl rfl ?_
  refine kw_dup C (kdec dc_M_puts 7 rfl) 12 rfl rfl ?_
  refine kw_getI C (kdec dc_M_puts 8 rfl) 15 rfl fd_M_M_171_0 ?_
  refine kw_iconst C (kdec dc_M_puts 9 rfl) 16 rfl rfl ⟨by decide, by decide⟩ ?_
  refine kw_iadd C (kdec dc_M_puts 10 rfl) 17 rfl ?_
  obtain ⟨σ_3, eσ_3, h⟩ := klet_h h
  refine kw_putI C (kdec dc_M_puts 11 rfl) 20 rfl fp_M_M_171_0 ?_
  refine kw_sig eσ_3 ?_
  obtain rfl := Option.some.inj h
  exact kw_Q (hR _ rfl) (kw_return C (kdec dc_M_puts 12 rfl))
theorem mt_mm_puts (l0 : Launch) {σ : kM} {x1 : Int} {τ : kM} (h : mm_puts σ x1 = some τ) : kMet l0 ky_M_puts prog_14_method_24_code 2 none R0_mm_puts kcl yM σ [kr 0, ki x1] none τ := kMet.of' [some (kr 0), some (ki x1)] (by decide) (Nat.le_of_ble_eq_true rfl) ⟨rfl, rfl, trivial⟩ (fun x C => bd_mm_puts C σ x1 h (fun τ e => by subst e; rfl))
def R0_mm_isOpen : Room := ({ frames := 0, cells := 0, slots := 0, locals := 0 } : Room)
def mm_isOpen (σ : kM) (x0 : Int) : Option (Int) :=
  if x0 < 14 then
    some 0
  else
    some 1
set_option maxHeartbeats 4000000 in
theorem bd_mm_isOpen {x : kX} {l0 : Launch} {Q : State → Prop} (C : kCx x prog_14_method_25_code "PoetFinesModel" (some .boolean) kcl yM 1 l0 R0_mm_isOpen) (σ : kM) (x0 : Int) {out : Int} (h : mm_isOpen σ x0 = some out) (hR : ∀ (r : Int), out = r → Q = kQ x (some (ki r)) σ 0 0) : KW x 0 0 Q σ 0 [some (ki x0)] [] := by
  unfold mm_isOpen at h
  refine kw_iload_n C (kdec dc_M_isOpen 0 rfl) rfl 1 rfl rfl ?_
  refine kw_bipush (v := 14) C (kdec dc_M_isOpen 1 rfl) 3 rfl (by decide) ⟨by decide, by decide⟩ ?_
  refine kw_icmp_lt C (kdec dc_M_isOpen 2 rfl) 10 6 (by decide) rfl (fun hc3 => ?_) (fun hc3 => ?_)
  · rw [if_pos hc3] at h
    refine kw_iconst C (kdec dc_M_isOpen 5 rfl) 11 rfl rfl ⟨by decide, by decide⟩ ?_
    obtain rfl := Option.some.inj h
    exact kw_Q (hR _ rfl) (kw_zreturn C (kdec dc_M_isOpen 6 rfl) (by decide))
  · rw [if_neg hc3] at h
    refine kw_iconst C (kdec dc_M_isOpen 3 rfl) 7 rfl rfl ⟨by decide, by decide⟩ ?_
    refine kw_goto C (kdec dc_M_isOpen 4 rfl) 11 (by decide) ?_
    obtain rfl := Option.some.inj h
    exact kw_Q (hR _ rfl) (kw_zreturn C (kdec dc_M_isOpen 6 rfl) (by decide))
theorem mt_mm_isOpen (l0 : Launch) {σ : kM} {x0 : Int} {r : Int} (h : mm_isOpen σ x0 = some r) : kMet l0 ky_M_isOpen prog_14_method_25_code 1 (some .boolean) R0_mm_isOpen kcl yM σ [ki x0] (some (ki r)) σ := kMet.of' [some (ki x0)] (by decide) (Nat.le_of_ble_eq_true rfl) ⟨rfl, trivial⟩ (fun x C => bd_mm_isOpen C σ x0 h (fun r e => by subst e; rfl))
def R0_mm_strength : Room := ({ frames := 0, cells := 0, slots := 0, locals := 0 } : Room)
def mm_strength (σ : kM) (x0 : Int) : Option (Int) :=
  if x0 = 5 then
    some 1
  else
    if x0 = 4 then
      some 2
    else
      if x0 = 3 then
        some 3
      else
        if x0 = 6 then
          some 4
        else
          if x0 = 7 then
            some 4
          else
            if x0 = 8 then
              some 5
            else
              if x0 = 9 then
                some 5
              else
                some 6
set_option maxHeartbeats 4000000 in
theorem bd_mm_strength {x : kX} {l0 : Launch} {Q : State → Prop} (C : kCx x prog_14_method_26_code "PoetFinesModel" (some .int) kcl yM 1 l0 R0_mm_strength) (σ : kM) (x0 : Int) {out : Int} (h : mm_strength σ x0 = some out) (hR : ∀ (r : Int), out = r → Q = kQ x (some (ki r)) σ 0 0) : KW x 0 0 Q σ 0 [some (ki x0)] [] := by
  unfold mm_strength at h
  refine kw_iload_n C (kdec dc_M_strength 0 rfl) rfl 1 rfl rfl ?_
  refine kw_iconst C (kdec dc_M_strength 1 rfl) 2 rfl rfl ⟨by decide, by decide⟩ ?_
  refine kw_icmp_ne C (kdec dc_M_strength 2 rfl) 9 5 (by decide) rfl (fun hc2 => ?_) (fun hc2 => ?_)
  · rw [if_neg hc2] at h
    refine kw_iload_n C (kdec dc_M_strength 5 rfl) rfl 10 rfl rfl ?_
    refine kw_iconst C (kdec dc_M_strength 6 rfl) 11 rfl rfl ⟨by decide, by decide⟩ ?_
    refine kw_icmp_ne C (kdec dc_M_strength 7 rfl) 18 14 (by decide) rfl (fun hc11 => ?_) (fun hc11 => ?_)
    · rw [if_neg hc11] at h
      refine kw_iload_n C (kdec dc_M_strength 10 rfl) rfl 19 rfl rfl ?_
      refine kw_iconst C (kdec dc_M_strength 11 rfl) 20 rfl rfl ⟨by decide, by decide⟩ ?_
      refine kw_icmp_ne C (kdec dc_M_strength 12 rfl) 27 23 (by decide) rfl (fun hc20 => ?_) (fun hc20 => ?_)
      · rw [if_neg hc20] at h
        refine kw_iload_n C (kdec dc_M_strength 15 rfl) rfl 28 rfl rfl ?_
        refine kw_bipush (v := 6) C (kdec dc_M_strength 16 rfl) 30 rfl (by decide) ⟨by decide, by decide⟩ ?_
        refine kw_icmp_eq C (kdec dc_M_strength 17 rfl) 39 33 (by decide) rfl (fun hc30 => ?_) (fun hc30 => ?_)
        · rw [if_pos hc30] at h
          refine kw_iconst C (kdec dc_M_strength 21 rfl) 40 rfl rfl ⟨by decide, by decide⟩ ?_
          refine kw_goto C (kdec dc_M_strength 22 rfl) 61 (by decide) ?_
          obtain rfl := Option.some.inj h
          exact kw_Q (hR _ rfl) (kw_ireturn C (kdec dc_M_strength 32 rfl))
        · rw [if_neg hc30] at h
          refine kw_iload_n C (kdec dc_M_strength 18 rfl) rfl 34 rfl rfl ?_
          refine kw_bipush (v := 7) C (kdec dc_M_strength 19 rfl) 36 rfl (by decide) ⟨by decide, by decide⟩ ?_
          refine kw_icmp_ne C (kdec dc_M_strength 20 rfl) 43 39 (by decide) rfl (fun hc36 => ?_) (fun hc36 => ?_)
          · rw [if_neg hc36] at h
            refine kw_iload_n C (kdec dc_M_strength 23 rfl) rfl 44 rfl rfl ?_
            refine kw_bipush (v := 8) C (kdec dc_M_strength 24 rfl) 46 rfl (by decide) ⟨by decide, by decide⟩ ?_
            refine kw_icmp_eq C (kdec dc_M_strength 25 rfl) 55 49 (by decide) rfl (fun hc46 => ?_) (fun hc46 => ?_)
            · rw [if_pos hc46] at h
              refine kw_iconst C (kdec dc_M_strength 29 rfl) 56 rfl rfl ⟨by decide, by decide⟩ ?_
              refine kw_goto C (kdec dc_M_strength 30 rfl) 61 (by decide) ?_
              obtain rfl := Option.some.inj h
              exact kw_Q (hR _ rfl) (kw_ireturn C (kdec dc_M_strength 32 rfl))
            · rw [if_neg hc46] at h
              refine kw_iload_n C (kdec dc_M_strength 26 rfl) rfl 50 rfl rfl ?_
              refine kw_bipush (v := 9) C (kdec dc_M_strength 27 rfl) 52 rfl (by decide) ⟨by decide, by decide⟩ ?_
              refine kw_icmp_ne C (kdec dc_M_strength 28 rfl) 59 55 (by decide) rfl (fun hc52 => ?_) (fun hc52 => ?_)
              · rw [if_neg hc52] at h
                refine kw_bipush (v := 6) C (kdec dc_M_strength 31 rfl) 61 rfl (by decide) ⟨by decide, by decide⟩ ?_
                obtain rfl := Option.some.inj h
                exact kw_Q (hR _ rfl) (kw_ireturn C (kdec dc_M_strength 32 rfl))
              · rw [if_pos hc52] at h
                refine kw_iconst C (kdec dc_M_strength 29 rfl) 56 rfl rfl ⟨by decide, by decide⟩ ?_
                refine kw_goto C (kdec dc_M_strength 30 rfl) 61 (by decide) ?_
                obtain rfl := Option.some.inj h
                exact kw_Q (hR _ rfl) (kw_ireturn C (kdec dc_M_strength 32 rfl))
          · rw [if_pos hc36] at h
            refine kw_iconst C (kdec dc_M_strength 21 rfl) 40 rfl rfl ⟨by decide, by decide⟩ ?_
            refine kw_goto C (kdec dc_M_strength 22 rfl) 61 (by decide) ?_
            obtain rfl := Option.some.inj h
            exact kw_Q (hR _ rfl) (kw_ireturn C (kdec dc_M_strength 32 rfl))
      · rw [if_pos hc20] at h
        refine kw_iconst C (kdec dc_M_strength 13 rfl) 24 rfl rfl ⟨by decide, by decide⟩ ?_
        refine kw_goto C (kdec dc_M_strength 14 rfl) 61 (by decide) ?_
        obtain rfl := Option.some.inj h
        exact kw_Q (hR _ rfl) (kw_ireturn C (kdec dc_M_strength 32 rfl))
    · rw [if_pos hc11] at h
      refine kw_iconst C (kdec dc_M_strength 8 rfl) 15 rfl rfl ⟨by decide, by decide⟩ ?_
      refine kw_goto C (kdec dc_M_strength 9 rfl) 61 (by decide) ?_
      obtain rfl := Option.some.inj h
      exact kw_Q (hR _ rfl) (kw_ireturn C (kdec dc_M_strength 32 rfl))
  · rw [if_pos hc2] at h
    refine kw_iconst C (kdec dc_M_strength 3 rfl) 6 rfl rfl ⟨by decide, by decide⟩ ?_
    refine kw_goto C (kdec dc_M_strength 4 rfl) 61 (by decide) ?_
    obtain rfl := Option.some.inj h
    exact kw_Q (hR _ rfl) (kw_ireturn C (kdec dc_M_strength 32 rfl))
theorem mt_mm_strength (l0 : Launch) {σ : kM} {x0 : Int} {r : Int} (h : mm_strength σ x0 = some r) : kMet l0 ky_M_strength prog_14_method_26_code 1 (some .int) R0_mm_strength kcl yM σ [ki x0] (some (ki r)) σ := kMet.of' [some (ki x0)] (by decide) (Nat.le_of_ble_eq_true rfl) ⟨rfl, trivial⟩ (fun x C => bd_mm_strength C σ x0 h (fun r e => by subst e; rfl))
def R0_mm_drops : Room := ({ frames := 1, cells := 0, slots := 0, locals := 21 } : Room)
def mm_drops_l0 (σ : kM) (x1 : Int) : Option ((kM) ⊕ ((kM))) :=
  if (σ 0 30) ≤ 0 then
    some (Sum.inr σ)
  else
    kchk (0 ≤ (w32 ((σ 0 30) - 1)) ∧ (w32 ((σ 0 30) - 1)) < 950) <|
    (mm_isOpen σ (σ 6 (w32 ((σ 0 30) - 1)).toNat)).bind fun r_2 =>
    if r_2 = 0 then
      kchk (0 ≤ (w32 ((σ 0 30) - 1)) ∧ (w32 ((σ 0 30) - 1)) < 950) <|
      (mm_strength σ (σ 6 (w32 ((σ 0 30) - 1)).toNat)).bind fun r_4 =>
      if r_4 < x1 then
        some (Sum.inr σ)
      else
        klet (kst σ 0 (kup (σ 0) 30 (w32 ((σ 0 30) - 1)))) fun σ_5 =>
        kchk (0 ≤ (σ_5 0 30) ∧ (σ_5 0 30) < 950) <|
        (mm_puts σ_5 (σ_5 6 (σ_5 0 30).toNat)).bind fun σ_7 =>
        some (Sum.inl σ_7)
    else
      some (Sum.inr σ)
set_option maxHeartbeats 4000000 in
theorem bd_mm_drops_l0 {x : kX} {l0 : Launch} {Q : State → Prop} (C : kCx x prog_14_method_27_code "PoetFinesModel" none kcl yM 2 l0 R0_mm_drops) (σ : kM) (x1 : Int) {out : (kM) ⊕ ((kM))} (h : mm_drops_l0 σ x1 = some out) (hC : ∀ (σ' : kM), out = Sum.inl σ' → KW x 0 0 Q σ' 0 [some (kr 0), some (ki x1)] []) (hX68 : ∀ (σ' : kM), out = Sum.inr σ' → KW x 0 0 Q σ' 68 [none, none] []) : KW x 0 0 Q σ 0 [some (kr 0), some (ki x1)] [] := by
  unfold mm_drops_l0 at h
  refine kw_aload_n C (kdec dc_M_drops 0 rfl) rfl 1 rfl rfl ?_
  refine kw_getI C (kdec dc_M_drops 1 rfl) 4 rfl fd_M_M_174_0 ?_
  refine kw_if_le C (kdec dc_M_drops 2 rfl) 68 7 (by decide) rfl (fun hc4 => ?_) (fun hc4 => ?_)
  · rw [if_pos hc4] at h
    obtain rfl := Option.some.inj h
    exact kw_sub (L' := [none, none]) trivial (hX68 _ rfl)
  · rw [if_neg hc4] at h
    refine kw_aload_n C (kdec dc_M_drops 3 rfl) rfl 8 rfl rfl ?_
    refine kw_getR C (kdec dc_M_drops 4 rfl) 11 rfl fd_M_M_41_0 ?_
    refine kw_aload_n C (kdec dc_M_drops 5 rfl) rfl 12 rfl rfl ?_
    refine kw_getI C (kdec dc_M_drops 6 rfl) 15 rfl fd_M_M_174_0 ?_
    refine kw_iconst C (kdec dc_M_drops 7 rfl) 16 rfl rfl ⟨by decide, by decide⟩ ?_
    refine kw_isub C (kdec dc_M_drops 8 rfl) 17 rfl ?_
    obtain ⟨hc_1, h⟩ := kchk_h h
    refine kw_iald C (kdec dc_M_drops 9 rfl) 18 rfl rfl hc_1.1 hc_1.2 ?_
    obtain ⟨r_2, hg_10, h⟩ := kbind_h h
    refine kw_callS (As := [ki (σ 6 (w32 ((σ 0 30) - 1)).toNat)]) C (kdec dc_M_drops 10 rfl) 21 rfl cs_M_177 (mt_mm_isOpen l0 hg_10) ⟨rfl, rfl⟩ ⟨Nat.le_of_ble_eq_true rfl, Nat.le_of_ble_eq_true rfl⟩ ⟨Nat.zero_le _, Nat.zero_le _⟩ rfl (Nat.le_of_ble_eq_true rfl) ?_
    change KW x 0 0 Q σ 21 [some (kr 0), some (ki x1)] [ki r_2]
    refine kw_if_ne C (kdec dc_M_drops 11 rfl) 68 24 (by decide) rfl (fun hc21 => ?_) (fun hc21 => ?_)
    · rw [if_neg hc21] at h
      obtain rfl := Option.some.inj h
      exact kw_sub (L' := [none, none]) trivial (hX68 _ rfl)
    · rw [if_pos hc21] at h
      refine kw_aload_n C (kdec dc_M_drops 12 rfl) rfl 25 rfl rfl ?_
      refine kw_getR C (kdec dc_M_drops 13 rfl) 28 rfl fd_M_M_41_0 ?_
      refine kw_aload_n C (kdec dc_M_drops 14 rfl) rfl 29 rfl rfl ?_
      refine kw_getI C (kdec dc_M_drops 15 rfl) 32 rfl fd_M_M_174_0 ?_
      refine kw_iconst C (kdec dc_M_drops 16 rfl) 33 rfl rfl ⟨by decide, by decide⟩ ?_
      refine kw_isub C (kdec dc_M_drops 17 rfl) 34 rfl ?_
      obtain ⟨hc_3, h⟩ := kchk_h h
      refine kw_iald C (kdec dc_M_drops 18 rfl) 35 rfl rfl hc_3.1 hc_3.2 ?_
      obtain ⟨r_4, hg_9, h⟩ := kbind_h h
      refine kw_callS (As := [ki (σ 6 (w32 ((σ 0 30) - 1)).toNat)]) C (kdec dc_M_drops 19 rfl) 38 rfl cs_M_180 (mt_mm_strength l0 hg_9) ⟨rfl, rfl⟩ ⟨Nat.le_of_ble_eq_true rfl, Nat.le_of_ble_eq_true rfl⟩ ⟨Nat.zero_le _, Nat.zero_le _⟩ rfl (Nat.le_of_ble_eq_true rfl) ?_
      change KW x 0 0 Q σ 38 [some (kr 0), some (ki x1)] [ki r_4]
      refine kw_iload_n C (kdec dc_M_drops 20 rfl) rfl 39 rfl rfl ?_
      refine kw_icmp_lt C (kdec dc_M_drops 21 rfl) 68 42 (by decide) rfl (fun hc39 => ?_) (fun hc39 => ?_)
      · rw [if_pos hc39] at h
        obtain rfl := Option.some.inj h
        exact kw_sub (L' := [none, none]) trivial (hX68 _ rfl)
      · rw [if_neg hc39] at h
        refine kw_aload_n C (kdec dc_M_drops 22 rfl) rfl 43 rfl rfl ?_
        refine kw_dup C (kdec dc_M_drops 23 rfl) 44 rfl rfl ?_
        refine kw_getI C (kdec dc_M_drops 24 rfl) 47 rfl fd_M_M_174_0 ?_
        refine kw_iconst C (kdec dc_M_drops 25 rfl) 48 rfl rfl ⟨by decide, by decide⟩ ?_
        refine kw_isub C (kdec dc_M_drops 26 rfl) 49 rfl ?_
        obtain ⟨σ_5, eσ_5, h⟩ := klet_h h
        refine kw_putI C (kdec dc_M_drops 27 rfl) 52 rfl fp_M_M_174_0 ?_
        refine kw_sig eσ_5 ?_
        refine kw_aload_n C (kdec dc_M_drops 28 rfl) rfl 53 rfl rfl ?_
        refine kw_aload_n C (kdec dc_M_drops 29 rfl) rfl 54 rfl rfl ?_
        refine kw_getR C (kdec dc_M_drops 30 rfl) 57 rfl fd_M_M_41_0 ?_
        refine kw_aload_n C (kdec dc_M_drops 31 rfl) rfl 58 rfl rfl ?_
        refine kw_getI C (kdec dc_M_drops 32 rfl) 61 rfl fd_M_M_174_0 ?_
        obtain ⟨hc_6, h⟩ := kchk_h h
        refine kw_iald C (kdec dc_M_drops 33 rfl) 62 rfl rfl hc_6.1 hc_6.2 ?_
        obtain ⟨σ_7, hg_8, h⟩ := kbind_h h
        refine kw_callV (As := [ki (σ_5 6 (σ_5 0 30).toNat)]) C (kdec dc_M_drops 34 rfl) 65 rfl cv_M_183 rfl rfl (mt_mm_puts l0 hg_8) ⟨rfl, rfl⟩ ⟨Nat.le_of_ble_eq_true rfl, Nat.le_of_ble_eq_true rfl⟩ ⟨Nat.zero_le _, Nat.zero_le _⟩ rfl (Nat.le_of_ble_eq_true rfl) ?_
        change KW x 0 0 Q σ_7 65 [some (kr 0), some (ki x1)] []
        refine kw_goto C (kdec dc_M_drops 35 rfl) 0 (by decide) ?_
        obtain rfl := Option.some.inj h
        exact (hC _ rfl)
theorem lp_mm_drops_l0 {x : kX} {l0 : Launch} {Q : State → Prop} (C : kCx x prog_14_method_27_code "PoetFinesModel" none kcl yM 2 l0 R0_mm_drops) (x1 : Int) {ex : (kM)} (hX68 : ∀ (σ' : kM), ex = σ' → KW x 0 0 Q σ' 68 [none, none] []) (n : Nat) (σ : kM) (h : kloop (fun st => mm_drops_l0 st x1) n σ = some ex) : KW x 0 0 Q σ 0 [some (kr 0), some (ki x1)] [] :=
  kloop_ind (P := (fun st : kM => KW x 0 0 Q st 0 [some (kr 0), some (ki x1)] [])) (fun st out hb hc hx => bd_mm_drops_l0 C st x1 hb (fun a0 e => hc _ e) (fun a0 e => hX68 _ ((hx _ e).symm))) n σ h
def mm_drops (σ : kM) (x1 : Int) : Option (kM) :=
  (kloop (fun st => mm_drops_l0 st x1) kFuel σ).bind fun σ_13 =>
  some σ_13
set_option maxHeartbeats 4000000 in
theorem bd_mm_drops {x : kX} {l0 : Launch} {Q : State → Prop} (C : kCx x prog_14_method_27_code "PoetFinesModel" none kcl yM 2 l0 R0_mm_drops) (σ : kM) (x1 : Int) {out : kM} (h : mm_drops σ x1 = some out) (hR : ∀ (τ : kM), out = τ → Q = kQ x none τ 0 0) : KW x 0 0 Q σ 0 [some (kr 0), some (ki x1)] [] := by
  unfold mm_drops at h
  obtain ⟨ex_11, hl_12, h⟩ := kbind_h h
  refine lp_mm_drops_l0 C x1 ?_ kFuel σ hl_12
  · intro σ_13 e
    subst ex_11
    try dsimp only at h
    obtain rfl := Option.some.inj h
    exact kw_Q (hR _ rfl) (kw_return C (kdec dc_M_drops 36 rfl))
theorem mt_mm_drops (l0 : Launch) {σ : kM} {x1 : Int} {τ : kM} (h : mm_drops σ x1 = some τ) : kMet l0 ky_M_drops prog_14_method_27_code 2 none R0_mm_drops kcl yM σ [kr 0, ki x1] none τ := kMet.of' [some (kr 0), some (ki x1)] (by decide) (Nat.le_of_ble_eq_true rfl) ⟨rfl, rfl, trivial⟩ (fun x C => bd_mm_drops C σ x1 h (fun τ e => by subst e; rfl))
def R0_mm_waitsFor : Room := ({ frames := 0, cells := 0, slots := 0, locals := 0 } : Room)
def mm_waitsFor (σ : kM) (x1 : Int) : Option (kM) :=
  kchk (0 ≤ (σ 0 30) ∧ (σ 0 30) < 950) <|
  klet (kst σ 6 (kup (σ 6) ((σ 0 30).toNat) x1)) fun σ_2 =>
  klet (kst σ_2 0 (kup (σ_2 0) 30 (w32 ((σ_2 0 30) + 1)))) fun σ_3 =>
  some σ_3
set_option maxHeartbeats 4000000 in
theorem bd_mm_waitsFor {x : kX} {l0 : Launch} {Q : State → Prop} (C : kCx x prog_14_method_28_code "PoetFinesModel" none kcl yM 2 l0 R0_mm_waitsFor) (σ : kM) (x1 : Int) {out : kM} (h : mm_waitsFor σ x1 = some out) (hR : ∀ (τ : kM), out = τ → Q = kQ x none τ 0 0) : KW x 0 0 Q σ 0 [some (kr 0), some (ki x1)] [] := by
  unfold mm_waitsFor at h
  refine kw_aload_n C (kdec dc_M_waitsFor 0 rfl) rfl 1 rfl rfl ?_
  refine kw_getR C (kdec dc_M_waitsFor 1 rfl) 4 rfl fd_M_M_41_0 ?_
  refine kw_aload_n C (kdec dc_M_waitsFor 2 rfl) rfl 5 rfl rfl ?_
  refine kw_getI C (kdec dc_M_waitsFor 3 rfl) 8 rfl fd_M_M_174_0 ?_
  refine kw_iload_n C (kdec dc_M_waitsFor 4 rfl) rfl 9 rfl rfl ?_
  obtain ⟨hc_1, h⟩ := kchk_h h
  obtain ⟨σ_2, eσ_2, h⟩ := klet_h h
  refine kw_iast C (kdec dc_M_waitsFor 5 rfl) 10 rfl rfl hc_1.1 hc_1.2 ?_
  refine kw_sig eσ_2 ?_
  refine kw_aload_n C (kdec dc_M_waitsFor 6 rfl) rfl 11 rfl rfl ?_
  refine kw_dup C (kdec dc_M_waitsFor 7 rfl) 12 rfl rfl ?_
  refine kw_getI C (kdec dc_M_waitsFor 8 rfl) 15 rfl fd_M_M_174_0 ?_
  refine kw_iconst C (kdec dc_M_waitsFor 9 rfl) 16 rfl rfl ⟨by decide, by decide⟩ ?_
  refine kw_iadd C (kdec dc_M_waitsFor 10 rfl) 17 rfl ?_
  obtain ⟨σ_3, eσ_3, h⟩ := klet_h h
  refine kw_putI C (kdec dc_M_waitsFor 11 rfl) 20 rfl fp_M_M_174_0 ?_
  refine kw_sig eσ_3 ?_
  obtain rfl := Option.some.inj h
  exact kw_Q (hR _ rfl) (kw_return C (kdec dc_M_waitsFor 12 rfl))
theorem mt_mm_waitsFor (l0 : Launch) {σ : kM} {x1 : Int} {τ : kM} (h : mm_waitsFor σ x1 = some τ) : kMet l0 ky_M_waitsFor prog_14_method_28_code 2 none R0_mm_waitsFor kcl yM σ [kr 0, ki x1] none τ := kMet.of' [some (kr 0), some (ki x1)] (by decide) (Nat.le_of_ble_eq_true rfl) ⟨rfl, rfl, trivial⟩ (fun x C => bd_mm_waitsFor C σ x1 h (fun τ e => by subst e; rfl))
def R0_mm_part : Room := ({ frames := 3, cells := 0, slots := 0, locals := 68 } : Room)
def mm_part_j97 (σ : kM) : Option (kM) :=
  (mm_isGood σ).bind fun r_3 =>
  if r_3 = 0 then
    some σ
  else
    (mm_goes σ).bind fun σ_4 =>
    some σ_4
set_option maxHeartbeats 4000000 in
theorem bd_mm_part_j97 {x : kX} {l0 : Launch} {Q : State → Prop} (C : kCx x prog_14_method_29_code "PoetFinesModel" none kcl yM 2 l0 R0_mm_part) (σ : kM) {out : kM} (h : mm_part_j97 σ = some out) (hR : ∀ (τ : kM), out = τ → Q = kQ x none τ 0 0) : KW x 0 0 Q σ 97 [some (kr 0), none] [] := by
  unfold mm_part_j97 at h
  refine kw_aload_n C (kdec dc_M_part 51 rfl) rfl 98 rfl rfl ?_
  obtain ⟨r_3, hg_6, h⟩ := kbind_h h
  refine kw_callV (As := []) C (kdec dc_M_part 52 rfl) 101 rfl cv_M_158 rfl rfl (mt_mm_isGood l0 hg_6) ⟨rfl, rfl⟩ ⟨Nat.le_of_ble_eq_true rfl, Nat.le_of_ble_eq_true rfl⟩ ⟨Nat.zero_le _, Nat.zero_le _⟩ rfl (Nat.le_of_ble_eq_true rfl) ?_
  change KW x 0 0 Q σ 101 [some (kr 0), none] [ki r_3]
  refine kw_if_eq C (kdec dc_M_part 53 rfl) 108 104 (by decide) rfl (fun hc101 => ?_) (fun hc101 => ?_)
  · rw [if_pos hc101] at h
    obtain rfl := Option.some.inj h
    exact kw_Q (hR _ rfl) (kw_return C (kdec dc_M_part 56 rfl))
  · rw [if_neg hc101] at h
    refine kw_aload_n C (kdec dc_M_part 54 rfl) rfl 105 rfl rfl ?_
    obtain ⟨σ_4, hg_5, h⟩ := kbind_h h
    refine kw_callV (As := []) C (kdec dc_M_part 55 rfl) 108 rfl cv_M_162 rfl rfl (mt_mm_goes l0 hg_5) ⟨rfl, rfl⟩ ⟨Nat.le_of_ble_eq_true rfl, Nat.le_of_ble_eq_true rfl⟩ ⟨Nat.zero_le _, Nat.zero_le _⟩ rfl (Nat.le_of_ble_eq_true rfl) ?_
    change KW x 0 0 Q σ_4 108 [some (kr 0), none] []
    obtain rfl := Option.some.inj h
    exact kw_Q (hR _ rfl) (kw_return C (kdec dc_M_part 56 rfl))
def mm_part_j79 (σ : kM) (x1 : Int) : Option (kM) :=
  (mm_puts σ 2).bind fun σ_10 =>
  (mm_puts σ_10 x1).bind fun σ_11 =>
  mm_part_j97 σ_11
set_option maxHeartbeats 4000000 in
theorem bd_mm_part_j79 {x : kX} {l0 : Launch} {Q : State → Prop} (C : kCx x prog_14_method_29_code "PoetFinesModel" none kcl yM 2 l0 R0_mm_part) (σ : kM) (x1 : Int) {out : kM} (h : mm_part_j79 σ x1 = some out) (hR : ∀ (τ : kM), out = τ → Q = kQ x none τ 0 0) : KW x 0 0 Q σ 79 [some (kr 0), some (ki x1)] [] := by
  unfold mm_part_j79 at h
  refine kw_aload_n C (kdec dc_M_part 41 rfl) rfl 80 rfl rfl ?_
  refine kw_iconst C (kdec dc_M_part 42 rfl) 81 rfl rfl ⟨by decide, by decide⟩ ?_
  obtain ⟨σ_10, hg_13, h⟩ := kbind_h h
  refine kw_callV (As := [ki 2]) C (kdec dc_M_part 43 rfl) 84 rfl cv_M_183 rfl rfl (mt_mm_puts l0 hg_13) ⟨rfl, rfl⟩ ⟨Nat.le_of_ble_eq_true rfl, Nat.le_of_ble_eq_true rfl⟩ ⟨Nat.zero_le _, Nat.zero_le _⟩ rfl (Nat.le_of_ble_eq_true rfl) ?_
  change KW x 0 0 Q σ_10 84 [some (kr 0), some (ki x1)] []
  refine kw_aload_n C (kdec dc_M_part 44 rfl) rfl 85 rfl rfl ?_
  refine kw_iload_n C (kdec dc_M_part 45 rfl) rfl 86 rfl rfl ?_
  obtain ⟨σ_11, hg_12, h⟩ := kbind_h h
  refine kw_callV (As := [ki x1]) C (kdec dc_M_part 46 rfl) 89 rfl cv_M_183 rfl rfl (mt_mm_puts l0 hg_12) ⟨rfl, rfl⟩ ⟨Nat.le_of_ble_eq_true rfl, Nat.le_of_ble_eq_true rfl⟩ ⟨Nat.zero_le _, Nat.zero_le _⟩ rfl (Nat.le_of_ble_eq_true rfl) ?_
  change KW x 0 0 Q σ_11 89 [some (kr 0), some (ki x1)] []
  refine kw_goto C (kdec dc_M_part 47 rfl) 97 (by decide) ?_
  exact kw_sub (L' := [some (kr 0), none]) ⟨rfl, trivial⟩ (bd_mm_part_j97 C σ_11 h hR)
def mm_part_j74 (σ : kM) (x1 : Int) : Option (kM) :=
  (mm_wrong σ 3).bind fun σ_9 =>
  mm_part_j79 σ_9 x1
set_option maxHeartbeats 4000000 in
theorem bd_mm_part_j74 {x : kX} {l0 : Launch} {Q : State → Prop} (C : kCx x prog_14_method_29_code "PoetFinesModel" none kcl yM 2 l0 R0_mm_part) (σ : kM) (x1 : Int) {out : kM} (h : mm_part_j74 σ x1 = some out) (hR : ∀ (τ : kM), out = τ → Q = kQ x none τ 0 0) : KW x 0 0 Q σ 74 [some (kr 0), some (ki x1)] [] := by
  unfold mm_part_j74 at h
  refine kw_aload_n C (kdec dc_M_part 38 rfl) rfl 75 rfl rfl ?_
  refine kw_iconst C (kdec dc_M_part 39 rfl) 76 rfl rfl ⟨by decide, by decide⟩ ?_
  obtain ⟨σ_9, hg_14, h⟩ := kbind_h h
  refine kw_callV (As := [ki 3]) C (kdec dc_M_part 40 rfl) 79 rfl cv_M_165 rfl rfl (mt_mm_wrong l0 hg_14) ⟨rfl, rfl⟩ ⟨Nat.le_of_ble_eq_true rfl, Nat.le_of_ble_eq_true rfl⟩ ⟨Nat.zero_le _, Nat.zero_le _⟩ rfl (Nat.le_of_ble_eq_true rfl) ?_
  change KW x 0 0 Q σ_9 79 [some (kr 0), some (ki x1)] []
  exact bd_mm_part_j79 C σ_9 x1 h hR
def mm_part_j29 (σ : kM) : Option (kM) :=
  (mm_puts σ 1).bind fun σ_16 =>
  (mm_puts σ_16 (σ_16 0 18)).bind fun σ_17 =>
  mm_part_j97 σ_17
set_option maxHeartbeats 4000000 in
theorem bd_mm_part_j29 {x : kX} {l0 : Launch} {Q : State → Prop} (C : kCx x prog_14_method_29_code "PoetFinesModel" none kcl yM 2 l0 R0_mm_part) (σ : kM) {out : kM} (h : mm_part_j29 σ = some out) (hR : ∀ (τ : kM), out = τ → Q = kQ x none τ 0 0) : KW x 0 0 Q σ 29 [some (kr 0), none] [] := by
  unfold mm_part_j29 at h
  refine kw_aload_n C (kdec dc_M_part 15 rfl) rfl 30 rfl rfl ?_
  refine kw_iconst C (kdec dc_M_part 16 rfl) 31 rfl rfl ⟨by decide, by decide⟩ ?_
  obtain ⟨σ_16, hg_19, h⟩ := kbind_h h
  refine kw_callV (As := [ki 1]) C (kdec dc_M_part 17 rfl) 34 rfl cv_M_183 rfl rfl (mt_mm_puts l0 hg_19) ⟨rfl, rfl⟩ ⟨Nat.le_of_ble_eq_true rfl, Nat.le_of_ble_eq_true rfl⟩ ⟨Nat.zero_le _, Nat.zero_le _⟩ rfl (Nat.le_of_ble_eq_true rfl) ?_
  change KW x 0 0 Q σ_16 34 [some (kr 0), none] []
  refine kw_aload_n C (kdec dc_M_part 18 rfl) rfl 35 rfl rfl ?_
  refine kw_aload_n C (kdec dc_M_part 19 rfl) rfl 36 rfl rfl ?_
  refine kw_getI C (kdec dc_M_part 20 rfl) 39 rfl fd_M_M_126_0 ?_
  obtain ⟨σ_17, hg_18, h⟩ := kbind_h h
  refine kw_callV (As := [ki (σ_16 0 18)]) C (kdec dc_M_part 21 rfl) 42 rfl cv_M_183 rfl rfl (mt_mm_puts l0 hg_18) ⟨rfl, rfl⟩ ⟨Nat.le_of_ble_eq_true rfl, Nat.le_of_ble_eq_true rfl⟩ ⟨Nat.zero_le _, Nat.zero_le _⟩ rfl (Nat.le_of_ble_eq_true rfl) ?_
  change KW x 0 0 Q σ_17 42 [some (kr 0), none] []
  refine kw_goto C (kdec dc_M_part 22 rfl) 97 (by decide) ?_
  exact bd_mm_part_j97 C σ_17 h hR
def mm_part (σ : kM) : Option (kM) :=
  (mm_isGood σ).bind fun r_1 =>
  if r_1 = 0 then
    some σ
  else
    if (σ 0 15) = 2 then
      if (σ 0 17) ≤ 4 then
        mm_part_j29 σ
      else
        (mm_wrong σ 2).bind fun σ_20 =>
        mm_part_j29 σ_20
    else
      if (σ 0 15) = 1 then
        (mm_knownWord σ).bind fun r_8 =>
        if r_8 < (σ 0 28) then
          mm_part_j74 σ r_8
        else
          if r_8 ≤ (σ 0 29) then
            mm_part_j79 σ r_8
          else
            mm_part_j74 σ r_8
      else
        (mm_wrong σ 1).bind fun σ_2 =>
        mm_part_j97 σ_2
set_option maxHeartbeats 4000000 in
theorem bd_mm_part {x : kX} {l0 : Launch} {Q : State → Prop} (C : kCx x prog_14_method_29_code "PoetFinesModel" none kcl yM 2 l0 R0_mm_part) (σ : kM) {out : kM} (h : mm_part σ = some out) (hR : ∀ (τ : kM), out = τ → Q = kQ x none τ 0 0) : KW x 0 0 Q σ 0 [some (kr 0), none] [] := by
  unfold mm_part at h
  refine kw_aload_n C (kdec dc_M_part 0 rfl) rfl 1 rfl rfl ?_
  obtain ⟨r_1, hg_22, h⟩ := kbind_h h
  refine kw_callV (As := []) C (kdec dc_M_part 1 rfl) 4 rfl cv_M_158 rfl rfl (mt_mm_isGood l0 hg_22) ⟨rfl, rfl⟩ ⟨Nat.le_of_ble_eq_true rfl, Nat.le_of_ble_eq_true rfl⟩ ⟨Nat.zero_le _, Nat.zero_le _⟩ rfl (Nat.le_of_ble_eq_true rfl) ?_
  change KW x 0 0 Q σ 4 [some (kr 0), none] [ki r_1]
  refine kw_if_ne C (kdec dc_M_part 2 rfl) 8 7 (by decide) rfl (fun hc4 => ?_) (fun hc4 => ?_)
  · rw [if_neg hc4] at h
    refine kw_aload_n C (kdec dc_M_part 4 rfl) rfl 9 rfl rfl ?_
    refine kw_getI C (kdec dc_M_part 5 rfl) 12 rfl fd_M_M_132_0 ?_
    refine kw_iconst C (kdec dc_M_part 6 rfl) 13 rfl rfl ⟨by decide, by decide⟩ ?_
    refine kw_icmp_ne C (kdec dc_M_part 7 rfl) 45 16 (by decide) rfl (fun hc13 => ?_) (fun hc13 => ?_)
    · rw [if_neg hc13] at h
      refine kw_aload_n C (kdec dc_M_part 23 rfl) rfl 46 rfl rfl ?_
      refine kw_getI C (kdec dc_M_part 24 rfl) 49 rfl fd_M_M_132_0 ?_
      refine kw_iconst C (kdec dc_M_part 25 rfl) 50 rfl rfl ⟨by decide, by decide⟩ ?_
      refine kw_icmp_ne C (kdec dc_M_part 26 rfl) 92 53 (by decide) rfl (fun hc50 => ?_) (fun hc50 => ?_)
      · rw [if_neg hc50] at h
        refine kw_aload_n C (kdec dc_M_part 48 rfl) rfl 93 rfl rfl ?_
        refine kw_iconst C (kdec dc_M_part 49 rfl) 94 rfl rfl ⟨by decide, by decide⟩ ?_
        obtain ⟨σ_2, hg_7, h⟩ := kbind_h h
        refine kw_callV (As := [ki 1]) C (kdec dc_M_part 50 rfl) 97 rfl cv_M_165 rfl rfl (mt_mm_wrong l0 hg_7) ⟨rfl, rfl⟩ ⟨Nat.le_of_ble_eq_true rfl, Nat.le_of_ble_eq_true rfl⟩ ⟨Nat.zero_le _, Nat.zero_le _⟩ rfl (Nat.le_of_ble_eq_true rfl) ?_
        change KW x 0 0 Q σ_2 97 [some (kr 0), none] []
        exact bd_mm_part_j97 C σ_2 h hR
      · rw [if_pos hc50] at h
        refine kw_aload_n C (kdec dc_M_part 27 rfl) rfl 54 rfl rfl ?_
        obtain ⟨r_8, hg_15, h⟩ := kbind_h h
        refine kw_callV (As := []) C (kdec dc_M_part 28 rfl) 57 rfl cv_M_186 rfl rfl (mt_mm_knownWord l0 hg_15) ⟨rfl, rfl⟩ ⟨Nat.le_of_ble_eq_true rfl, Nat.le_of_ble_eq_true rfl⟩ ⟨Nat.zero_le _, Nat.zero_le _⟩ rfl (Nat.le_of_ble_eq_true rfl) ?_
        change KW x 0 0 Q σ 57 [some (kr 0), none] [ki r_8]
        refine kw_istore_n (L' := [some (kr 0), some (ki r_8)]) C (kdec dc_M_part 29 rfl) rfl 58 rfl (by decide) rfl rfl ?_
        refine kw_iload_n C (kdec dc_M_part 30 rfl) rfl 59 rfl rfl ?_
        refine kw_aload_n C (kdec dc_M_part 31 rfl) rfl 60 rfl rfl ?_
        refine kw_getI C (kdec dc_M_part 32 rfl) 63 rfl fd_M_M_190_0 ?_
        refine kw_icmp_lt C (kdec dc_M_part 33 rfl) 74 66 (by decide) rfl (fun hc63 => ?_) (fun hc63 => ?_)
        · rw [if_pos hc63] at h
          exact bd_mm_part_j74 C σ r_8 h hR
        · rw [if_neg hc63] at h
          refine kw_iload_n C (kdec dc_M_part 34 rfl) rfl 67 rfl rfl ?_
          refine kw_aload_n C (kdec dc_M_part 35 rfl) rfl 68 rfl rfl ?_
          refine kw_getI C (kdec dc_M_part 36 rfl) 71 rfl fd_M_M_193_0 ?_
          refine kw_icmp_le C (kdec dc_M_part 37 rfl) 79 74 (by decide) rfl (fun hc71 => ?_) (fun hc71 => ?_)
          · rw [if_pos hc71] at h
            exact bd_mm_part_j79 C σ r_8 h hR
          · rw [if_neg hc71] at h
            exact bd_mm_part_j74 C σ r_8 h hR
    · rw [if_pos hc13] at h
      refine kw_aload_n C (kdec dc_M_part 8 rfl) rfl 17 rfl rfl ?_
      refine kw_getI C (kdec dc_M_part 9 rfl) 20 rfl fd_M_M_142_0 ?_
      refine kw_iconst C (kdec dc_M_part 10 rfl) 21 rfl rfl ⟨by decide, by decide⟩ ?_
      refine kw_icmp_le C (kdec dc_M_part 11 rfl) 29 24 (by decide) rfl (fun hc21 => ?_) (fun hc21 => ?_)
      · rw [if_pos hc21] at h
        exact bd_mm_part_j29 C σ h hR
      · rw [if_neg hc21] at h
        refine kw_aload_n C (kdec dc_M_part 12 rfl) rfl 25 rfl rfl ?_
        refine kw_iconst C (kdec dc_M_part 13 rfl) 26 rfl rfl ⟨by decide, by decide⟩ ?_
        obtain ⟨σ_20, hg_21, h⟩ := kbind_h h
        refine kw_callV (As := [ki 2]) C (kdec dc_M_part 14 rfl) 29 rfl cv_M_165 rfl rfl (mt_mm_wrong l0 hg_21) ⟨rfl, rfl⟩ ⟨Nat.le_of_ble_eq_true rfl, Nat.le_of_ble_eq_true rfl⟩ ⟨Nat.zero_le _, Nat.zero_le _⟩ rfl (Nat.le_of_ble_eq_true rfl) ?_
        change KW x 0 0 Q σ_20 29 [some (kr 0), none] []
        exact bd_mm_part_j29 C σ_20 h hR
  · rw [if_pos hc4] at h
    obtain rfl := Option.some.inj h
    exact kw_Q (hR _ rfl) (kw_return C (kdec dc_M_part 3 rfl))
theorem mt_mm_part (l0 : Launch) {σ : kM} {τ : kM} (h : mm_part σ = some τ) : kMet l0 ky_M_part prog_14_method_29_code 2 none R0_mm_part kcl yM σ [kr 0] none τ := kMet.of' [some (kr 0), none] (by decide) (Nat.le_of_ble_eq_true rfl) ⟨rfl, trivial⟩ (fun x C => bd_mm_part C σ h (fun τ e => by subst e; rfl))
def R0_mm_deeper : Room := ({ frames := 1, cells := 0, slots := 0, locals := 21 } : Room)
def mm_deeper_j61 (σ : kM) (s0 : Int) : Option (kM) :=
  (mm_wrong σ s0).bind fun σ_1 =>
  some σ_1
set_option maxHeartbeats 4000000 in
theorem bd_mm_deeper_j61 {x : kX} {l0 : Launch} {Q : State → Prop} (C : kCx x prog_14_method_30_code "PoetFinesModel" none kcl yM 1 l0 R0_mm_deeper) (σ : kM) (s0 : Int) {out : kM} (h : mm_deeper_j61 σ s0 = some out) (hR : ∀ (τ : kM), out = τ → Q = kQ x none τ 0 0) : KW x 0 0 Q σ 61 [none] [ki s0, kr 0] := by
  unfold mm_deeper_j61 at h
  obtain ⟨σ_1, hg_2, h⟩ := kbind_h h
  refine kw_callV (As := [ki s0]) C (kdec dc_M_deeper 33 rfl) 64 rfl cv_M_165 rfl rfl (mt_mm_wrong l0 hg_2) ⟨rfl, rfl⟩ ⟨Nat.le_of_ble_eq_true rfl, Nat.le_of_ble_eq_true rfl⟩ ⟨Nat.zero_le _, Nat.zero_le _⟩ rfl (Nat.le_of_ble_eq_true rfl) ?_
  change KW x 0 0 Q σ_1 64 [none] []
  obtain rfl := Option.some.inj h
  exact kw_Q (hR _ rfl) (kw_return C (kdec dc_M_deeper 34 rfl))
def mm_deeper_j56 (σ : kM) : Option (kM) :=
  mm_deeper_j61 σ 2
set_option maxHeartbeats 4000000 in
theorem bd_mm_deeper_j56 {x : kX} {l0 : Launch} {Q : State → Prop} (C : kCx x prog_14_method_30_code "PoetFinesModel" none kcl yM 1 l0 R0_mm_deeper) (σ : kM) {out : kM} (h : mm_deeper_j56 σ = some out) (hR : ∀ (τ : kM), out = τ → Q = kQ x none τ 0 0) : KW x 0 0 Q σ 56 [none] [kr 0] := by
  unfold mm_deeper_j56 at h
  refine kw_iconst C (kdec dc_M_deeper 30 rfl) 57 rfl rfl ⟨by decide, by decide⟩ ?_
  refine kw_goto C (kdec dc_M_deeper 31 rfl) 61 (by decide) ?_
  exact bd_mm_deeper_j61 C σ 2 h hR
def mm_deeper (σ : kM) : Option (kM) :=
  if 6 ≤ (σ 0 31) then
    if (σ 0 15) = 2 then
      mm_deeper_j56 σ
    else
      if (σ 0 15) = 1 then
        mm_deeper_j56 σ
      else
        (mm_isSign σ 40).bind fun r_3 =>
        if r_3 = 0 then
          mm_deeper_j61 σ 1
        else
          mm_deeper_j56 σ
  else
    klet (kst σ 0 (kup (σ 0) 31 (w32 ((σ 0 31) + 1)))) fun σ_5 =>
    kchk (0 ≤ (σ_5 0 31) ∧ (σ_5 0 31) < 9) <|
    klet (kst σ_5 7 (kup (σ_5 7) ((σ_5 0 31).toNat) (kz1s 0))) fun σ_7 =>
    some σ_7
set_option maxHeartbeats 4000000 in
theorem bd_mm_deeper {x : kX} {l0 : Launch} {Q : State → Prop} (C : kCx x prog_14_method_30_code "PoetFinesModel" none kcl yM 1 l0 R0_mm_deeper) (σ : kM) {out : kM} (h : mm_deeper σ = some out) (hR : ∀ (τ : kM), out = τ → Q = kQ x none τ 0 0) : KW x 0 0 Q σ 0 [some (kr 0)] [] := by
  unfold mm_deeper at h
  refine kw_aload_n C (kdec dc_M_deeper 0 rfl) rfl 1 rfl rfl ?_
  refine kw_getI C (kdec dc_M_deeper 1 rfl) 4 rfl fd_M_M_196_0 ?_
  refine kw_bipush (v := 6) C (kdec dc_M_deeper 2 rfl) 6 rfl (by decide) ⟨by decide, by decide⟩ ?_
  refine kw_icmp_ge C (kdec dc_M_deeper 3 rfl) 30 9 (by decide) rfl (fun hc6 => ?_) (fun hc6 => ?_)
  · rw [if_pos hc6] at h
    refine kw_aload_n C (kdec dc_M_deeper 17 rfl) rfl 31 rfl rfl ?_
    refine kw_aload_n C (kdec dc_M_deeper 18 rfl) rfl 32 rfl rfl ?_
    refine kw_getI C (kdec dc_M_deeper 19 rfl) 35 rfl fd_M_M_132_0 ?_
    refine kw_iconst C (kdec dc_M_deeper 20 rfl) 36 rfl rfl ⟨by decide, by decide⟩ ?_
    refine kw_icmp_eq C (kdec dc_M_deeper 21 rfl) 56 39 (by decide) rfl (fun hc36 => ?_) (fun hc36 => ?_)
    · rw [if_pos hc36] at h
      exact kw_sub (L' := [none]) trivial (bd_mm_deeper_j56 C σ h hR)
    · rw [if_neg hc36] at h
      refine kw_aload_n C (kdec dc_M_deeper 22 rfl) rfl 40 rfl rfl ?_
      refine kw_getI C (kdec dc_M_deeper 23 rfl) 43 rfl fd_M_M_132_0 ?_
      refine kw_iconst C (kdec dc_M_deeper 24 rfl) 44 rfl rfl ⟨by decide, by decide⟩ ?_
      refine kw_icmp_eq C (kdec dc_M_deeper 25 rfl) 56 47 (by decide) rfl (fun hc44 => ?_) (fun hc44 => ?_)
      · rw [if_pos hc44] at h
        exact kw_sub (L' := [none]) trivial (bd_mm_deeper_j56 C σ h hR)
      · rw [if_neg hc44] at h
        refine kw_aload_n C (kdec dc_M_deeper 26 rfl) rfl 48 rfl rfl ?_
        refine kw_bipush (v := 40) C (kdec dc_M_deeper 27 rfl) 50 rfl (by decide) ⟨by decide, by decide⟩ ?_
        obtain ⟨r_3, hg_4, h⟩ := kbind_h h
        refine kw_callV (As := [ki 40]) C (kdec dc_M_deeper 28 rfl) 53 rfl cv_M_199 rfl rfl (mt_mm_isSign l0 hg_4) ⟨rfl, rfl⟩ ⟨Nat.le_of_ble_eq_true rfl, Nat.le_of_ble_eq_true rfl⟩ ⟨Nat.zero_le _, Nat.zero_le _⟩ rfl (Nat.le_of_ble_eq_true rfl) ?_
        change KW x 0 0 Q σ 53 [some (kr 0)] [ki r_3, kr 0]
        refine kw_if_eq C (kdec dc_M_deeper 29 rfl) 60 56 (by decide) rfl (fun hc53 => ?_) (fun hc53 => ?_)
        · rw [if_pos hc53] at h
          refine kw_iconst C (kdec dc_M_deeper 32 rfl) 61 rfl rfl ⟨by decide, by decide⟩ ?_
          exact kw_sub (L' := [none]) trivial (bd_mm_deeper_j61 C σ 1 h hR)
        · rw [if_neg hc53] at h
          exact kw_sub (L' := [none]) trivial (bd_mm_deeper_j56 C σ h hR)
  · rw [if_neg hc6] at h
    refine kw_aload_n C (kdec dc_M_deeper 4 rfl) rfl 10 rfl rfl ?_
    refine kw_dup C (kdec dc_M_deeper 5 rfl) 11 rfl rfl ?_
    refine kw_getI C (kdec dc_M_deeper 6 rfl) 14 rfl fd_M_M_196_0 ?_
    refine kw_iconst C (kdec dc_M_deeper 7 rfl) 15 rfl rfl ⟨by decide, by decide⟩ ?_
    refine kw_iadd C (kdec dc_M_deeper 8 rfl) 16 rfl ?_
    obtain ⟨σ_5, eσ_5, h⟩ := klet_h h
    refine kw_putI C (kdec dc_M_deeper 9 rfl) 19 rfl fp_M_M_196_0 ?_
    refine kw_sig eσ_5 ?_
    refine kw_aload_n C (kdec dc_M_deeper 10 rfl) rfl 20 rfl rfl ?_
    refine kw_getR C (kdec dc_M_deeper 11 rfl) 23 rfl fd_M_M_44_0 ?_
    refine kw_aload_n C (kdec dc_M_deeper 12 rfl) rfl 24 rfl rfl ?_
    refine kw_getI C (kdec dc_M_deeper 13 rfl) 27 rfl fd_M_M_196_0 ?_
    refine kw_iconst C (kdec dc_M_deeper 14 rfl) 28 rfl rfl ⟨by decide, by decide⟩ ?_
    obtain ⟨hc_6, h⟩ := kchk_h h
    obtain ⟨σ_7, eσ_7, h⟩ := klet_h h
    refine kw_zast C (kdec dc_M_deeper 15 rfl) 29 rfl rfl hc_6.1 hc_6.2 ?_
    refine kw_sig eσ_7 ?_
    obtain rfl := Option.some.inj h
    exact kw_Q (hR _ rfl) (kw_return C (kdec dc_M_deeper 16 rfl))
theorem mt_mm_deeper (l0 : Launch) {σ : kM} {τ : kM} (h : mm_deeper σ = some τ) : kMet l0 ky_M_deeper prog_14_method_30_code 1 none R0_mm_deeper kcl yM σ [kr 0] none τ := kMet.of' [some (kr 0)] (by decide) (Nat.le_of_ble_eq_true rfl) ⟨rfl, trivial⟩ (fun x C => bd_mm_deeper C σ h (fun τ e => by subst e; rfl))
def R0_mm_operand : Room := ({ frames := 4, cells := 0, slots := 0, locals := 89 } : Room)
def mm_operand_l18_j50 (σ : kM) (x2 : Int) (x4 : Int) : Option ((kM × Int) ⊕ ((kM))) :=
  klet (w32 (x4 + 1)) fun x4_4 =>
  (mm_isGood σ).bind fun r_5 =>
  if r_5 = 0 then
    some (Sum.inl (σ, x4_4))
  else
    (mm_waitsFor σ 3).bind fun σ_6 =>
    (mm_goes σ_6).bind fun σ_7 =>
    some (Sum.inl (σ_7, x4_4))
set_option maxHeartbeats 4000000 in
theorem bd_mm_operand_l18_j50 {x : kX} {l0 : Launch} {Q : State → Prop} (C : kCx x prog_14_method_31_code "PoetFinesModel" none kcl yM 5 l0 R0_mm_operand) (σ : kM) (x2 : Int) (x4 : Int) {out : (kM × Int) ⊕ ((kM))} (h : mm_operand_l18_j50 σ x2 x4 = some out) (hC : ∀ (σ' : kM) (x4' : Int), out = Sum.inl (σ', x4') → KW x 0 0 Q σ' 18 [some (kr 0), none, some (ki x2), none, some (ki x4')] []) (hX75 : ∀ (σ' : kM), out = Sum.inr σ' → KW x 0 0 Q σ' 75 [some (kr 0), none, some (ki x2), none, none] []) : KW x 0 0 Q σ 50 [some (kr 0), none, some (ki x2), none, some (ki x4)] [] := by
  unfold mm_operand_l18_j50 at h
  obtain ⟨x4_4, ex4_4, h⟩ := klet_h h
  refine kw_iinc (L' := [some (kr 0), none, some (ki x2), none, some (ki x4_4)]) C (kdec dc_M_operand 26 rfl) 53 rfl rfl (by decide) rfl (by rw [ex4_4]; rfl) ?_
  refine kw_aload_n C (kdec dc_M_operand 27 rfl) rfl 54 rfl rfl ?_
  obtain ⟨r_5, hg_10, h⟩ := kbind_h h
  refine kw_callV (As := []) C (kdec dc_M_operand 28 rfl) 57 rfl cv_M_158 rfl rfl (mt_mm_isGood l0 hg_10) ⟨rfl, rfl⟩ ⟨Nat.le_of_ble_eq_true rfl, Nat.le_of_ble_eq_true rfl⟩ ⟨Nat.zero_le _, Nat.zero_le _⟩ rfl (Nat.le_of_ble_eq_true rfl) ?_
  change KW x 0 0 Q σ 57 [some (kr 0), none, some (ki x2), none, some (ki x4_4)] [ki r_5]
  refine kw_if_ne C (kdec dc_M_operand 29 rfl) 63 60 (by decide) rfl (fun hc57 => ?_) (fun hc57 => ?_)
  · rw [if_neg hc57] at h
    refine kw_aload_n C (kdec dc_M_operand 31 rfl) rfl 64 rfl rfl ?_
    refine kw_iconst C (kdec dc_M_operand 32 rfl) 65 rfl rfl ⟨by decide, by decide⟩ ?_
    obtain ⟨σ_6, hg_9, h⟩ := kbind_h h
    refine kw_callV (As := [ki 3]) C (kdec dc_M_operand 33 rfl) 68 rfl cv_M_202 rfl rfl (mt_mm_waitsFor l0 hg_9) ⟨rfl, rfl⟩ ⟨Nat.le_of_ble_eq_true rfl, Nat.le_of_ble_eq_true rfl⟩ ⟨Nat.zero_le _, Nat.zero_le _⟩ rfl (Nat.le_of_ble_eq_true rfl) ?_
    change KW x 0 0 Q σ_6 68 [some (kr 0), none, some (ki x2), none, some (ki x4_4)] []
    refine kw_aload_n C (kdec dc_M_operand 34 rfl) rfl 69 rfl rfl ?_
    obtain ⟨σ_7, hg_8, h⟩ := kbind_h h
    refine kw_callV (As := []) C (kdec dc_M_operand 35 rfl) 72 rfl cv_M_162 rfl rfl (mt_mm_goes l0 hg_8) ⟨rfl, rfl⟩ ⟨Nat.le_of_ble_eq_true rfl, Nat.le_of_ble_eq_true rfl⟩ ⟨Nat.zero_le _, Nat.zero_le _⟩ rfl (Nat.le_of_ble_eq_true rfl) ?_
    change KW x 0 0 Q σ_7 72 [some (kr 0), none, some (ki x2), none, some (ki x4_4)] []
    refine kw_goto C (kdec dc_M_operand 36 rfl) 18 (by decide) ?_
    obtain rfl := Option.some.inj h
    exact (hC _ _ rfl)
  · rw [if_pos hc57] at h
    refine kw_goto C (kdec dc_M_operand 30 rfl) 18 (by decide) ?_
    obtain rfl := Option.some.inj h
    exact (hC _ _ rfl)
def mm_operand_l18 (σ : kM) (x2 : Int) (x4 : Int) : Option ((kM × Int) ⊕ ((kM))) :=
  (mm_isGood σ).bind fun r_2 =>
  if r_2 = 0 then
    some (Sum.inr σ)
  else
    if x2 = 0 then
      some (Sum.inr σ)
    else
      (mm_knownWord σ).bind fun r_3 =>
      if r_3 = 16 then
        if x4 = 6 then
          (mm_wrong σ 2).bind fun σ_11 =>
          mm_operand_l18_j50 σ_11 x2 x4
        else
          mm_operand_l18_j50 σ x2 x4
      else
        some (Sum.inr σ)
set_option maxHeartbeats 4000000 in
theorem bd_mm_operand_l18 {x : kX} {l0 : Launch} {Q : State → Prop} (C : kCx x prog_14_method_31_code "PoetFinesModel" none kcl yM 5 l0 R0_mm_operand) (σ : kM) (x2 : Int) (x4 : Int) {out : (kM × Int) ⊕ ((kM))} (h : mm_operand_l18 σ x2 x4 = some out) (hC : ∀ (σ' : kM) (x4' : Int), out = Sum.inl (σ', x4') → KW x 0 0 Q σ' 18 [some (kr 0), none, some (ki x2), none, some (ki x4')] []) (hX75 : ∀ (σ' : kM), out = Sum.inr σ' → KW x 0 0 Q σ' 75 [some (kr 0), none, some (ki x2), none, none] []) : KW x 0 0 Q σ 18 [some (kr 0), none, some (ki x2), none, some (ki x4)] [] := by
  unfold mm_operand_l18 at h
  refine kw_aload_n C (kdec dc_M_operand 11 rfl) rfl 19 rfl rfl ?_
  obtain ⟨r_2, hg_14, h⟩ := kbind_h h
  refine kw_callV (As := []) C (kdec dc_M_operand 12 rfl) 22 rfl cv_M_158 rfl rfl (mt_mm_isGood l0 hg_14) ⟨rfl, rfl⟩ ⟨Nat.le_of_ble_eq_true rfl, Nat.le_of_ble_eq_true rfl⟩ ⟨Nat.zero_le _, Nat.zero_le _⟩ rfl (Nat.le_of_ble_eq_true rfl) ?_
  change KW x 0 0 Q σ 22 [some (kr 0), none, some (ki x2), none, some (ki x4)] [ki r_2]
  refine kw_if_eq C (kdec dc_M_operand 13 rfl) 75 25 (by decide) rfl (fun hc22 => ?_) (fun hc22 => ?_)
  · rw [if_pos hc22] at h
    obtain rfl := Option.some.inj h
    exact kw_sub (L' := [some (kr 0), none, some (ki x2), none, none]) ⟨rfl, rfl, trivial⟩ (hX75 _ rfl)
  · rw [if_neg hc22] at h
    refine kw_iload_n C (kdec dc_M_operand 14 rfl) rfl 26 rfl rfl ?_
    refine kw_if_eq C (kdec dc_M_operand 15 rfl) 75 29 (by decide) rfl (fun hc26 => ?_) (fun hc26 => ?_)
    · rw [if_pos hc26] at h
      obtain rfl := Option.some.inj h
      exact kw_sub (L' := [some (kr 0), none, some (ki x2), none, none]) ⟨rfl, rfl, trivial⟩ (hX75 _ rfl)
    · rw [if_neg hc26] at h
      refine kw_aload_n C (kdec dc_M_operand 16 rfl) rfl 30 rfl rfl ?_
      obtain ⟨r_3, hg_13, h⟩ := kbind_h h
      refine kw_callV (As := []) C (kdec dc_M_operand 17 rfl) 33 rfl cv_M_186 rfl rfl (mt_mm_knownWord l0 hg_13) ⟨rfl, rfl⟩ ⟨Nat.le_of_ble_eq_true rfl, Nat.le_of_ble_eq_true rfl⟩ ⟨Nat.zero_le _, Nat.zero_le _⟩ rfl (Nat.le_of_ble_eq_true rfl) ?_
      change KW x 0 0 Q σ 33 [some (kr 0), none, some (ki x2), none, some (ki x4)] [ki r_3]
      refine kw_bipush (v := 16) C (kdec dc_M_operand 18 rfl) 35 rfl (by decide) ⟨by decide, by decide⟩ ?_
      refine kw_icmp_ne C (kdec dc_M_operand 19 rfl) 75 38 (by decide) rfl (fun hc35 => ?_) (fun hc35 => ?_)
      · rw [if_neg hc35] at h
        obtain rfl := Option.some.inj h
        exact kw_sub (L' := [some (kr 0), none, some (ki x2), none, none]) ⟨rfl, rfl, trivial⟩ (hX75 _ rfl)
      · rw [if_pos hc35] at h
        refine kw_iload C (kdec dc_M_operand 20 rfl) 40 rfl rfl ?_
        refine kw_bipush (v := 6) C (kdec dc_M_operand 21 rfl) 42 rfl (by decide) ⟨by decide, by decide⟩ ?_
        refine kw_icmp_ne C (kdec dc_M_operand 22 rfl) 50 45 (by decide) rfl (fun hc42 => ?_) (fun hc42 => ?_)
        · rw [if_neg hc42] at h
          exact bd_mm_operand_l18_j50 C σ x2 x4 h hC hX75
        · rw [if_pos hc42] at h
          refine kw_aload_n C (kdec dc_M_operand 23 rfl) rfl 46 rfl rfl ?_
          refine kw_iconst C (kdec dc_M_operand 24 rfl) 47 rfl rfl ⟨by decide, by decide⟩ ?_
          obtain ⟨σ_11, hg_12, h⟩ := kbind_h h
          refine kw_callV (As := [ki 2]) C (kdec dc_M_operand 25 rfl) 50 rfl cv_M_165 rfl rfl (mt_mm_wrong l0 hg_12) ⟨rfl, rfl⟩ ⟨Nat.le_of_ble_eq_true rfl, Nat.le_of_ble_eq_true rfl⟩ ⟨Nat.zero_le _, Nat.zero_le _⟩ rfl (Nat.le_of_ble_eq_true rfl) ?_
          change KW x 0 0 Q σ_11 50 [some (kr 0), none, some (ki x2), none, some (ki x4)] []
          exact bd_mm_operand_l18_j50 C σ_11 x2 x4 h hC hX75
theorem lp_mm_operand_l18 {x : kX} {l0 : Launch} {Q : State → Prop} (C : kCx x prog_14_method_31_code "PoetFinesModel" none kcl yM 5 l0 R0_mm_operand) (x2 : Int) {ex : (kM)} (hX75 : ∀ (σ' : kM), ex = σ' → KW x 0 0 Q σ' 75 [some (kr 0), none, some (ki x2), none, none] []) (n : Nat) (σ : kM) (x4 : Int) (h : kloop (fun st => mm_operand_l18 st.1 x2 st.2) n (σ, x4) = some ex) : KW x 0 0 Q σ 18 [some (kr 0), none, some (ki x2), none, some (ki x4)] [] :=
  kloop_ind (P := (fun st : kM × Int => KW x 0 0 Q st.1 18 [some (kr 0), none, some (ki x2), none, some (ki (st.2))] [])) (fun st out hb hc hx => bd_mm_operand_l18 C st.1 x2 st.2 hb (fun a0 a1 e => hc _ e) (fun a0 e => hX75 _ ((hx _ e).symm))) n (σ, x4) h
def mm_operand_l4_j117 (σ : kM) (x2 : Int) (x3 : Int) : Option ((kM × Int × Int) ⊕ ((kM))) :=
  some (Sum.inl (σ, x2, x3))
set_option maxHeartbeats 4000000 in
theorem bd_mm_operand_l4_j117 {x : kX} {l0 : Launch} {Q : State → Prop} (C : kCx x prog_14_method_31_code "PoetFinesModel" none kcl yM 5 l0 R0_mm_operand) (σ : kM) (x2 : Int) (x3 : Int) {out : (kM × Int × Int) ⊕ ((kM))} (h : mm_operand_l4_j117 σ x2 x3 = some out) (hC : ∀ (σ' : kM) (x2' : Int) (x3' : Int), out = Sum.inl (σ', x2', x3') → KW x 0 0 Q σ' 4 [some (kr 0), none, some (ki x2'), some (ki x3'), none] []) (hX120 : ∀ (σ' : kM), out = Sum.inr σ' → KW x 0 0 Q σ' 120 [some (kr 0), none, none, none, none] []) : KW x 0 0 Q σ 117 [some (kr 0), none, some (ki x2), some (ki x3), none] [] := by
  unfold mm_operand_l4_j117 at h
  refine kw_goto C (kdec dc_M_operand 59 rfl) 4 (by decide) ?_
  obtain rfl := Option.some.inj h
  exact (hC _ _ _ rfl)
def mm_operand_l4_j96 (σ : kM) (x2 : Int) (s0 : Int) : Option ((kM × Int × Int) ⊕ ((kM))) :=
  if s0 = 0 then
    mm_operand_l4_j117 σ x2 s0
  else
    (mm_waitsFor σ 14).bind fun σ_19 =>
    (mm_goes σ_19).bind fun σ_20 =>
    (mm_deeper σ_20).bind fun σ_21 =>
    mm_operand_l4_j117 σ_21 1 s0
set_option maxHeartbeats 4000000 in
theorem bd_mm_operand_l4_j96 {x : kX} {l0 : Launch} {Q : State → Prop} (C : kCx x prog_14_method_31_code "PoetFinesModel" none kcl yM 5 l0 R0_mm_operand) (σ : kM) (x2 : Int) (s0 : Int) {out : (kM × Int × Int) ⊕ ((kM))} (h : mm_operand_l4_j96 σ x2 s0 = some out) (hC : ∀ (σ' : kM) (x2' : Int) (x3' : Int), out = Sum.inl (σ', x2', x3') → KW x 0 0 Q σ' 4 [some (kr 0), none, some (ki x2'), some (ki x3'), none] []) (hX120 : ∀ (σ' : kM), out = Sum.inr σ' → KW x 0 0 Q σ' 120 [some (kr 0), none, none, none, none] []) : KW x 0 0 Q σ 96 [some (kr 0), none, some (ki x2), none, none] [ki s0] := by
  unfold mm_operand_l4_j96 at h
  refine kw_istore_n (L' := [some (kr 0), none, some (ki x2), some (ki s0), none]) C (kdec dc_M_operand 47 rfl) rfl 97 rfl (by decide) rfl rfl ?_
  refine kw_iload_n C (kdec dc_M_operand 48 rfl) rfl 98 rfl rfl ?_
  refine kw_if_eq C (kdec dc_M_operand 49 rfl) 117 101 (by decide) rfl (fun hc98 => ?_) (fun hc98 => ?_)
  · rw [if_pos hc98] at h
    exact bd_mm_operand_l4_j117 C σ x2 s0 h hC hX120
  · rw [if_neg hc98] at h
    refine kw_aload_n C (kdec dc_M_operand 50 rfl) rfl 102 rfl rfl ?_
    refine kw_bipush (v := 14) C (kdec dc_M_operand 51 rfl) 104 rfl (by decide) ⟨by decide, by decide⟩ ?_
    obtain ⟨σ_19, hg_24, h⟩ := kbind_h h
    refine kw_callV (As := [ki 14]) C (kdec dc_M_operand 52 rfl) 107 rfl cv_M_202 rfl rfl (mt_mm_waitsFor l0 hg_24) ⟨rfl, rfl⟩ ⟨Nat.le_of_ble_eq_true rfl, Nat.le_of_ble_eq_true rfl⟩ ⟨Nat.zero_le _, Nat.zero_le _⟩ rfl (Nat.le_of_ble_eq_true rfl) ?_
    change KW x 0 0 Q σ_19 107 [some (kr 0), none, some (ki x2), some (ki s0), none] []
    refine kw_aload_n C (kdec dc_M_operand 53 rfl) rfl 108 rfl rfl ?_
    obtain ⟨σ_20, hg_23, h⟩ := kbind_h h
    refine kw_callV (As := []) C (kdec dc_M_operand 54 rfl) 111 rfl cv_M_162 rfl rfl (mt_mm_goes l0 hg_23) ⟨rfl, rfl⟩ ⟨Nat.le_of_ble_eq_true rfl, Nat.le_of_ble_eq_true rfl⟩ ⟨Nat.zero_le _, Nat.zero_le _⟩ rfl (Nat.le_of_ble_eq_true rfl) ?_
    change KW x 0 0 Q σ_20 111 [some (kr 0), none, some (ki x2), some (ki s0), none] []
    refine kw_aload_n C (kdec dc_M_operand 55 rfl) rfl 112 rfl rfl ?_
    obtain ⟨σ_21, hg_22, h⟩ := kbind_h h
    refine kw_callV (As := []) C (kdec dc_M_operand 56 rfl) 115 rfl cv_M_205 rfl rfl (mt_mm_deeper l0 hg_22) ⟨rfl, rfl⟩ ⟨Nat.le_of_ble_eq_true rfl, Nat.le_of_ble_eq_true rfl⟩ ⟨Nat.zero_le _, Nat.zero_le _⟩ rfl (Nat.le_of_ble_eq_true rfl) ?_
    change KW x 0 0 Q σ_21 115 [some (kr 0), none, some (ki x2), some (ki s0), none] []
    refine kw_iconst C (kdec dc_M_operand 57 rfl) 116 rfl rfl ⟨by decide, by decide⟩ ?_
    refine kw_istore_n (L' := [some (kr 0), none, some (ki 1), some (ki s0), none]) C (kdec dc_M_operand 58 rfl) rfl 117 rfl (by decide) rfl rfl ?_
    exact bd_mm_operand_l4_j117 C σ_21 1 s0 h hC hX120
def mm_operand_l4_j95 (σ : kM) (x2 : Int) : Option ((kM × Int × Int) ⊕ ((kM))) :=
  mm_operand_l4_j96 σ x2 0
set_option maxHeartbeats 4000000 in
theorem bd_mm_operand_l4_j95 {x : kX} {l0 : Launch} {Q : State → Prop} (C : kCx x prog_14_method_31_code "PoetFinesModel" none kcl yM 5 l0 R0_mm_operand) (σ : kM) (x2 : Int) {out : (kM × Int × Int) ⊕ ((kM))} (h : mm_operand_l4_j95 σ x2 = some out) (hC : ∀ (σ' : kM) (x2' : Int) (x3' : Int), out = Sum.inl (σ', x2', x3') → KW x 0 0 Q σ' 4 [some (kr 0), none, some (ki x2'), some (ki x3'), none] []) (hX120 : ∀ (σ' : kM), out = Sum.inr σ' → KW x 0 0 Q σ' 120 [some (kr 0), none, none, none, none] []) : KW x 0 0 Q σ 95 [some (kr 0), none, some (ki x2), none, none] [] := by
  unfold mm_operand_l4_j95 at h
  refine kw_iconst C (kdec dc_M_operand 46 rfl) 96 rfl rfl ⟨by decide, by decide⟩ ?_
  exact bd_mm_operand_l4_j96 C σ x2 0 h hC hX120
def mm_operand_l4 (σ : kM) (x2 : Int) (x3 : Int) : Option ((kM × Int × Int) ⊕ ((kM))) :=
  if x3 = 0 then
    some (Sum.inr σ)
  else
    (mm_isGood σ).bind fun r_1 =>
    if r_1 = 0 then
      some (Sum.inr σ)
    else
      (kloop (fun st => mm_operand_l18 st.1 x2 st.2) kFuel (σ, 0)).bind fun σ_17 =>
      (mm_isGood σ_17).bind fun r_18 =>
      if r_18 = 0 then
        mm_operand_l4_j95 σ_17 x2
      else
        (mm_isSign σ_17 40).bind fun r_25 =>
        if r_25 = 0 then
          mm_operand_l4_j95 σ_17 x2
        else
          mm_operand_l4_j96 σ_17 x2 1
set_option maxHeartbeats 4000000 in
theorem bd_mm_operand_l4 {x : kX} {l0 : Launch} {Q : State → Prop} (C : kCx x prog_14_method_31_code "PoetFinesModel" none kcl yM 5 l0 R0_mm_operand) (σ : kM) (x2 : Int) (x3 : Int) {out : (kM × Int × Int) ⊕ ((kM))} (h : mm_operand_l4 σ x2 x3 = some out) (hC : ∀ (σ' : kM) (x2' : Int) (x3' : Int), out = Sum.inl (σ', x2', x3') → KW x 0 0 Q σ' 4 [some (kr 0), none, some (ki x2'), some (ki x3'), none] []) (hX120 : ∀ (σ' : kM), out = Sum.inr σ' → KW x 0 0 Q σ' 120 [some (kr 0), none, none, none, none] []) : KW x 0 0 Q σ 4 [some (kr 0), none, some (ki x2), some (ki x3), none] [] := by
  unfold mm_operand_l4 at h
  refine kw_iload_n C (kdec dc_M_operand 4 rfl) rfl 5 rfl rfl ?_
  refine kw_if_eq C (kdec dc_M_operand 5 rfl) 120 8 (by decide) rfl (fun hc5 => ?_) (fun hc5 => ?_)
  · rw [if_pos hc5] at h
    obtain rfl := Option.some.inj h
    exact kw_sub (L' := [some (kr 0), none, none, none, none]) ⟨rfl, trivial⟩ (hX120 _ rfl)
  · rw [if_neg hc5] at h
    refine kw_aload_n C (kdec dc_M_operand 6 rfl) rfl 9 rfl rfl ?_
    obtain ⟨r_1, hg_28, h⟩ := kbind_h h
    refine kw_callV (As := []) C (kdec dc_M_operand 7 rfl) 12 rfl cv_M_158 rfl rfl (mt_mm_isGood l0 hg_28) ⟨rfl, rfl⟩ ⟨Nat.le_of_ble_eq_true rfl, Nat.le_of_ble_eq_true rfl⟩ ⟨Nat.zero_le _, Nat.zero_le _⟩ rfl (Nat.le_of_ble_eq_true rfl) ?_
    change KW x 0 0 Q σ 12 [some (kr 0), none, some (ki x2), some (ki x3), none] [ki r_1]
    refine kw_if_eq C (kdec dc_M_operand 8 rfl) 120 15 (by decide) rfl (fun hc12 => ?_) (fun hc12 => ?_)
    · rw [if_pos hc12] at h
      obtain rfl := Option.some.inj h
      exact kw_sub (L' := [some (kr 0), none, none, none, none]) ⟨rfl, trivial⟩ (hX120 _ rfl)
    · rw [if_neg hc12] at h
      refine kw_iconst C (kdec dc_M_operand 9 rfl) 16 rfl rfl ⟨by decide, by decide⟩ ?_
      refine kw_istore (L' := [some (kr 0), none, some (ki x2), some (ki x3), some (ki 0)]) C (kdec dc_M_operand 10 rfl) 18 rfl (by decide) rfl rfl ?_
      obtain ⟨ex_15, hl_16, h⟩ := kbind_h h
      refine kw_sub (L' := [some (kr 0), none, some (ki x2), none, some (ki 0)]) ⟨rfl, rfl, rfl, trivial⟩ (lp_mm_operand_l18 C x2 ?_ kFuel σ 0 hl_16)
      · intro σ_17 e
        subst ex_15
        try dsimp only at h
        refine kw_aload_n C (kdec dc_M_operand 37 rfl) rfl 76 rfl rfl ?_
        obtain ⟨r_18, hg_27, h⟩ := kbind_h h
        refine kw_callV (As := []) C (kdec dc_M_operand 38 rfl) 79 rfl cv_M_158 rfl rfl (mt_mm_isGood l0 hg_27) ⟨rfl, rfl⟩ ⟨Nat.le_of_ble_eq_true rfl, Nat.le_of_ble_eq_true rfl⟩ ⟨Nat.zero_le _, Nat.zero_le _⟩ rfl (Nat.le_of_ble_eq_true rfl) ?_
        change KW x 0 0 Q σ_17 79 [some (kr 0), none, some (ki x2), none, none] [ki r_18]
        refine kw_if_eq C (kdec dc_M_operand 39 rfl) 95 82 (by decide) rfl (fun hc79 => ?_) (fun hc79 => ?_)
        · rw [if_pos hc79] at h
          exact bd_mm_operand_l4_j95 C σ_17 x2 h hC hX120
        · rw [if_neg hc79] at h
          refine kw_aload_n C (kdec dc_M_operand 40 rfl) rfl 83 rfl rfl ?_
          refine kw_bipush (v := 40) C (kdec dc_M_operand 41 rfl) 85 rfl (by decide) ⟨by decide, by decide⟩ ?_
          obtain ⟨r_25, hg_26, h⟩ := kbind_h h
          refine kw_callV (As := [ki 40]) C (kdec dc_M_operand 42 rfl) 88 rfl cv_M_199 rfl rfl (mt_mm_isSign l0 hg_26) ⟨rfl, rfl⟩ ⟨Nat.le_of_ble_eq_true rfl, Nat.le_of_ble_eq_true rfl⟩ ⟨Nat.zero_le _, Nat.zero_le _⟩ rfl (Nat.le_of_ble_eq_true rfl) ?_
          change KW x 0 0 Q σ_17 88 [some (kr 0), none, some (ki x2), none, none] [ki r_25]
          refine kw_if_eq C (kdec dc_M_operand 43 rfl) 95 91 (by decide) rfl (fun hc88 => ?_) (fun hc88 => ?_)
          · rw [if_pos hc88] at h
            exact bd_mm_operand_l4_j95 C σ_17 x2 h hC hX120
          · rw [if_neg hc88] at h
            refine kw_iconst C (kdec dc_M_operand 44 rfl) 92 rfl rfl ⟨by decide, by decide⟩ ?_
            refine kw_goto C (kdec dc_M_operand 45 rfl) 96 (by decide) ?_
            exact bd_mm_operand_l4_j96 C σ_17 x2 1 h hC hX120
theorem lp_mm_operand_l4 {x : kX} {l0 : Launch} {Q : State → Prop} (C : kCx x prog_14_method_31_code "PoetFinesModel" none kcl yM 5 l0 R0_mm_operand) {ex : (kM)} (hX120 : ∀ (σ' : kM), ex = σ' → KW x 0 0 Q σ' 120 [some (kr 0), none, none, none, none] []) (n : Nat) (σ : kM) (x2 : Int) (x3 : Int) (h : kloop (fun st => mm_operand_l4 st.1 st.2.1 st.2.2) n (σ, x2, x3) = some ex) : KW x 0 0 Q σ 4 [some (kr 0), none, some (ki x2), some (ki x3), none] [] :=
  kloop_ind (P := (fun st : kM × Int × Int => KW x 0 0 Q st.1 4 [some (kr 0), none, some (ki (st.2.1)), some (ki (st.2.2)), none] [])) (fun st out hb hc hx => bd_mm_operand_l4 C st.1 st.2.1 st.2.2 hb (fun a0 a1 a2 e => hc _ e) (fun a0 e => hX120 _ ((hx _ e).symm))) n (σ, x2, x3) h
def mm_operand (σ : kM) (x1 : Int) : Option (kM) :=
  (kloop (fun st => mm_operand_l4 st.1 st.2.1 st.2.2) kFuel (σ, x1, 1)).bind fun σ_31 =>
  (mm_part σ_31).bind fun σ_32 =>
  some σ_32
set_option maxHeartbeats 4000000 in
theorem bd_mm_operand {x : kX} {l0 : Launch} {Q : State → Prop} (C : kCx x prog_14_method_31_code "PoetFinesModel" none kcl yM 5 l0 R0_mm_operand) (σ : kM) (x1 : Int) {out : kM} (h : mm_operand σ x1 = some out) (hR : ∀ (τ : kM), out = τ → Q = kQ x none τ 0 0) : KW x 0 0 Q σ 0 [some (kr 0), some (ki x1), none, none, none] [] := by
  unfold mm_operand at h
  refine kw_iload_n C (kdec dc_M_operand 0 rfl) rfl 1 rfl rfl ?_
  refine kw_istore_n (L' := [some (kr 0), some (ki x1), some (ki x1), none, none]) C (kdec dc_M_operand 1 rfl) rfl 2 rfl (by decide) rfl rfl ?_
  refine kw_iconst C (kdec dc_M_operand 2 rfl) 3 rfl rfl ⟨by decide, by decide⟩ ?_
  refine kw_istore_n (L' := [some (kr 0), some (ki x1), some (ki x1), some (ki 1), none]) C (kdec dc_M_operand 3 rfl) rfl 4 rfl (by decide) rfl rfl ?_
  obtain ⟨ex_29, hl_30, h⟩ := kbind_h h
  refine kw_sub (L' := [some (kr 0), none, some (ki x1), some (ki 1), none]) ⟨rfl, rfl, rfl, trivial⟩ (lp_mm_operand_l4 C ?_ kFuel σ x1 1 hl_30)
  · intro σ_31 e
    subst ex_29
    try dsimp only at h
    refine kw_aload_n C (kdec dc_M_operand 60 rfl) rfl 121 rfl rfl ?_
    obtain ⟨σ_32, hg_33, h⟩ := kbind_h h
    refine kw_callV (As := []) C (kdec dc_M_operand 61 rfl) 124 rfl cv_M_208 rfl rfl (mt_mm_part l0 hg_33) ⟨rfl, rfl⟩ ⟨Nat.le_of_ble_eq_true rfl, Nat.le_of_ble_eq_true rfl⟩ ⟨Nat.zero_le _, Nat.zero_le _⟩ rfl (Nat.le_of_ble_eq_true rfl) ?_
    change KW x 0 0 Q σ_32 124 [some (kr 0), none, none, none, none] []
    obtain rfl := Option.some.inj h
    exact kw_Q (hR _ rfl) (kw_return C (kdec dc_M_operand 62 rfl))
theorem mt_mm_operand (l0 : Launch) {σ : kM} {x1 : Int} {τ : kM} (h : mm_operand σ x1 = some τ) : kMet l0 ky_M_operand prog_14_method_31_code 5 none R0_mm_operand kcl yM σ [kr 0, ki x1] none τ := kMet.of' [some (kr 0), some (ki x1), none, none, none] (by decide) (Nat.le_of_ble_eq_true rfl) ⟨rfl, rfl, trivial⟩ (fun x C => bd_mm_operand C σ x1 h (fun τ e => by subst e; rfl))
def R0_mm_isOpened : Room := ({ frames := 1, cells := 0, slots := 0, locals := 20 } : Room)
def mm_isOpened_l7 (σ : kM) (x1 : Int) : Option ((Int) ⊕ ((Int))) :=
  if x1 < 0 then
    some (Sum.inr x1)
  else
    kchk (0 ≤ x1 ∧ x1 < 950) <|
    (mm_isOpen σ (σ 6 x1.toNat)).bind fun r_3 =>
    if r_3 = 0 then
      klet (w32 (x1 + (-1))) fun x1_4 =>
      some (Sum.inl x1_4)
    else
      some (Sum.inr x1)
set_option maxHeartbeats 4000000 in
theorem bd_mm_isOpened_l7 {x : kX} {l0 : Launch} {Q : State → Prop} (C : kCx x prog_14_method_32_code "PoetFinesModel" (some .boolean) kcl yM 2 l0 R0_mm_isOpened) (σ : kM) (x1 : Int) {out : (Int) ⊕ ((Int))} (h : mm_isOpened_l7 σ x1 = some out) (hC : ∀ (x1' : Int), out = Sum.inl x1' → KW x 0 0 Q σ 7 [some (kr 0), some (ki x1')] []) (hX29 : ∀ (x1' : Int), out = Sum.inr x1' → KW x 0 0 Q σ 29 [none, some (ki x1')] []) : KW x 0 0 Q σ 7 [some (kr 0), some (ki x1)] [] := by
  unfold mm_isOpened_l7 at h
  refine kw_iload_n C (kdec dc_M_isOpened 5 rfl) rfl 8 rfl rfl ?_
  refine kw_if_lt C (kdec dc_M_isOpened 6 rfl) 29 11 (by decide) rfl (fun hc8 => ?_) (fun hc8 => ?_)
  · rw [if_pos hc8] at h
    obtain rfl := Option.some.inj h
    exact kw_sub (L' := [none, some (ki x1)]) ⟨rfl, trivial⟩ (hX29 _ rfl)
  · rw [if_neg hc8] at h
    refine kw_aload_n C (kdec dc_M_isOpened 7 rfl) rfl 12 rfl rfl ?_
    refine kw_getR C (kdec dc_M_isOpened 8 rfl) 15 rfl fd_M_M_41_0 ?_
    refine kw_iload_n C (kdec dc_M_isOpened 9 rfl) rfl 16 rfl rfl ?_
    obtain ⟨hc_2, h⟩ := kchk_h h
    refine kw_iald C (kdec dc_M_isOpened 10 rfl) 17 rfl rfl hc_2.1 hc_2.2 ?_
    obtain ⟨r_3, hg_5, h⟩ := kbind_h h
    refine kw_callS (As := [ki (σ 6 x1.toNat)]) C (kdec dc_M_isOpened 11 rfl) 20 rfl cs_M_177 (mt_mm_isOpen l0 hg_5) ⟨rfl, rfl⟩ ⟨Nat.le_of_ble_eq_true rfl, Nat.le_of_ble_eq_true rfl⟩ ⟨Nat.zero_le _, Nat.zero_le _⟩ rfl (Nat.le_of_ble_eq_true rfl) ?_
    change KW x 0 0 Q σ 20 [some (kr 0), some (ki x1)] [ki r_3]
    refine kw_if_ne C (kdec dc_M_isOpened 12 rfl) 29 23 (by decide) rfl (fun hc20 => ?_) (fun hc20 => ?_)
    · rw [if_neg hc20] at h
      obtain rfl := Option.some.inj h
      exact kw_sub (L' := [none, some (ki x1)]) ⟨rfl, trivial⟩ (hX29 _ rfl)
    · rw [if_pos hc20] at h
      obtain ⟨x1_4, ex1_4, h⟩ := klet_h h
      refine kw_iinc (L' := [some (kr 0), some (ki x1_4)]) C (kdec dc_M_isOpened 13 rfl) 26 rfl rfl (by decide) rfl (by rw [ex1_4]; rfl) ?_
      refine kw_goto C (kdec dc_M_isOpened 14 rfl) 7 (by decide) ?_
      obtain rfl := Option.some.inj h
      exact (hC _ rfl)
theorem lp_mm_isOpened_l7 {x : kX} {l0 : Launch} {Q : State → Prop} (C : kCx x prog_14_method_32_code "PoetFinesModel" (some .boolean) kcl yM 2 l0 R0_mm_isOpened) (σ : kM) {ex : (Int)} (hX29 : ∀ (x1' : Int), ex = x1' → KW x 0 0 Q σ 29 [none, some (ki x1')] []) (n : Nat) (x1 : Int) (h : kloop (fun st => mm_isOpened_l7 σ st) n x1 = some ex) : KW x 0 0 Q σ 7 [some (kr 0), some (ki x1)] [] :=
  kloop_ind (P := (fun st : Int => KW x 0 0 Q σ 7 [some (kr 0), some (ki st)] [])) (fun st out hb hc hx => bd_mm_isOpened_l7 C σ st hb (fun a0 e => hc _ e) (fun a0 e => hX29 _ ((hx _ e).symm))) n x1 h
def mm_isOpened (σ : kM) : Option (Int) :=
  klet (w32 ((σ 0 30) - 1)) fun x1_1 =>
  (kloop (fun st => mm_isOpened_l7 σ st) kFuel x1_1).bind fun x1_8 =>
  if x1_8 < 0 then
    some 0
  else
    some 1
set_option maxHeartbeats 4000000 in
theorem bd_mm_isOpened {x : kX} {l0 : Launch} {Q : State → Prop} (C : kCx x prog_14_method_32_code "PoetFinesModel" (some .boolean) kcl yM 2 l0 R0_mm_isOpened) (σ : kM) {out : Int} (h : mm_isOpened σ = some out) (hR : ∀ (r : Int), out = r → Q = kQ x (some (ki r)) σ 0 0) : KW x 0 0 Q σ 0 [some (kr 0), none] [] := by
  unfold mm_isOpened at h
  refine kw_aload_n C (kdec dc_M_isOpened 0 rfl) rfl 1 rfl rfl ?_
  refine kw_getI C (kdec dc_M_isOpened 1 rfl) 4 rfl fd_M_M_174_0 ?_
  refine kw_iconst C (kdec dc_M_isOpened 2 rfl) 5 rfl rfl ⟨by decide, by decide⟩ ?_
  refine kw_isub C (kdec dc_M_isOpened 3 rfl) 6 rfl ?_
  obtain ⟨x1_1, ex1_1, h⟩ := klet_h h
  refine kw_top ex1_1 ?_
  refine kw_istore_n (L' := [some (kr 0), some (ki x1_1)]) C (kdec dc_M_isOpened 4 rfl) rfl 7 rfl (by decide) rfl rfl ?_
  obtain ⟨ex_6, hl_7, h⟩ := kbind_h h
  refine lp_mm_isOpened_l7 C σ ?_ kFuel x1_1 hl_7
  · intro x1_8 e
    subst ex_6
    try dsimp only at h
    refine kw_iload_n C (kdec dc_M_isOpened 15 rfl) rfl 30 rfl rfl ?_
    refine kw_if_lt C (kdec dc_M_isOpened 16 rfl) 37 33 (by decide) rfl (fun hc30 => ?_) (fun hc30 => ?_)
    · rw [if_pos hc30] at h
      refine kw_iconst C (kdec dc_M_isOpened 19 rfl) 38 rfl rfl ⟨by decide, by decide⟩ ?_
      obtain rfl := Option.some.inj h
      exact kw_Q (hR _ rfl) (kw_zreturn C (kdec dc_M_isOpened 20 rfl) (by decide))
    · rw [if_neg hc30] at h
      refine kw_iconst C (kdec dc_M_isOpened 17 rfl) 34 rfl rfl ⟨by decide, by decide⟩ ?_
      refine kw_goto C (kdec dc_M_isOpened 18 rfl) 38 (by decide) ?_
      obtain rfl := Option.some.inj h
      exact kw_Q (hR _ rfl) (kw_zreturn C (kdec dc_M_isOpened 20 rfl) (by decide))
theorem mt_mm_isOpened (l0 : Launch) {σ : kM} {r : Int} (h : mm_isOpened σ = some r) : kMet l0 ky_M_isOpened prog_14_method_32_code 2 (some .boolean) R0_mm_isOpened kcl yM σ [kr 0] (some (ki r)) σ := kMet.of' [some (kr 0), none] (by decide) (Nat.le_of_ble_eq_true rfl) ⟨rfl, trivial⟩ (fun x C => bd_mm_isOpened C σ h (fun r e => by subst e; rfl))

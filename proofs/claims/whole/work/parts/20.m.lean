def R0_mm_thrown : Room := ({ frames := 0, cells := 0, slots := 0, locals := 0 } : Room)
def mm_thrown (σ : kM) : Option (Int) :=
  some (σ 0 0)
set_option maxHeartbeats 4000000 in
theorem bd_mm_thrown {x : kX} {l0 : Launch} {Q : State → Prop} (C : kCx x prog_14_method_2_code "PoetFinesModel" (some .int) kcl yM 1 l0 R0_mm_thrown) (σ : kM) {out : Int} (h : mm_thrown σ = some out) (hR : ∀ (r : Int), out = r → Q = kQ x (some (ki r)) σ 0 0) : KW x 0 0 Q σ 0 [some (kr 0)] [] := by
  unfold mm_thrown at h
  refine kw_aload_n C (kdec dc_M_thrown 0 rfl) rfl 1 rfl rfl ?_
  refine kw_getI C (kdec dc_M_thrown 1 rfl) 4 rfl fd_M_M_99_0 ?_
  obtain rfl := Option.some.inj h
  exact kw_Q (hR _ rfl) (kw_ireturn C (kdec dc_M_thrown 2 rfl))
theorem mt_mm_thrown (l0 : Launch) {σ : kM} {r : Int} (h : mm_thrown σ = some r) : kMet l0 ky_M_thrown prog_14_method_2_code 1 (some .int) R0_mm_thrown kcl yM σ [kr 0] (some (ki r)) σ := kMet.of' [some (kr 0)] (by decide) (Nat.le_of_ble_eq_true rfl) ⟨rfl, trivial⟩ (fun x C => bd_mm_thrown C σ h (fun r e => by subst e; rfl))
def R0_mm_right : Room := ({ frames := 0, cells := 0, slots := 0, locals := 0 } : Room)
def mm_right_j16 (σ : kM) : Option (Int × kM) :=
  if (σ 0 0) = 0 then
    some ((1, σ))
  else
    some ((0, σ))
set_option maxHeartbeats 4000000 in
theorem bd_mm_right_j16 {x : kX} {l0 : Launch} {Q : State → Prop} (C : kCx x prog_14_method_3_code "PoetFinesModel" (some .boolean) kcl yM 3 l0 R0_mm_right) (σ : kM) {out : Int × kM} (h : mm_right_j16 σ = some out) (hR : ∀ (r : Int) (τ : kM), out = (r, τ) → Q = kQ x (some (ki r)) τ 0 0) : KW x 0 0 Q σ 16 [some (kr 0), none, none] [] := by
  unfold mm_right_j16 at h
  refine kw_aload_n C (kdec dc_M_right 8 rfl) rfl 17 rfl rfl ?_
  refine kw_getI C (kdec dc_M_right 9 rfl) 20 rfl fd_M_M_99_0 ?_
  refine kw_if_ne C (kdec dc_M_right 10 rfl) 27 23 (by decide) rfl (fun hc20 => ?_) (fun hc20 => ?_)
  · rw [if_neg hc20] at h
    refine kw_iconst C (kdec dc_M_right 13 rfl) 28 rfl rfl ⟨by decide, by decide⟩ ?_
    obtain rfl := Option.some.inj h
    exact kw_Q (hR _ _ rfl) (kw_zreturn C (kdec dc_M_right 14 rfl) (by decide))
  · rw [if_pos hc20] at h
    refine kw_iconst C (kdec dc_M_right 11 rfl) 24 rfl rfl ⟨by decide, by decide⟩ ?_
    refine kw_goto C (kdec dc_M_right 12 rfl) 28 (by decide) ?_
    obtain rfl := Option.some.inj h
    exact kw_Q (hR _ _ rfl) (kw_zreturn C (kdec dc_M_right 14 rfl) (by decide))
def mm_right (σ : kM) (x1 : Int) (x2 : Int) : Option (Int × kM) :=
  if (σ 0 0) = 0 then
    if x1 = 0 then
      klet (kst σ 0 (kup (σ 0) 0 x2)) fun σ_1 =>
      mm_right_j16 σ_1
    else
      mm_right_j16 σ
  else
    mm_right_j16 σ
set_option maxHeartbeats 4000000 in
theorem bd_mm_right {x : kX} {l0 : Launch} {Q : State → Prop} (C : kCx x prog_14_method_3_code "PoetFinesModel" (some .boolean) kcl yM 3 l0 R0_mm_right) (σ : kM) (x1 : Int) (x2 : Int) {out : Int × kM} (h : mm_right σ x1 x2 = some out) (hR : ∀ (r : Int) (τ : kM), out = (r, τ) → Q = kQ x (some (ki r)) τ 0 0) : KW x 0 0 Q σ 0 [some (kr 0), some (ki x1), some (ki x2)] [] := by
  unfold mm_right at h
  refine kw_aload_n C (kdec dc_M_right 0 rfl) rfl 1 rfl rfl ?_
  refine kw_getI C (kdec dc_M_right 1 rfl) 4 rfl fd_M_M_99_0 ?_
  refine kw_if_ne C (kdec dc_M_right 2 rfl) 16 7 (by decide) rfl (fun hc4 => ?_) (fun hc4 => ?_)
  · rw [if_neg hc4] at h
    exact kw_sub (L' := [some (kr 0), none, none]) ⟨rfl, trivial⟩ (bd_mm_right_j16 C σ h hR)
  · rw [if_pos hc4] at h
    refine kw_iload_n C (kdec dc_M_right 3 rfl) rfl 8 rfl rfl ?_
    refine kw_if_ne C (kdec dc_M_right 4 rfl) 16 11 (by decide) rfl (fun hc8 => ?_) (fun hc8 => ?_)
    · rw [if_neg hc8] at h
      exact kw_sub (L' := [some (kr 0), none, none]) ⟨rfl, trivial⟩ (bd_mm_right_j16 C σ h hR)
    · rw [if_pos hc8] at h
      refine kw_aload_n C (kdec dc_M_right 5 rfl) rfl 12 rfl rfl ?_
      refine kw_iload_n C (kdec dc_M_right 6 rfl) rfl 13 rfl rfl ?_
      obtain ⟨σ_1, eσ_1, h⟩ := klet_h h
      refine kw_putI C (kdec dc_M_right 7 rfl) 16 rfl fp_M_M_99_0 ?_
      refine kw_sig eσ_1 ?_
      exact kw_sub (L' := [some (kr 0), none, none]) ⟨rfl, trivial⟩ (bd_mm_right_j16 C σ_1 h hR)
theorem mt_mm_right (l0 : Launch) {σ : kM} {x1 : Int} {x2 : Int} {r : Int} {τ : kM} (h : mm_right σ x1 x2 = some (r, τ)) : kMet l0 ky_M_right prog_14_method_3_code 3 (some .boolean) R0_mm_right kcl yM σ [kr 0, ki x1, ki x2] (some (ki r)) τ := kMet.of' [some (kr 0), some (ki x1), some (ki x2)] (by decide) (Nat.le_of_ble_eq_true rfl) ⟨rfl, rfl, rfl, trivial⟩ (fun x C => bd_mm_right C σ x1 x2 h (fun r τ e => by cases e; rfl))
def R0_mm_within : Room := ({ frames := 0, cells := 0, slots := 0, locals := 0 } : Room)
def mm_within (σ : kM) (x0 : Int) (x1 : Int) (x2 : Int) : Option (Int) :=
  if x0 < x1 then
    some 0
  else
    if x2 < x0 then
      some 0
    else
      some 1
set_option maxHeartbeats 4000000 in
theorem bd_mm_within {x : kX} {l0 : Launch} {Q : State → Prop} (C : kCx x prog_14_method_4_code "PoetFinesModel" (some .boolean) kcl yM 3 l0 R0_mm_within) (σ : kM) (x0 : Int) (x1 : Int) (x2 : Int) {out : Int} (h : mm_within σ x0 x1 x2 = some out) (hR : ∀ (r : Int), out = r → Q = kQ x (some (ki r)) σ 0 0) : KW x 0 0 Q σ 0 [some (ki x0), some (ki x1), some (ki x2)] [] := by
  unfold mm_within at h
  refine kw_iload_n C (kdec dc_M_within 0 rfl) rfl 1 rfl rfl ?_
  refine kw_iload_n C (kdec dc_M_within 1 rfl) rfl 2 rfl rfl ?_
  refine kw_icmp_lt C (kdec dc_M_within 2 rfl) 14 5 (by decide) rfl (fun hc2 => ?_) (fun hc2 => ?_)
  · rw [if_pos hc2] at h
    refine kw_iconst C (kdec dc_M_within 8 rfl) 15 rfl rfl ⟨by decide, by decide⟩ ?_
    obtain rfl := Option.some.inj h
    exact kw_Q (hR _ rfl) (kw_zreturn C (kdec dc_M_within 9 rfl) (by decide))
  · rw [if_neg hc2] at h
    refine kw_iload_n C (kdec dc_M_within 3 rfl) rfl 6 rfl rfl ?_
    refine kw_iload_n C (kdec dc_M_within 4 rfl) rfl 7 rfl rfl ?_
    refine kw_icmp_gt C (kdec dc_M_within 5 rfl) 14 10 (by decide) rfl (fun hc7 => ?_) (fun hc7 => ?_)
    · rw [if_pos hc7] at h
      refine kw_iconst C (kdec dc_M_within 8 rfl) 15 rfl rfl ⟨by decide, by decide⟩ ?_
      obtain rfl := Option.some.inj h
      exact kw_Q (hR _ rfl) (kw_zreturn C (kdec dc_M_within 9 rfl) (by decide))
    · rw [if_neg hc7] at h
      refine kw_iconst C (kdec dc_M_within 6 rfl) 11 rfl rfl ⟨by decide, by decide⟩ ?_
      refine kw_goto C (kdec dc_M_within 7 rfl) 15 (by decide) ?_
      obtain rfl := Option.some.inj h
      exact kw_Q (hR _ rfl) (kw_zreturn C (kdec dc_M_within 9 rfl) (by decide))
theorem mt_mm_within (l0 : Launch) {σ : kM} {x0 : Int} {x1 : Int} {x2 : Int} {r : Int} (h : mm_within σ x0 x1 x2 = some r) : kMet l0 ky_M_within prog_14_method_4_code 3 (some .boolean) R0_mm_within kcl yM σ [ki x0, ki x1, ki x2] (some (ki r)) σ := kMet.of' [some (ki x0), some (ki x1), some (ki x2)] (by decide) (Nat.le_of_ble_eq_true rfl) ⟨rfl, rfl, rfl, trivial⟩ (fun x C => bd_mm_within C σ x0 x1 x2 h (fun r e => by subst e; rfl))
def R0_mm_bounded : Room := ({ frames := 0, cells := 0, slots := 0, locals := 0 } : Room)
def mm_bounded (σ : kM) (x0 : Int) (x1 : Int) (x2 : Int) : Option (Int) :=
  if x1 ≤ x0 then
    if x0 ≤ x2 then
      some x0
    else
      some x2
  else
    some x1
set_option maxHeartbeats 4000000 in
theorem bd_mm_bounded {x : kX} {l0 : Launch} {Q : State → Prop} (C : kCx x prog_14_method_5_code "PoetFinesModel" (some .int) kcl yM 3 l0 R0_mm_bounded) (σ : kM) (x0 : Int) (x1 : Int) (x2 : Int) {out : Int} (h : mm_bounded σ x0 x1 x2 = some out) (hR : ∀ (r : Int), out = r → Q = kQ x (some (ki r)) σ 0 0) : KW x 0 0 Q σ 0 [some (ki x0), some (ki x1), some (ki x2)] [] := by
  unfold mm_bounded at h
  refine kw_iload_n C (kdec dc_M_bounded 0 rfl) rfl 1 rfl rfl ?_
  refine kw_iload_n C (kdec dc_M_bounded 1 rfl) rfl 2 rfl rfl ?_
  refine kw_icmp_ge C (kdec dc_M_bounded 2 rfl) 9 5 (by decide) rfl (fun hc2 => ?_) (fun hc2 => ?_)
  · rw [if_pos hc2] at h
    refine kw_iload_n C (kdec dc_M_bounded 5 rfl) rfl 10 rfl rfl ?_
    refine kw_iload_n C (kdec dc_M_bounded 6 rfl) rfl 11 rfl rfl ?_
    refine kw_icmp_le C (kdec dc_M_bounded 7 rfl) 18 14 (by decide) rfl (fun hc11 => ?_) (fun hc11 => ?_)
    · rw [if_pos hc11] at h
      refine kw_iload_n C (kdec dc_M_bounded 10 rfl) rfl 19 rfl rfl ?_
      obtain rfl := Option.some.inj h
      exact kw_Q (hR _ rfl) (kw_ireturn C (kdec dc_M_bounded 11 rfl))
    · rw [if_neg hc11] at h
      refine kw_iload_n C (kdec dc_M_bounded 8 rfl) rfl 15 rfl rfl ?_
      refine kw_goto C (kdec dc_M_bounded 9 rfl) 19 (by decide) ?_
      obtain rfl := Option.some.inj h
      exact kw_Q (hR _ rfl) (kw_ireturn C (kdec dc_M_bounded 11 rfl))
  · rw [if_neg hc2] at h
    refine kw_iload_n C (kdec dc_M_bounded 3 rfl) rfl 6 rfl rfl ?_
    refine kw_goto C (kdec dc_M_bounded 4 rfl) 19 (by decide) ?_
    obtain rfl := Option.some.inj h
    exact kw_Q (hR _ rfl) (kw_ireturn C (kdec dc_M_bounded 11 rfl))
theorem mt_mm_bounded (l0 : Launch) {σ : kM} {x0 : Int} {x1 : Int} {x2 : Int} {r : Int} (h : mm_bounded σ x0 x1 x2 = some r) : kMet l0 ky_M_bounded prog_14_method_5_code 3 (some .int) R0_mm_bounded kcl yM σ [ki x0, ki x1, ki x2] (some (ki r)) σ := kMet.of' [some (ki x0), some (ki x1), some (ki x2)] (by decide) (Nat.le_of_ble_eq_true rfl) ⟨rfl, rfl, rfl, trivial⟩ (fun x C => bd_mm_bounded C σ x0 x1 x2 h (fun r e => by subst e; rfl))
def R0_mm_lesser : Room := ({ frames := 0, cells := 0, slots := 0, locals := 0 } : Room)
def mm_lesser (σ : kM) (x0 : Int) (x1 : Int) : Option (Int) :=
  if x1 ≤ x0 then
    some x1
  else
    some x0
set_option maxHeartbeats 4000000 in
theorem bd_mm_lesser {x : kX} {l0 : Launch} {Q : State → Prop} (C : kCx x prog_14_method_6_code "PoetFinesModel" (some .int) kcl yM 2 l0 R0_mm_lesser) (σ : kM) (x0 : Int) (x1 : Int) {out : Int} (h : mm_lesser σ x0 x1 = some out) (hR : ∀ (r : Int), out = r → Q = kQ x (some (ki r)) σ 0 0) : KW x 0 0 Q σ 0 [some (ki x0), some (ki x1)] [] := by
  unfold mm_lesser at h
  refine kw_iload_n C (kdec dc_M_lesser 0 rfl) rfl 1 rfl rfl ?_
  refine kw_iload_n C (kdec dc_M_lesser 1 rfl) rfl 2 rfl rfl ?_
  refine kw_icmp_ge C (kdec dc_M_lesser 2 rfl) 9 5 (by decide) rfl (fun hc2 => ?_) (fun hc2 => ?_)
  · rw [if_pos hc2] at h
    refine kw_iload_n C (kdec dc_M_lesser 5 rfl) rfl 10 rfl rfl ?_
    obtain rfl := Option.some.inj h
    exact kw_Q (hR _ rfl) (kw_ireturn C (kdec dc_M_lesser 6 rfl))
  · rw [if_neg hc2] at h
    refine kw_iload_n C (kdec dc_M_lesser 3 rfl) rfl 6 rfl rfl ?_
    refine kw_goto C (kdec dc_M_lesser 4 rfl) 10 (by decide) ?_
    obtain rfl := Option.some.inj h
    exact kw_Q (hR _ rfl) (kw_ireturn C (kdec dc_M_lesser 6 rfl))
theorem mt_mm_lesser (l0 : Launch) {σ : kM} {x0 : Int} {x1 : Int} {r : Int} (h : mm_lesser σ x0 x1 = some r) : kMet l0 ky_M_lesser prog_14_method_6_code 2 (some .int) R0_mm_lesser kcl yM σ [ki x0, ki x1] (some (ki r)) σ := kMet.of' [some (ki x0), some (ki x1)] (by decide) (Nat.le_of_ble_eq_true rfl) ⟨rfl, rfl, trivial⟩ (fun x C => bd_mm_lesser C σ x0 x1 h (fun r e => by subst e; rfl))
def R0_mm_bits : Room := ({ frames := 0, cells := 0, slots := 0, locals := 0 } : Room)
def mm_bits_l4 (σ : kM) (x0 : Int) (x1 : Int) (x2 : Int) : Option ((Int × Int) ⊕ ((Int))) :=
  if 8 ≤ x2 then
    some (Sum.inr x1)
  else
    klet (w32 (x1 + (kand (kshr x0 x2) 1))) fun x1_1 =>
    klet (w32 (x2 + 1)) fun x2_2 =>
    some (Sum.inl (x1_1, x2_2))
set_option maxHeartbeats 4000000 in
theorem bd_mm_bits_l4 {x : kX} {l0 : Launch} {Q : State → Prop} (C : kCx x prog_14_method_8_code "PoetFinesModel" (some .int) kcl yM 3 l0 R0_mm_bits) (σ : kM) (x0 : Int) (x1 : Int) (x2 : Int) {out : (Int × Int) ⊕ ((Int))} (h : mm_bits_l4 σ x0 x1 x2 = some out) (hC : ∀ (x1' : Int) (x2' : Int), out = Sum.inl (x1', x2') → KW x 0 0 Q σ 4 [some (ki x0), some (ki x1'), some (ki x2')] []) (hX24 : ∀ (x1' : Int), out = Sum.inr x1' → KW x 0 0 Q σ 24 [none, some (ki x1'), none] []) : KW x 0 0 Q σ 4 [some (ki x0), some (ki x1), some (ki x2)] [] := by
  unfold mm_bits_l4 at h
  refine kw_iload_n C (kdec dc_M_bits 4 rfl) rfl 5 rfl rfl ?_
  refine kw_bipush (v := 8) C (kdec dc_M_bits 5 rfl) 7 rfl (by decide) ⟨by decide, by decide⟩ ?_
  refine kw_icmp_ge C (kdec dc_M_bits 6 rfl) 24 10 (by decide) rfl (fun hc7 => ?_) (fun hc7 => ?_)
  · rw [if_pos hc7] at h
    obtain rfl := Option.some.inj h
    exact kw_sub (L' := [none, some (ki x1), none]) ⟨rfl, trivial⟩ (hX24 _ rfl)
  · rw [if_neg hc7] at h
    refine kw_iload_n C (kdec dc_M_bits 7 rfl) rfl 11 rfl rfl ?_
    refine kw_iload_n C (kdec dc_M_bits 8 rfl) rfl 12 rfl rfl ?_
    refine kw_iload_n C (kdec dc_M_bits 9 rfl) rfl 13 rfl rfl ?_
    refine kw_ishr C (kdec dc_M_bits 10 rfl) 14 rfl ?_
    refine kw_iconst C (kdec dc_M_bits 11 rfl) 15 rfl rfl ⟨by decide, by decide⟩ ?_
    refine kw_iand C (kdec dc_M_bits 12 rfl) 16 rfl ?_
    refine kw_iadd C (kdec dc_M_bits 13 rfl) 17 rfl ?_
    obtain ⟨x1_1, ex1_1, h⟩ := klet_h h
    refine kw_top ex1_1 ?_
    refine kw_istore_n (L' := [some (ki x0), some (ki x1_1), some (ki x2)]) C (kdec dc_M_bits 14 rfl) rfl 18 rfl (by decide) rfl rfl ?_
    obtain ⟨x2_2, ex2_2, h⟩ := klet_h h
    refine kw_iinc (L' := [some (ki x0), some (ki x1_1), some (ki x2_2)]) C (kdec dc_M_bits 15 rfl) 21 rfl rfl (by decide) rfl (by rw [ex2_2]; rfl) ?_
    refine kw_goto C (kdec dc_M_bits 16 rfl) 4 (by decide) ?_
    obtain rfl := Option.some.inj h
    exact (hC _ _ rfl)
theorem lp_mm_bits_l4 {x : kX} {l0 : Launch} {Q : State → Prop} (C : kCx x prog_14_method_8_code "PoetFinesModel" (some .int) kcl yM 3 l0 R0_mm_bits) (σ : kM) (x0 : Int) {ex : (Int)} (hX24 : ∀ (x1' : Int), ex = x1' → KW x 0 0 Q σ 24 [none, some (ki x1'), none] []) (n : Nat) (x1 : Int) (x2 : Int) (h : kloop (fun st => mm_bits_l4 σ x0 st.1 st.2) n (x1, x2) = some ex) : KW x 0 0 Q σ 4 [some (ki x0), some (ki x1), some (ki x2)] [] :=
  kloop_ind (P := (fun st : Int × Int => KW x 0 0 Q σ 4 [some (ki x0), some (ki (st.1)), some (ki (st.2))] [])) (fun st out hb hc hx => bd_mm_bits_l4 C σ x0 st.1 st.2 hb (fun a0 a1 e => hc _ e) (fun a0 e => hX24 _ ((hx _ e).symm))) n (x1, x2) h
def mm_bits (σ : kM) (x0 : Int) : Option (Int) :=
  (kloop (fun st => mm_bits_l4 σ x0 st.1 st.2) kFuel (0, 0)).bind fun x1_5 =>
  some x1_5
set_option maxHeartbeats 4000000 in
theorem bd_mm_bits {x : kX} {l0 : Launch} {Q : State → Prop} (C : kCx x prog_14_method_8_code "PoetFinesModel" (some .int) kcl yM 3 l0 R0_mm_bits) (σ : kM) (x0 : Int) {out : Int} (h : mm_bits σ x0 = some out) (hR : ∀ (r : Int), out = r → Q = kQ x (some (ki r)) σ 0 0) : KW x 0 0 Q σ 0 [some (ki x0), none, none] [] := by
  unfold mm_bits at h
  refine kw_iconst C (kdec dc_M_bits 0 rfl) 1 rfl rfl ⟨by decide, by decide⟩ ?_
  refine kw_istore_n (L' := [some (ki x0), some (ki 0), none]) C (kdec dc_M_bits 1 rfl) rfl 2 rfl (by decide) rfl rfl ?_
  refine kw_iconst C (kdec dc_M_bits 2 rfl) 3 rfl rfl ⟨by decide, by decide⟩ ?_
  refine kw_istore_n (L' := [some (ki x0), some (ki 0), some (ki 0)]) C (kdec dc_M_bits 3 rfl) rfl 4 rfl (by decide) rfl rfl ?_
  obtain ⟨ex_3, hl_4, h⟩ := kbind_h h
  refine lp_mm_bits_l4 C σ x0 ?_ kFuel 0 0 hl_4
  · intro x1_5 e
    subst ex_3
    try dsimp only at h
    refine kw_iload_n C (kdec dc_M_bits 17 rfl) rfl 25 rfl rfl ?_
    obtain rfl := Option.some.inj h
    exact kw_Q (hR _ rfl) (kw_ireturn C (kdec dc_M_bits 18 rfl))
theorem mt_mm_bits (l0 : Launch) {σ : kM} {x0 : Int} {r : Int} (h : mm_bits σ x0 = some r) : kMet l0 ky_M_bits prog_14_method_8_code 3 (some .int) R0_mm_bits kcl yM σ [ki x0] (some (ki r)) σ := kMet.of' [some (ki x0), none, none] (by decide) (Nat.le_of_ble_eq_true rfl) ⟨rfl, trivial⟩ (fun x C => bd_mm_bits C σ x0 h (fun r e => by subst e; rfl))
def R0_mm_lays : Room := ({ frames := 0, cells := 0, slots := 0, locals := 0 } : Room)
def mm_lays_l3 (σ : kM) (x1 : Int) (x2 : Int) : Option ((kM × Int) ⊕ ((kM))) :=
  if x2 < 0 then
    some (Sum.inr σ)
  else
    kchk (0 ≤ (σ 0 9) ∧ (σ 0 9) < 700) <|
    klet (kst σ 2 (kup (σ 2) ((σ 0 9).toNat) (kand (kshr x1 x2) 255))) fun σ_2 =>
    klet (kst σ_2 0 (kup (σ_2 0) 9 (w32 ((σ_2 0 9) + 1)))) fun σ_3 =>
    klet (w32 (x2 + (-8))) fun x2_4 =>
    some (Sum.inl (σ_3, x2_4))
set_option maxHeartbeats 4000000 in
theorem bd_mm_lays_l3 {x : kX} {l0 : Launch} {Q : State → Prop} (C : kCx x prog_14_method_10_code "PoetFinesModel" none kcl yM 3 l0 R0_mm_lays) (σ : kM) (x1 : Int) (x2 : Int) {out : (kM × Int) ⊕ ((kM))} (h : mm_lays_l3 σ x1 x2 = some out) (hC : ∀ (σ' : kM) (x2' : Int), out = Sum.inl (σ', x2') → KW x 0 0 Q σ' 3 [some (kr 0), some (ki x1), some (ki x2')] []) (hX39 : ∀ (σ' : kM), out = Sum.inr σ' → KW x 0 0 Q σ' 39 [none, none, none] []) : KW x 0 0 Q σ 3 [some (kr 0), some (ki x1), some (ki x2)] [] := by
  unfold mm_lays_l3 at h
  refine kw_iload_n C (kdec dc_M_lays 2 rfl) rfl 4 rfl rfl ?_
  refine kw_if_lt C (kdec dc_M_lays 3 rfl) 39 7 (by decide) rfl (fun hc4 => ?_) (fun hc4 => ?_)
  · rw [if_pos hc4] at h
    obtain rfl := Option.some.inj h
    exact kw_sub (L' := [none, none, none]) trivial (hX39 _ rfl)
  · rw [if_neg hc4] at h
    refine kw_aload_n C (kdec dc_M_lays 4 rfl) rfl 8 rfl rfl ?_
    refine kw_getR C (kdec dc_M_lays 5 rfl) 11 rfl fd_M_M_26_0 ?_
    refine kw_aload_n C (kdec dc_M_lays 6 rfl) rfl 12 rfl rfl ?_
    refine kw_getI C (kdec dc_M_lays 7 rfl) 15 rfl fd_M_M_102_0 ?_
    refine kw_iload_n C (kdec dc_M_lays 8 rfl) rfl 16 rfl rfl ?_
    refine kw_iload_n C (kdec dc_M_lays 9 rfl) rfl 17 rfl rfl ?_
    refine kw_ishr C (kdec dc_M_lays 10 rfl) 18 rfl ?_
    refine kw_sipush (v := 255) C (kdec dc_M_lays 11 rfl) 21 rfl (by decide) ⟨by decide, by decide⟩ ?_
    refine kw_iand C (kdec dc_M_lays 12 rfl) 22 rfl ?_
    obtain ⟨hc_1, h⟩ := kchk_h h
    obtain ⟨σ_2, eσ_2, h⟩ := klet_h h
    refine kw_iast C (kdec dc_M_lays 13 rfl) 23 rfl rfl hc_1.1 hc_1.2 ?_
    refine kw_sig eσ_2 ?_
    refine kw_aload_n C (kdec dc_M_lays 14 rfl) rfl 24 rfl rfl ?_
    refine kw_dup C (kdec dc_M_lays 15 rfl) 25 rfl rfl ?_
    refine kw_getI C (kdec dc_M_lays 16 rfl) 28 rfl fd_M_M_102_0 ?_
    refine kw_iconst C (kdec dc_M_lays 17 rfl) 29 rfl rfl ⟨by decide, by decide⟩ ?_
    refine kw_iadd C (kdec dc_M_lays 18 rfl) 30 rfl ?_
    obtain ⟨σ_3, eσ_3, h⟩ := klet_h h
    refine kw_putI C (kdec dc_M_lays 19 rfl) 33 rfl fp_M_M_102_0 ?_
    refine kw_sig eσ_3 ?_
    obtain ⟨x2_4, ex2_4, h⟩ := klet_h h
    refine kw_iinc (L' := [some (kr 0), some (ki x1), some (ki x2_4)]) C (kdec dc_M_lays 20 rfl) 36 rfl rfl (by decide) rfl (by rw [ex2_4]; rfl) ?_
    refine kw_goto C (kdec dc_M_lays 21 rfl) 3 (by decide) ?_
    obtain rfl := Option.some.inj h
    exact (hC _ _ rfl)
theorem lp_mm_lays_l3 {x : kX} {l0 : Launch} {Q : State → Prop} (C : kCx x prog_14_method_10_code "PoetFinesModel" none kcl yM 3 l0 R0_mm_lays) (x1 : Int) {ex : (kM)} (hX39 : ∀ (σ' : kM), ex = σ' → KW x 0 0 Q σ' 39 [none, none, none] []) (n : Nat) (σ : kM) (x2 : Int) (h : kloop (fun st => mm_lays_l3 st.1 x1 st.2) n (σ, x2) = some ex) : KW x 0 0 Q σ 3 [some (kr 0), some (ki x1), some (ki x2)] [] :=
  kloop_ind (P := (fun st : kM × Int => KW x 0 0 Q st.1 3 [some (kr 0), some (ki x1), some (ki (st.2))] [])) (fun st out hb hc hx => bd_mm_lays_l3 C st.1 x1 st.2 hb (fun a0 a1 e => hc _ e) (fun a0 e => hX39 _ ((hx _ e).symm))) n (σ, x2) h
def mm_lays (σ : kM) (x1 : Int) : Option (kM) :=
  (kloop (fun st => mm_lays_l3 st.1 x1 st.2) kFuel (σ, 24)).bind fun σ_7 =>
  some σ_7
set_option maxHeartbeats 4000000 in
theorem bd_mm_lays {x : kX} {l0 : Launch} {Q : State → Prop} (C : kCx x prog_14_method_10_code "PoetFinesModel" none kcl yM 3 l0 R0_mm_lays) (σ : kM) (x1 : Int) {out : kM} (h : mm_lays σ x1 = some out) (hR : ∀ (τ : kM), out = τ → Q = kQ x none τ 0 0) : KW x 0 0 Q σ 0 [some (kr 0), some (ki x1), none] [] := by
  unfold mm_lays at h
  refine kw_bipush (v := 24) C (kdec dc_M_lays 0 rfl) 2 rfl (by decide) ⟨by decide, by decide⟩ ?_
  refine kw_istore_n (L' := [some (kr 0), some (ki x1), some (ki 24)]) C (kdec dc_M_lays 1 rfl) rfl 3 rfl (by decide) rfl rfl ?_
  obtain ⟨ex_5, hl_6, h⟩ := kbind_h h
  refine lp_mm_lays_l3 C x1 ?_ kFuel σ 24 hl_6
  · intro σ_7 e
    subst ex_5
    try dsimp only at h
    obtain rfl := Option.some.inj h
    exact kw_Q (hR _ rfl) (kw_return C (kdec dc_M_lays 22 rfl))
theorem mt_mm_lays (l0 : Launch) {σ : kM} {x1 : Int} {τ : kM} (h : mm_lays σ x1 = some τ) : kMet l0 ky_M_lays prog_14_method_10_code 3 none R0_mm_lays kcl yM σ [kr 0, ki x1] none τ := kMet.of' [some (kr 0), some (ki x1), none] (by decide) (Nat.le_of_ble_eq_true rfl) ⟨rfl, rfl, trivial⟩ (fun x C => bd_mm_lays C σ x1 h (fun τ e => by subst e; rfl))
def R0_mm_feed : Room := ({ frames := 1, cells := 0, slots := 0, locals := 22 } : Room)
def mm_feed (σ : kM) (x1 : Int) (x2 : Int) (x3 : Int) (x4 : Int) (x5 : Int) : Option (Int × kM) :=
  klet (kst σ 0 (kup (σ 0) 0 0)) fun σ_1 =>
  if (w32 ((σ_1 0 9) + 20)) ≤ 700 then
    (mm_lays σ_1 x1).bind fun σ_2 =>
    (mm_lays σ_2 x2).bind fun σ_3 =>
    (mm_lays σ_3 x3).bind fun σ_4 =>
    (mm_lays σ_4 x4).bind fun σ_5 =>
    (mm_lays σ_5 x5).bind fun σ_6 =>
    some ((σ_6 0 9, σ_6))
  else
    some (((-1), σ_1))
set_option maxHeartbeats 4000000 in
theorem bd_mm_feed {x : kX} {l0 : Launch} {Q : State → Prop} (C : kCx x prog_14_method_9_code "PoetFinesModel" (some .int) kcl yM 6 l0 R0_mm_feed) (σ : kM) (x1 : Int) (x2 : Int) (x3 : Int) (x4 : Int) (x5 : Int) {out : Int × kM} (h : mm_feed σ x1 x2 x3 x4 x5 = some out) (hR : ∀ (r : Int) (τ : kM), out = (r, τ) → Q = kQ x (some (ki r)) τ 0 0) : KW x 0 0 Q σ 0 [some (kr 0), some (ki x1), some (ki x2), some (ki x3), some (ki x4), some (ki x5)] [] := by
  unfold mm_feed at h
  refine kw_aload_n C (kdec dc_M_feed 0 rfl) rfl 1 rfl rfl ?_
  refine kw_iconst C (kdec dc_M_feed 1 rfl) 2 rfl rfl ⟨by decide, by decide⟩ ?_
  obtain ⟨σ_1, eσ_1, h⟩ := klet_h h
  refine kw_putI C (kdec dc_M_feed 2 rfl) 5 rfl fp_M_M_99_0 ?_
  refine kw_sig eσ_1 ?_
  refine kw_aload_n C (kdec dc_M_feed 3 rfl) rfl 6 rfl rfl ?_
  refine kw_getI C (kdec dc_M_feed 4 rfl) 9 rfl fd_M_M_102_0 ?_
  refine kw_bipush (v := 20) C (kdec dc_M_feed 5 rfl) 11 rfl (by decide) ⟨by decide, by decide⟩ ?_
  refine kw_iadd C (kdec dc_M_feed 6 rfl) 12 rfl ?_
  refine kw_sipush (v := 700) C (kdec dc_M_feed 7 rfl) 15 rfl (by decide) ⟨by decide, by decide⟩ ?_
  refine kw_icmp_le C (kdec dc_M_feed 8 rfl) 20 18 (by decide) rfl (fun hc15 => ?_) (fun hc15 => ?_)
  · rw [if_pos hc15] at h
    refine kw_aload_n C (kdec dc_M_feed 11 rfl) rfl 21 rfl rfl ?_
    refine kw_iload_n C (kdec dc_M_feed 12 rfl) rfl 22 rfl rfl ?_
    obtain ⟨σ_2, hg_11, h⟩ := kbind_h h
    refine kw_callV (As := [ki x1]) C (kdec dc_M_feed 13 rfl) 25 rfl cv_M_105 rfl rfl (mt_mm_lays l0 hg_11) ⟨rfl, rfl⟩ ⟨Nat.le_of_ble_eq_true rfl, Nat.le_of_ble_eq_true rfl⟩ ⟨Nat.zero_le _, Nat.zero_le _⟩ rfl (Nat.le_of_ble_eq_true rfl) ?_
    change KW x 0 0 Q σ_2 25 [some (kr 0), some (ki x1), some (ki x2), some (ki x3), some (ki x4), some (ki x5)] []
    refine kw_aload_n C (kdec dc_M_feed 14 rfl) rfl 26 rfl rfl ?_
    refine kw_iload_n C (kdec dc_M_feed 15 rfl) rfl 27 rfl rfl ?_
    obtain ⟨σ_3, hg_10, h⟩ := kbind_h h
    refine kw_callV (As := [ki x2]) C (kdec dc_M_feed 16 rfl) 30 rfl cv_M_105 rfl rfl (mt_mm_lays l0 hg_10) ⟨rfl, rfl⟩ ⟨Nat.le_of_ble_eq_true rfl, Nat.le_of_ble_eq_true rfl⟩ ⟨Nat.zero_le _, Nat.zero_le _⟩ rfl (Nat.le_of_ble_eq_true rfl) ?_
    change KW x 0 0 Q σ_3 30 [some (kr 0), some (ki x1), some (ki x2), some (ki x3), some (ki x4), some (ki x5)] []
    refine kw_aload_n C (kdec dc_M_feed 17 rfl) rfl 31 rfl rfl ?_
    refine kw_iload_n C (kdec dc_M_feed 18 rfl) rfl 32 rfl rfl ?_
    obtain ⟨σ_4, hg_9, h⟩ := kbind_h h
    refine kw_callV (As := [ki x3]) C (kdec dc_M_feed 19 rfl) 35 rfl cv_M_105 rfl rfl (mt_mm_lays l0 hg_9) ⟨rfl, rfl⟩ ⟨Nat.le_of_ble_eq_true rfl, Nat.le_of_ble_eq_true rfl⟩ ⟨Nat.zero_le _, Nat.zero_le _⟩ rfl (Nat.le_of_ble_eq_true rfl) ?_
    change KW x 0 0 Q σ_4 35 [some (kr 0), some (ki x1), some (ki x2), some (ki x3), some (ki x4), some (ki x5)] []
    refine kw_aload_n C (kdec dc_M_feed 20 rfl) rfl 36 rfl rfl ?_
    refine kw_iload C (kdec dc_M_feed 21 rfl) 38 rfl rfl ?_
    obtain ⟨σ_5, hg_8, h⟩ := kbind_h h
    refine kw_callV (As := [ki x4]) C (kdec dc_M_feed 22 rfl) 41 rfl cv_M_105 rfl rfl (mt_mm_lays l0 hg_8) ⟨rfl, rfl⟩ ⟨Nat.le_of_ble_eq_true rfl, Nat.le_of_ble_eq_true rfl⟩ ⟨Nat.zero_le _, Nat.zero_le _⟩ rfl (Nat.le_of_ble_eq_true rfl) ?_
    change KW x 0 0 Q σ_5 41 [some (kr 0), some (ki x1), some (ki x2), some (ki x3), some (ki x4), some (ki x5)] []
    refine kw_aload_n C (kdec dc_M_feed 23 rfl) rfl 42 rfl rfl ?_
    refine kw_iload C (kdec dc_M_feed 24 rfl) 44 rfl rfl ?_
    obtain ⟨σ_6, hg_7, h⟩ := kbind_h h
    refine kw_callV (As := [ki x5]) C (kdec dc_M_feed 25 rfl) 47 rfl cv_M_105 rfl rfl (mt_mm_lays l0 hg_7) ⟨rfl, rfl⟩ ⟨Nat.le_of_ble_eq_true rfl, Nat.le_of_ble_eq_true rfl⟩ ⟨Nat.zero_le _, Nat.zero_le _⟩ rfl (Nat.le_of_ble_eq_true rfl) ?_
    change KW x 0 0 Q σ_6 47 [some (kr 0), some (ki x1), some (ki x2), some (ki x3), some (ki x4), some (ki x5)] []
    refine kw_aload_n C (kdec dc_M_feed 26 rfl) rfl 48 rfl rfl ?_
    refine kw_getI C (kdec dc_M_feed 27 rfl) 51 rfl fd_M_M_102_0 ?_
    obtain rfl := Option.some.inj h
    exact kw_Q (hR _ _ rfl) (kw_ireturn C (kdec dc_M_feed 28 rfl))
  · rw [if_neg hc15] at h
    refine kw_iconst C (kdec dc_M_feed 9 rfl) 19 rfl rfl ⟨by decide, by decide⟩ ?_
    obtain rfl := Option.some.inj h
    exact kw_Q (hR _ _ rfl) (kw_ireturn C (kdec dc_M_feed 10 rfl))
theorem mt_mm_feed (l0 : Launch) {σ : kM} {x1 : Int} {x2 : Int} {x3 : Int} {x4 : Int} {x5 : Int} {r : Int} {τ : kM} (h : mm_feed σ x1 x2 x3 x4 x5 = some (r, τ)) : kMet l0 ky_M_feed prog_14_method_9_code 6 (some .int) R0_mm_feed kcl yM σ [kr 0, ki x1, ki x2, ki x3, ki x4, ki x5] (some (ki r)) τ := kMet.of' [some (kr 0), some (ki x1), some (ki x2), some (ki x3), some (ki x4), some (ki x5)] (by decide) (Nat.le_of_ble_eq_true rfl) ⟨rfl, rfl, rfl, rfl, rfl, rfl, trivial⟩ (fun x C => bd_mm_feed C σ x1 x2 x3 x4 x5 h (fun r τ e => by cases e; rfl))
def R0_mm_byteAt : Room := ({ frames := 0, cells := 0, slots := 0, locals := 0 } : Room)
def mm_byteAt (σ : kM) (x1 : Int) : Option (Int) :=
  if (σ 0 13) ≤ x1 then
    some 0
  else
    kchk (0 ≤ x1 ∧ x1 < 700) <|
    some (σ 2 x1.toNat)
set_option maxHeartbeats 4000000 in
theorem bd_mm_byteAt {x : kX} {l0 : Launch} {Q : State → Prop} (C : kCx x prog_14_method_11_code "PoetFinesModel" (some .int) kcl yM 2 l0 R0_mm_byteAt) (σ : kM) (x1 : Int) {out : Int} (h : mm_byteAt σ x1 = some out) (hR : ∀ (r : Int), out = r → Q = kQ x (some (ki r)) σ 0 0) : KW x 0 0 Q σ 0 [some (kr 0), some (ki x1)] [] := by
  unfold mm_byteAt at h
  refine kw_iload_n C (kdec dc_M_byteAt 0 rfl) rfl 1 rfl rfl ?_
  refine kw_aload_n C (kdec dc_M_byteAt 1 rfl) rfl 2 rfl rfl ?_
  refine kw_getI C (kdec dc_M_byteAt 2 rfl) 5 rfl fd_M_M_109_0 ?_
  refine kw_icmp_ge C (kdec dc_M_byteAt 3 rfl) 17 8 (by decide) rfl (fun hc5 => ?_) (fun hc5 => ?_)
  · rw [if_pos hc5] at h
    refine kw_iconst C (kdec dc_M_byteAt 9 rfl) 18 rfl rfl ⟨by decide, by decide⟩ ?_
    obtain rfl := Option.some.inj h
    exact kw_Q (hR _ rfl) (kw_ireturn C (kdec dc_M_byteAt 10 rfl))
  · rw [if_neg hc5] at h
    refine kw_aload_n C (kdec dc_M_byteAt 4 rfl) rfl 9 rfl rfl ?_
    refine kw_getR C (kdec dc_M_byteAt 5 rfl) 12 rfl fd_M_M_26_0 ?_
    refine kw_iload_n C (kdec dc_M_byteAt 6 rfl) rfl 13 rfl rfl ?_
    obtain ⟨hc_1, h⟩ := kchk_h h
    refine kw_iald C (kdec dc_M_byteAt 7 rfl) 14 rfl rfl hc_1.1 hc_1.2 ?_
    refine kw_goto C (kdec dc_M_byteAt 8 rfl) 18 (by decide) ?_
    obtain rfl := Option.some.inj h
    exact kw_Q (hR _ rfl) (kw_ireturn C (kdec dc_M_byteAt 10 rfl))
theorem mt_mm_byteAt (l0 : Launch) {σ : kM} {x1 : Int} {r : Int} (h : mm_byteAt σ x1 = some r) : kMet l0 ky_M_byteAt prog_14_method_11_code 2 (some .int) R0_mm_byteAt kcl yM σ [kr 0, ki x1] (some (ki r)) σ := kMet.of' [some (kr 0), some (ki x1)] (by decide) (Nat.le_of_ble_eq_true rfl) ⟨rfl, rfl, trivial⟩ (fun x C => bd_mm_byteAt C σ x1 h (fun r e => by subst e; rfl))
def R0_mm_isLetter : Room := ({ frames := 0, cells := 0, slots := 0, locals := 0 } : Room)
def mm_isLetter (σ : kM) (x0 : Int) : Option (Int) :=
  if x0 < 97 then
    some 0
  else
    if 122 < x0 then
      some 0
    else
      some 1
set_option maxHeartbeats 4000000 in
theorem bd_mm_isLetter {x : kX} {l0 : Launch} {Q : State → Prop} (C : kCx x prog_14_method_12_code "PoetFinesModel" (some .boolean) kcl yM 1 l0 R0_mm_isLetter) (σ : kM) (x0 : Int) {out : Int} (h : mm_isLetter σ x0 = some out) (hR : ∀ (r : Int), out = r → Q = kQ x (some (ki r)) σ 0 0) : KW x 0 0 Q σ 0 [some (ki x0)] [] := by
  unfold mm_isLetter at h
  refine kw_iload_n C (kdec dc_M_isLetter 0 rfl) rfl 1 rfl rfl ?_
  refine kw_bipush (v := 97) C (kdec dc_M_isLetter 1 rfl) 3 rfl (by decide) ⟨by decide, by decide⟩ ?_
  refine kw_icmp_lt C (kdec dc_M_isLetter 2 rfl) 16 6 (by decide) rfl (fun hc3 => ?_) (fun hc3 => ?_)
  · rw [if_pos hc3] at h
    refine kw_iconst C (kdec dc_M_isLetter 8 rfl) 17 rfl rfl ⟨by decide, by decide⟩ ?_
    obtain rfl := Option.some.inj h
    exact kw_Q (hR _ rfl) (kw_zreturn C (kdec dc_M_isLetter 9 rfl) (by decide))
  · rw [if_neg hc3] at h
    refine kw_iload_n C (kdec dc_M_isLetter 3 rfl) rfl 7 rfl rfl ?_
    refine kw_bipush (v := 122) C (kdec dc_M_isLetter 4 rfl) 9 rfl (by decide) ⟨by decide, by decide⟩ ?_
    refine kw_icmp_gt C (kdec dc_M_isLetter 5 rfl) 16 12 (by decide) rfl (fun hc9 => ?_) (fun hc9 => ?_)
    · rw [if_pos hc9] at h
      refine kw_iconst C (kdec dc_M_isLetter 8 rfl) 17 rfl rfl ⟨by decide, by decide⟩ ?_
      obtain rfl := Option.some.inj h
      exact kw_Q (hR _ rfl) (kw_zreturn C (kdec dc_M_isLetter 9 rfl) (by decide))
    · rw [if_neg hc9] at h
      refine kw_iconst C (kdec dc_M_isLetter 6 rfl) 13 rfl rfl ⟨by decide, by decide⟩ ?_
      refine kw_goto C (kdec dc_M_isLetter 7 rfl) 17 (by decide) ?_
      obtain rfl := Option.some.inj h
      exact kw_Q (hR _ rfl) (kw_zreturn C (kdec dc_M_isLetter 9 rfl) (by decide))
theorem mt_mm_isLetter (l0 : Launch) {σ : kM} {x0 : Int} {r : Int} (h : mm_isLetter σ x0 = some r) : kMet l0 ky_M_isLetter prog_14_method_12_code 1 (some .boolean) R0_mm_isLetter kcl yM σ [ki x0] (some (ki r)) σ := kMet.of' [some (ki x0)] (by decide) (Nat.le_of_ble_eq_true rfl) ⟨rfl, trivial⟩ (fun x C => bd_mm_isLetter C σ x0 h (fun r e => by subst e; rfl))
def R0_mm_isDigit : Room := ({ frames := 0, cells := 0, slots := 0, locals := 0 } : Room)
def mm_isDigit (σ : kM) (x0 : Int) : Option (Int) :=
  if x0 < 48 then
    some 0
  else
    if 57 < x0 then
      some 0
    else
      some 1
set_option maxHeartbeats 4000000 in
theorem bd_mm_isDigit {x : kX} {l0 : Launch} {Q : State → Prop} (C : kCx x prog_14_method_13_code "PoetFinesModel" (some .boolean) kcl yM 1 l0 R0_mm_isDigit) (σ : kM) (x0 : Int) {out : Int} (h : mm_isDigit σ x0 = some out) (hR : ∀ (r : Int), out = r → Q = kQ x (some (ki r)) σ 0 0) : KW x 0 0 Q σ 0 [some (ki x0)] [] := by
  unfold mm_isDigit at h
  refine kw_iload_n C (kdec dc_M_isDigit 0 rfl) rfl 1 rfl rfl ?_
  refine kw_bipush (v := 48) C (kdec dc_M_isDigit 1 rfl) 3 rfl (by decide) ⟨by decide, by decide⟩ ?_
  refine kw_icmp_lt C (kdec dc_M_isDigit 2 rfl) 16 6 (by decide) rfl (fun hc3 => ?_) (fun hc3 => ?_)
  · rw [if_pos hc3] at h
    refine kw_iconst C (kdec dc_M_isDigit 8 rfl) 17 rfl rfl ⟨by decide, by decide⟩ ?_
    obtain rfl := Option.some.inj h
    exact kw_Q (hR _ rfl) (kw_zreturn C (kdec dc_M_isDigit 9 rfl) (by decide))
  · rw [if_neg hc3] at h
    refine kw_iload_n C (kdec dc_M_isDigit 3 rfl) rfl 7 rfl rfl ?_
    refine kw_bipush (v := 57) C (kdec dc_M_isDigit 4 rfl) 9 rfl (by decide) ⟨by decide, by decide⟩ ?_
    refine kw_icmp_gt C (kdec dc_M_isDigit 5 rfl) 16 12 (by decide) rfl (fun hc9 => ?_) (fun hc9 => ?_)
    · rw [if_pos hc9] at h
      refine kw_iconst C (kdec dc_M_isDigit 8 rfl) 17 rfl rfl ⟨by decide, by decide⟩ ?_
      obtain rfl := Option.some.inj h
      exact kw_Q (hR _ rfl) (kw_zreturn C (kdec dc_M_isDigit 9 rfl) (by decide))
    · rw [if_neg hc9] at h
      refine kw_iconst C (kdec dc_M_isDigit 6 rfl) 13 rfl rfl ⟨by decide, by decide⟩ ?_
      refine kw_goto C (kdec dc_M_isDigit 7 rfl) 17 (by decide) ?_
      obtain rfl := Option.some.inj h
      exact kw_Q (hR _ rfl) (kw_zreturn C (kdec dc_M_isDigit 9 rfl) (by decide))
theorem mt_mm_isDigit (l0 : Launch) {σ : kM} {x0 : Int} {r : Int} (h : mm_isDigit σ x0 = some r) : kMet l0 ky_M_isDigit prog_14_method_13_code 1 (some .boolean) R0_mm_isDigit kcl yM σ [ki x0] (some (ki r)) σ := kMet.of' [some (ki x0)] (by decide) (Nat.le_of_ble_eq_true rfl) ⟨rfl, trivial⟩ (fun x C => bd_mm_isDigit C σ x0 h (fun r e => by subst e; rfl))
def R0_mm_goes : Room := ({ frames := 1, cells := 0, slots := 0, locals := 21 } : Room)
def mm_goes_l0_j37 (σ : kM) : Option ((kM) ⊕ ((kM))) :=
  klet (kst σ 0 (kup (σ 0) 14 (w32 ((σ 0 14) + 1)))) fun σ_2 =>
  some (Sum.inl σ_2)
set_option maxHeartbeats 4000000 in
theorem bd_mm_goes_l0_j37 {x : kX} {l0 : Launch} {Q : State → Prop} (C : kCx x prog_14_method_14_code "PoetFinesModel" none kcl yM 2 l0 R0_mm_goes) (σ : kM) {out : (kM) ⊕ ((kM))} (h : mm_goes_l0_j37 σ = some out) (hC : ∀ (σ' : kM), out = Sum.inl σ' → KW x 0 0 Q σ' 0 [some (kr 0), none] []) (hX50 : ∀ (σ' : kM), out = Sum.inr σ' → KW x 0 0 Q σ' 50 [some (kr 0), none] []) : KW x 0 0 Q σ 37 [some (kr 0), none] [] := by
  unfold mm_goes_l0_j37 at h
  refine kw_aload_n C (kdec dc_M_goes 17 rfl) rfl 38 rfl rfl ?_
  refine kw_dup C (kdec dc_M_goes 18 rfl) 39 rfl rfl ?_
  refine kw_getI C (kdec dc_M_goes 19 rfl) 42 rfl fd_M_M_112_0 ?_
  refine kw_iconst C (kdec dc_M_goes 20 rfl) 43 rfl rfl ⟨by decide, by decide⟩ ?_
  refine kw_iadd C (kdec dc_M_goes 21 rfl) 44 rfl ?_
  obtain ⟨σ_2, eσ_2, h⟩ := klet_h h
  refine kw_putI C (kdec dc_M_goes 22 rfl) 47 rfl fp_M_M_112_0 ?_
  refine kw_sig eσ_2 ?_
  refine kw_goto C (kdec dc_M_goes 23 rfl) 0 (by decide) ?_
  obtain rfl := Option.some.inj h
  exact (hC _ rfl)
def mm_goes_l0 (σ : kM) : Option ((kM) ⊕ ((kM))) :=
  if (σ 0 13) ≤ (σ 0 14) then
    some (Sum.inr σ)
  else
    (mm_byteAt σ (σ 0 14)).bind fun r_1 =>
    if r_1 = 32 then
      mm_goes_l0_j37 σ
    else
      (mm_byteAt σ (σ 0 14)).bind fun r_3 =>
      if r_3 = 10 then
        mm_goes_l0_j37 σ
      else
        some (Sum.inr σ)
set_option maxHeartbeats 4000000 in
theorem bd_mm_goes_l0 {x : kX} {l0 : Launch} {Q : State → Prop} (C : kCx x prog_14_method_14_code "PoetFinesModel" none kcl yM 2 l0 R0_mm_goes) (σ : kM) {out : (kM) ⊕ ((kM))} (h : mm_goes_l0 σ = some out) (hC : ∀ (σ' : kM), out = Sum.inl σ' → KW x 0 0 Q σ' 0 [some (kr 0), none] []) (hX50 : ∀ (σ' : kM), out = Sum.inr σ' → KW x 0 0 Q σ' 50 [some (kr 0), none] []) : KW x 0 0 Q σ 0 [some (kr 0), none] [] := by
  unfold mm_goes_l0 at h
  refine kw_aload_n C (kdec dc_M_goes 0 rfl) rfl 1 rfl rfl ?_
  refine kw_getI C (kdec dc_M_goes 1 rfl) 4 rfl fd_M_M_112_0 ?_
  refine kw_aload_n C (kdec dc_M_goes 2 rfl) rfl 5 rfl rfl ?_
  refine kw_getI C (kdec dc_M_goes 3 rfl) 8 rfl fd_M_M_109_0 ?_
  refine kw_icmp_ge C (kdec dc_M_goes 4 rfl) 50 11 (by decide) rfl (fun hc8 => ?_) (fun hc8 => ?_)
  · rw [if_pos hc8] at h
    obtain rfl := Option.some.inj h
    exact (hX50 _ rfl)
  · rw [if_neg hc8] at h
    refine kw_aload_n C (kdec dc_M_goes 5 rfl) rfl 12 rfl rfl ?_
    refine kw_aload_n C (kdec dc_M_goes 6 rfl) rfl 13 rfl rfl ?_
    refine kw_getI C (kdec dc_M_goes 7 rfl) 16 rfl fd_M_M_112_0 ?_
    obtain ⟨r_1, hg_5, h⟩ := kbind_h h
    refine kw_callV (As := [ki (σ 0 14)]) C (kdec dc_M_goes 8 rfl) 19 rfl cv_M_115 rfl rfl (mt_mm_byteAt l0 hg_5) ⟨rfl, rfl⟩ ⟨Nat.le_of_ble_eq_true rfl, Nat.le_of_ble_eq_true rfl⟩ ⟨Nat.zero_le _, Nat.zero_le _⟩ rfl (Nat.le_of_ble_eq_true rfl) ?_
    change KW x 0 0 Q σ 19 [some (kr 0), none] [ki r_1]
    refine kw_bipush (v := 32) C (kdec dc_M_goes 9 rfl) 21 rfl (by decide) ⟨by decide, by decide⟩ ?_
    refine kw_icmp_eq C (kdec dc_M_goes 10 rfl) 37 24 (by decide) rfl (fun hc21 => ?_) (fun hc21 => ?_)
    · rw [if_pos hc21] at h
      exact bd_mm_goes_l0_j37 C σ h hC hX50
    · rw [if_neg hc21] at h
      refine kw_aload_n C (kdec dc_M_goes 11 rfl) rfl 25 rfl rfl ?_
      refine kw_aload_n C (kdec dc_M_goes 12 rfl) rfl 26 rfl rfl ?_
      refine kw_getI C (kdec dc_M_goes 13 rfl) 29 rfl fd_M_M_112_0 ?_
      obtain ⟨r_3, hg_4, h⟩ := kbind_h h
      refine kw_callV (As := [ki (σ 0 14)]) C (kdec dc_M_goes 14 rfl) 32 rfl cv_M_115 rfl rfl (mt_mm_byteAt l0 hg_4) ⟨rfl, rfl⟩ ⟨Nat.le_of_ble_eq_true rfl, Nat.le_of_ble_eq_true rfl⟩ ⟨Nat.zero_le _, Nat.zero_le _⟩ rfl (Nat.le_of_ble_eq_true rfl) ?_
      change KW x 0 0 Q σ 32 [some (kr 0), none] [ki r_3]
      refine kw_bipush (v := 10) C (kdec dc_M_goes 15 rfl) 34 rfl (by decide) ⟨by decide, by decide⟩ ?_
      refine kw_icmp_ne C (kdec dc_M_goes 16 rfl) 50 37 (by decide) rfl (fun hc34 => ?_) (fun hc34 => ?_)
      · rw [if_neg hc34] at h
        obtain rfl := Option.some.inj h
        exact (hX50 _ rfl)
      · rw [if_pos hc34] at h
        exact bd_mm_goes_l0_j37 C σ h hC hX50
theorem lp_mm_goes_l0 {x : kX} {l0 : Launch} {Q : State → Prop} (C : kCx x prog_14_method_14_code "PoetFinesModel" none kcl yM 2 l0 R0_mm_goes) {ex : (kM)} (hX50 : ∀ (σ' : kM), ex = σ' → KW x 0 0 Q σ' 50 [some (kr 0), none] []) (n : Nat) (σ : kM) (h : kloop (fun st => mm_goes_l0 st) n σ = some ex) : KW x 0 0 Q σ 0 [some (kr 0), none] [] :=
  kloop_ind (P := (fun st : kM => KW x 0 0 Q st 0 [some (kr 0), none] [])) (fun st out hb hc hx => bd_mm_goes_l0 C st hb (fun a0 e => hc _ e) (fun a0 e => hX50 _ ((hx _ e).symm))) n σ h
def mm_goes_j331 (σ : kM) : Option (kM) :=
  klet (kst σ 0 (kup (σ 0) 17 (w32 ((σ 0 14) - (σ 0 16))))) fun σ_18 =>
  some σ_18
set_option maxHeartbeats 4000000 in
theorem bd_mm_goes_j331 {x : kX} {l0 : Launch} {Q : State → Prop} (C : kCx x prog_14_method_14_code "PoetFinesModel" none kcl yM 2 l0 R0_mm_goes) (σ : kM) {out : kM} (h : mm_goes_j331 σ = some out) (hR : ∀ (τ : kM), out = τ → Q = kQ x none τ 0 0) : KW x 0 0 Q σ 331 [some (kr 0), none] [] := by
  unfold mm_goes_j331 at h
  refine kw_aload_n C (kdec dc_M_goes 170 rfl) rfl 332 rfl rfl ?_
  refine kw_aload_n C (kdec dc_M_goes 171 rfl) rfl 333 rfl rfl ?_
  refine kw_getI C (kdec dc_M_goes 172 rfl) 336 rfl fd_M_M_112_0 ?_
  refine kw_aload_n C (kdec dc_M_goes 173 rfl) rfl 337 rfl rfl ?_
  refine kw_getI C (kdec dc_M_goes 174 rfl) 340 rfl fd_M_M_119_0 ?_
  refine kw_isub C (kdec dc_M_goes 175 rfl) 341 rfl ?_
  obtain ⟨σ_18, eσ_18, h⟩ := klet_h h
  refine kw_putI C (kdec dc_M_goes 176 rfl) 344 rfl fp_M_M_142_0 ?_
  refine kw_sig eσ_18 ?_
  obtain rfl := Option.some.inj h
  exact kw_Q (hR _ rfl) (kw_return C (kdec dc_M_goes 177 rfl))
def mm_goes_j328 (σ : kM) (s0 : Int) : Option (kM) :=
  klet (kst σ 0 (kup (σ 0) 15 s0)) fun σ_17 =>
  mm_goes_j331 σ_17
set_option maxHeartbeats 4000000 in
theorem bd_mm_goes_j328 {x : kX} {l0 : Launch} {Q : State → Prop} (C : kCx x prog_14_method_14_code "PoetFinesModel" none kcl yM 2 l0 R0_mm_goes) (σ : kM) (s0 : Int) {out : kM} (h : mm_goes_j328 σ s0 = some out) (hR : ∀ (τ : kM), out = τ → Q = kQ x none τ 0 0) : KW x 0 0 Q σ 328 [some (kr 0), none] [ki s0, kr 0] := by
  unfold mm_goes_j328 at h
  obtain ⟨σ_17, eσ_17, h⟩ := klet_h h
  refine kw_putI C (kdec dc_M_goes 169 rfl) 331 rfl fp_M_M_132_0 ?_
  refine kw_sig eσ_17 ?_
  exact bd_mm_goes_j331 C σ_17 h hR
def mm_goes_j323 (σ : kM) : Option (kM) :=
  mm_goes_j328 σ 3
set_option maxHeartbeats 4000000 in
theorem bd_mm_goes_j323 {x : kX} {l0 : Launch} {Q : State → Prop} (C : kCx x prog_14_method_14_code "PoetFinesModel" none kcl yM 2 l0 R0_mm_goes) (σ : kM) {out : kM} (h : mm_goes_j323 σ = some out) (hR : ∀ (τ : kM), out = τ → Q = kQ x none τ 0 0) : KW x 0 0 Q σ 323 [some (kr 0), none] [kr 0] := by
  unfold mm_goes_j323 at h
  refine kw_iconst C (kdec dc_M_goes 166 rfl) 324 rfl rfl ⟨by decide, by decide⟩ ?_
  refine kw_goto C (kdec dc_M_goes 167 rfl) 328 (by decide) ?_
  exact bd_mm_goes_j328 C σ 3 h hR
def mm_goes_l187_j237 (σ : kM) : Option ((kM) ⊕ ((kM))) :=
  klet (kst σ 0 (kup (σ 0) 14 (w32 ((σ 0 14) + 1)))) fun σ_21 =>
  some (Sum.inl σ_21)
set_option maxHeartbeats 4000000 in
theorem bd_mm_goes_l187_j237 {x : kX} {l0 : Launch} {Q : State → Prop} (C : kCx x prog_14_method_14_code "PoetFinesModel" none kcl yM 2 l0 R0_mm_goes) (σ : kM) {out : (kM) ⊕ ((kM))} (h : mm_goes_l187_j237 σ = some out) (hC : ∀ (σ' : kM), out = Sum.inl σ' → KW x 0 0 Q σ' 187 [some (kr 0), none] []) (hX250 : ∀ (σ' : kM), out = Sum.inr σ' → KW x 0 0 Q σ' 250 [some (kr 0), none] []) : KW x 0 0 Q σ 237 [some (kr 0), none] [] := by
  unfold mm_goes_l187_j237 at h
  refine kw_aload_n C (kdec dc_M_goes 121 rfl) rfl 238 rfl rfl ?_
  refine kw_dup C (kdec dc_M_goes 122 rfl) 239 rfl rfl ?_
  refine kw_getI C (kdec dc_M_goes 123 rfl) 242 rfl fd_M_M_112_0 ?_
  refine kw_iconst C (kdec dc_M_goes 124 rfl) 243 rfl rfl ⟨by decide, by decide⟩ ?_
  refine kw_iadd C (kdec dc_M_goes 125 rfl) 244 rfl ?_
  obtain ⟨σ_21, eσ_21, h⟩ := klet_h h
  refine kw_putI C (kdec dc_M_goes 126 rfl) 247 rfl fp_M_M_112_0 ?_
  refine kw_sig eσ_21 ?_
  refine kw_goto C (kdec dc_M_goes 127 rfl) 187 (by decide) ?_
  obtain rfl := Option.some.inj h
  exact (hC _ rfl)
def mm_goes_l187 (σ : kM) : Option ((kM) ⊕ ((kM))) :=
  (mm_byteAt σ (σ 0 14)).bind fun r_19 =>
  (mm_isDigit σ r_19).bind fun r_20 =>
  if r_20 = 0 then
    some (Sum.inr σ)
  else
    if 4 ≤ (w32 ((σ 0 14) - (σ 0 16))) then
      mm_goes_l187_j237 σ
    else
      (mm_byteAt σ (σ 0 14)).bind fun r_22 =>
      klet (kst σ 0 (kup (σ 0) 18 (w32 ((w32 ((w32 (10 * (σ 0 18))) + r_22)) - 48)))) fun σ_23 =>
      mm_goes_l187_j237 σ_23
set_option maxHeartbeats 4000000 in
theorem bd_mm_goes_l187 {x : kX} {l0 : Launch} {Q : State → Prop} (C : kCx x prog_14_method_14_code "PoetFinesModel" none kcl yM 2 l0 R0_mm_goes) (σ : kM) {out : (kM) ⊕ ((kM))} (h : mm_goes_l187 σ = some out) (hC : ∀ (σ' : kM), out = Sum.inl σ' → KW x 0 0 Q σ' 187 [some (kr 0), none] []) (hX250 : ∀ (σ' : kM), out = Sum.inr σ' → KW x 0 0 Q σ' 250 [some (kr 0), none] []) : KW x 0 0 Q σ 187 [some (kr 0), none] [] := by
  unfold mm_goes_l187 at h
  refine kw_aload_n C (kdec dc_M_goes 95 rfl) rfl 188 rfl rfl ?_
  refine kw_aload_n C (kdec dc_M_goes 96 rfl) rfl 189 rfl rfl ?_
  refine kw_getI C (kdec dc_M_goes 97 rfl) 192 rfl fd_M_M_112_0 ?_
  obtain ⟨r_19, hg_26, h⟩ := kbind_h h
  refine kw_callV (As := [ki (σ 0 14)]) C (kdec dc_M_goes 98 rfl) 195 rfl cv_M_115 rfl rfl (mt_mm_byteAt l0 hg_26) ⟨rfl, rfl⟩ ⟨Nat.le_of_ble_eq_true rfl, Nat.le_of_ble_eq_true rfl⟩ ⟨Nat.zero_le _, Nat.zero_le _⟩ rfl (Nat.le_of_ble_eq_true rfl) ?_
  change KW x 0 0 Q σ 195 [some (kr 0), none] [ki r_19]
  obtain ⟨r_20, hg_25, h⟩ := kbind_h h
  refine kw_callS (As := [ki r_19]) C (kdec dc_M_goes 99 rfl) 198 rfl cs_M_139 (mt_mm_isDigit l0 hg_25) ⟨rfl, rfl⟩ ⟨Nat.le_of_ble_eq_true rfl, Nat.le_of_ble_eq_true rfl⟩ ⟨Nat.zero_le _, Nat.zero_le _⟩ rfl (Nat.le_of_ble_eq_true rfl) ?_
  change KW x 0 0 Q σ 198 [some (kr 0), none] [ki r_20]
  refine kw_if_eq C (kdec dc_M_goes 100 rfl) 250 201 (by decide) rfl (fun hc198 => ?_) (fun hc198 => ?_)
  · rw [if_pos hc198] at h
    obtain rfl := Option.some.inj h
    exact (hX250 _ rfl)
  · rw [if_neg hc198] at h
    refine kw_aload_n C (kdec dc_M_goes 101 rfl) rfl 202 rfl rfl ?_
    refine kw_getI C (kdec dc_M_goes 102 rfl) 205 rfl fd_M_M_112_0 ?_
    refine kw_aload_n C (kdec dc_M_goes 103 rfl) rfl 206 rfl rfl ?_
    refine kw_getI C (kdec dc_M_goes 104 rfl) 209 rfl fd_M_M_119_0 ?_
    refine kw_isub C (kdec dc_M_goes 105 rfl) 210 rfl ?_
    refine kw_iconst C (kdec dc_M_goes 106 rfl) 211 rfl rfl ⟨by decide, by decide⟩ ?_
    refine kw_icmp_ge C (kdec dc_M_goes 107 rfl) 237 214 (by decide) rfl (fun hc211 => ?_) (fun hc211 => ?_)
    · rw [if_pos hc211] at h
      exact bd_mm_goes_l187_j237 C σ h hC hX250
    · rw [if_neg hc211] at h
      refine kw_aload_n C (kdec dc_M_goes 108 rfl) rfl 215 rfl rfl ?_
      refine kw_bipush (v := 10) C (kdec dc_M_goes 109 rfl) 217 rfl (by decide) ⟨by decide, by decide⟩ ?_
      refine kw_aload_n C (kdec dc_M_goes 110 rfl) rfl 218 rfl rfl ?_
      refine kw_getI C (kdec dc_M_goes 111 rfl) 221 rfl fd_M_M_126_0 ?_
      refine kw_imul C (kdec dc_M_goes 112 rfl) 222 rfl ?_
      refine kw_aload_n C (kdec dc_M_goes 113 rfl) rfl 223 rfl rfl ?_
      refine kw_aload_n C (kdec dc_M_goes 114 rfl) rfl 224 rfl rfl ?_
      refine kw_getI C (kdec dc_M_goes 115 rfl) 227 rfl fd_M_M_112_0 ?_
      obtain ⟨r_22, hg_24, h⟩ := kbind_h h
      refine kw_callV (As := [ki (σ 0 14)]) C (kdec dc_M_goes 116 rfl) 230 rfl cv_M_115 rfl rfl (mt_mm_byteAt l0 hg_24) ⟨rfl, rfl⟩ ⟨Nat.le_of_ble_eq_true rfl, Nat.le_of_ble_eq_true rfl⟩ ⟨Nat.zero_le _, Nat.zero_le _⟩ rfl (Nat.le_of_ble_eq_true rfl) ?_
      change KW x 0 0 Q σ 230 [some (kr 0), none] [ki r_22, ki (w32 (10 * (σ 0 18))), kr 0]
      refine kw_iadd C (kdec dc_M_goes 117 rfl) 231 rfl ?_
      refine kw_bipush (v := 48) C (kdec dc_M_goes 118 rfl) 233 rfl (by decide) ⟨by decide, by decide⟩ ?_
      refine kw_isub C (kdec dc_M_goes 119 rfl) 234 rfl ?_
      obtain ⟨σ_23, eσ_23, h⟩ := klet_h h
      refine kw_putI C (kdec dc_M_goes 120 rfl) 237 rfl fp_M_M_126_0 ?_
      refine kw_sig eσ_23 ?_
      exact bd_mm_goes_l187_j237 C σ_23 h hC hX250
theorem lp_mm_goes_l187 {x : kX} {l0 : Launch} {Q : State → Prop} (C : kCx x prog_14_method_14_code "PoetFinesModel" none kcl yM 2 l0 R0_mm_goes) {ex : (kM)} (hX250 : ∀ (σ' : kM), ex = σ' → KW x 0 0 Q σ' 250 [some (kr 0), none] []) (n : Nat) (σ : kM) (h : kloop (fun st => mm_goes_l187 st) n σ = some ex) : KW x 0 0 Q σ 187 [some (kr 0), none] [] :=
  kloop_ind (P := (fun st : kM => KW x 0 0 Q st 187 [some (kr 0), none] [])) (fun st out hb hc hx => bd_mm_goes_l187 C st hb (fun a0 e => hc _ e) (fun a0 e => hX250 _ ((hx _ e).symm))) n σ h
def mm_goes_l108_j159 (σ : kM) : Option ((kM) ⊕ ((kM))) :=
  klet (kst σ 0 (kup (σ 0) 14 (w32 ((σ 0 14) + 1)))) fun σ_34 =>
  some (Sum.inl σ_34)
set_option maxHeartbeats 4000000 in
theorem bd_mm_goes_l108_j159 {x : kX} {l0 : Launch} {Q : State → Prop} (C : kCx x prog_14_method_14_code "PoetFinesModel" none kcl yM 2 l0 R0_mm_goes) (σ : kM) {out : (kM) ⊕ ((kM))} (h : mm_goes_l108_j159 σ = some out) (hC : ∀ (σ' : kM), out = Sum.inl σ' → KW x 0 0 Q σ' 108 [some (kr 0), none] []) (hX172 : ∀ (σ' : kM), out = Sum.inr σ' → KW x 0 0 Q σ' 172 [some (kr 0), none] []) : KW x 0 0 Q σ 159 [some (kr 0), none] [] := by
  unfold mm_goes_l108_j159 at h
  refine kw_aload_n C (kdec dc_M_goes 81 rfl) rfl 160 rfl rfl ?_
  refine kw_dup C (kdec dc_M_goes 82 rfl) 161 rfl rfl ?_
  refine kw_getI C (kdec dc_M_goes 83 rfl) 164 rfl fd_M_M_112_0 ?_
  refine kw_iconst C (kdec dc_M_goes 84 rfl) 165 rfl rfl ⟨by decide, by decide⟩ ?_
  refine kw_iadd C (kdec dc_M_goes 85 rfl) 166 rfl ?_
  obtain ⟨σ_34, eσ_34, h⟩ := klet_h h
  refine kw_putI C (kdec dc_M_goes 86 rfl) 169 rfl fp_M_M_112_0 ?_
  refine kw_sig eσ_34 ?_
  refine kw_goto C (kdec dc_M_goes 87 rfl) 108 (by decide) ?_
  obtain rfl := Option.some.inj h
  exact (hC _ rfl)
def mm_goes_l108 (σ : kM) : Option ((kM) ⊕ ((kM))) :=
  (mm_byteAt σ (σ 0 14)).bind fun r_32 =>
  (mm_isLetter σ r_32).bind fun r_33 =>
  if r_33 = 0 then
    some (Sum.inr σ)
  else
    if 6 ≤ (w32 ((σ 0 14) - (σ 0 16))) then
      mm_goes_l108_j159 σ
    else
      (mm_byteAt σ (σ 0 14)).bind fun r_35 =>
      klet (kst σ 0 (kup (σ 0) 20 (klor (klshl (σ 0 20) 5) (w32 (r_35 - 96))))) fun σ_36 =>
      mm_goes_l108_j159 σ_36
set_option maxHeartbeats 4000000 in
theorem bd_mm_goes_l108 {x : kX} {l0 : Launch} {Q : State → Prop} (C : kCx x prog_14_method_14_code "PoetFinesModel" none kcl yM 2 l0 R0_mm_goes) (σ : kM) {out : (kM) ⊕ ((kM))} (h : mm_goes_l108 σ = some out) (hC : ∀ (σ' : kM), out = Sum.inl σ' → KW x 0 0 Q σ' 108 [some (kr 0), none] []) (hX172 : ∀ (σ' : kM), out = Sum.inr σ' → KW x 0 0 Q σ' 172 [some (kr 0), none] []) : KW x 0 0 Q σ 108 [some (kr 0), none] [] := by
  unfold mm_goes_l108 at h
  refine kw_aload_n C (kdec dc_M_goes 54 rfl) rfl 109 rfl rfl ?_
  refine kw_aload_n C (kdec dc_M_goes 55 rfl) rfl 110 rfl rfl ?_
  refine kw_getI C (kdec dc_M_goes 56 rfl) 113 rfl fd_M_M_112_0 ?_
  obtain ⟨r_32, hg_39, h⟩ := kbind_h h
  refine kw_callV (As := [ki (σ 0 14)]) C (kdec dc_M_goes 57 rfl) 116 rfl cv_M_115 rfl rfl (mt_mm_byteAt l0 hg_39) ⟨rfl, rfl⟩ ⟨Nat.le_of_ble_eq_true rfl, Nat.le_of_ble_eq_true rfl⟩ ⟨Nat.zero_le _, Nat.zero_le _⟩ rfl (Nat.le_of_ble_eq_true rfl) ?_
  change KW x 0 0 Q σ 116 [some (kr 0), none] [ki r_32]
  obtain ⟨r_33, hg_38, h⟩ := kbind_h h
  refine kw_callS (As := [ki r_32]) C (kdec dc_M_goes 58 rfl) 119 rfl cs_M_135 (mt_mm_isLetter l0 hg_38) ⟨rfl, rfl⟩ ⟨Nat.le_of_ble_eq_true rfl, Nat.le_of_ble_eq_true rfl⟩ ⟨Nat.zero_le _, Nat.zero_le _⟩ rfl (Nat.le_of_ble_eq_true rfl) ?_
  change KW x 0 0 Q σ 119 [some (kr 0), none] [ki r_33]
  refine kw_if_eq C (kdec dc_M_goes 59 rfl) 172 122 (by decide) rfl (fun hc119 => ?_) (fun hc119 => ?_)
  · rw [if_pos hc119] at h
    obtain rfl := Option.some.inj h
    exact (hX172 _ rfl)
  · rw [if_neg hc119] at h
    refine kw_aload_n C (kdec dc_M_goes 60 rfl) rfl 123 rfl rfl ?_
    refine kw_getI C (kdec dc_M_goes 61 rfl) 126 rfl fd_M_M_112_0 ?_
    refine kw_aload_n C (kdec dc_M_goes 62 rfl) rfl 127 rfl rfl ?_
    refine kw_getI C (kdec dc_M_goes 63 rfl) 130 rfl fd_M_M_119_0 ?_
    refine kw_isub C (kdec dc_M_goes 64 rfl) 131 rfl ?_
    refine kw_bipush (v := 6) C (kdec dc_M_goes 65 rfl) 133 rfl (by decide) ⟨by decide, by decide⟩ ?_
    refine kw_icmp_ge C (kdec dc_M_goes 66 rfl) 159 136 (by decide) rfl (fun hc133 => ?_) (fun hc133 => ?_)
    · rw [if_pos hc133] at h
      exact bd_mm_goes_l108_j159 C σ h hC hX172
    · rw [if_neg hc133] at h
      refine kw_aload_n C (kdec dc_M_goes 67 rfl) rfl 137 rfl rfl ?_
      refine kw_aload_n C (kdec dc_M_goes 68 rfl) rfl 138 rfl rfl ?_
      refine kw_getL C (kdec dc_M_goes 69 rfl) 141 rfl fd_M_M_122_0 ?_
      refine kw_iconst C (kdec dc_M_goes 70 rfl) 142 rfl rfl ⟨by decide, by decide⟩ ?_
      refine kw_lshl C (kdec dc_M_goes 71 rfl) 143 rfl ?_
      refine kw_aload_n C (kdec dc_M_goes 72 rfl) rfl 144 rfl rfl ?_
      refine kw_aload_n C (kdec dc_M_goes 73 rfl) rfl 145 rfl rfl ?_
      refine kw_getI C (kdec dc_M_goes 74 rfl) 148 rfl fd_M_M_112_0 ?_
      obtain ⟨r_35, hg_37, h⟩ := kbind_h h
      refine kw_callV (As := [ki (σ 0 14)]) C (kdec dc_M_goes 75 rfl) 151 rfl cv_M_115 rfl rfl (mt_mm_byteAt l0 hg_37) ⟨rfl, rfl⟩ ⟨Nat.le_of_ble_eq_true rfl, Nat.le_of_ble_eq_true rfl⟩ ⟨Nat.zero_le _, Nat.zero_le _⟩ rfl (Nat.le_of_ble_eq_true rfl) ?_
      change KW x 0 0 Q σ 151 [some (kr 0), none] [ki r_35, kl (klshl (σ 0 20) 5), kr 0]
      refine kw_bipush (v := 96) C (kdec dc_M_goes 76 rfl) 153 rfl (by decide) ⟨by decide, by decide⟩ ?_
      refine kw_isub C (kdec dc_M_goes 77 rfl) 154 rfl ?_
      refine kw_i2l C (kdec dc_M_goes 78 rfl) 155 rfl ?_
      refine kw_lor C (kdec dc_M_goes 79 rfl) 156 rfl ?_
      obtain ⟨σ_36, eσ_36, h⟩ := klet_h h
      refine kw_putL C (kdec dc_M_goes 80 rfl) 159 rfl fp_M_M_122_0 ?_
      refine kw_sig eσ_36 ?_
      exact bd_mm_goes_l108_j159 C σ_36 h hC hX172
theorem lp_mm_goes_l108 {x : kX} {l0 : Launch} {Q : State → Prop} (C : kCx x prog_14_method_14_code "PoetFinesModel" none kcl yM 2 l0 R0_mm_goes) {ex : (kM)} (hX172 : ∀ (σ' : kM), ex = σ' → KW x 0 0 Q σ' 172 [some (kr 0), none] []) (n : Nat) (σ : kM) (h : kloop (fun st => mm_goes_l108 st) n σ = some ex) : KW x 0 0 Q σ 108 [some (kr 0), none] [] :=
  kloop_ind (P := (fun st : kM => KW x 0 0 Q st 108 [some (kr 0), none] [])) (fun st out hb hc hx => bd_mm_goes_l108 C st hb (fun a0 e => hc _ e) (fun a0 e => hX172 _ ((hx _ e).symm))) n σ h
def mm_goes (σ : kM) : Option (kM) :=
  (kloop (fun st => mm_goes_l0 st) kFuel σ).bind fun σ_8 =>
  klet (kst σ_8 0 (kup (σ_8 0) 16 (σ_8 0 14))) fun σ_9 =>
  klet (kst σ_9 0 (kup (σ_9 0) 20 0)) fun σ_10 =>
  klet (kst σ_10 0 (kup (σ_10 0) 18 0)) fun σ_11 =>
  (mm_byteAt σ_11 (σ_11 0 14)).bind fun r_12 =>
  klet (kst σ_11 0 (kup (σ_11 0) 19 r_12)) fun σ_13 =>
  if (σ_13 0 14) < (σ_13 0 13) then
    (mm_isLetter σ_13 r_12).bind fun r_14 =>
    if r_14 = 0 then
      (mm_isDigit σ_13 r_12).bind fun r_15 =>
      if r_15 = 0 then
        klet (kst σ_13 0 (kup (σ_13 0) 14 (w32 ((σ_13 0 14) + 1)))) fun σ_16 =>
        if r_12 = 59 then
          mm_goes_j323 σ_16
        else
          if r_12 = 40 then
            mm_goes_j323 σ_16
          else
            if r_12 = 41 then
              mm_goes_j323 σ_16
            else
              if r_12 = 43 then
                mm_goes_j323 σ_16
              else
                if r_12 = 45 then
                  mm_goes_j323 σ_16
                else
                  if r_12 = 42 then
                    mm_goes_j323 σ_16
                  else
                    if r_12 = 47 then
                      mm_goes_j323 σ_16
                    else
                      if r_12 = 60 then
                        mm_goes_j323 σ_16
                      else
                        if r_12 = 61 then
                          mm_goes_j323 σ_16
                        else
                          mm_goes_j328 σ_16 4
      else
        (kloop (fun st => mm_goes_l187 st) kFuel σ_13).bind fun σ_29 =>
        klet (kst σ_29 0 (kup (σ_29 0) 15 2)) fun σ_30 =>
        mm_goes_j331 σ_30
    else
      (kloop (fun st => mm_goes_l108 st) kFuel σ_13).bind fun σ_42 =>
      klet (kst σ_42 0 (kup (σ_42 0) 15 1)) fun σ_43 =>
      mm_goes_j331 σ_43
  else
    klet (kst σ_13 0 (kup (σ_13 0) 15 0)) fun σ_45 =>
    mm_goes_j331 σ_45
set_option maxHeartbeats 4000000 in
theorem bd_mm_goes {x : kX} {l0 : Launch} {Q : State → Prop} (C : kCx x prog_14_method_14_code "PoetFinesModel" none kcl yM 2 l0 R0_mm_goes) (σ : kM) {out : kM} (h : mm_goes σ = some out) (hR : ∀ (τ : kM), out = τ → Q = kQ x none τ 0 0) : KW x 0 0 Q σ 0 [some (kr 0), none] [] := by
  unfold mm_goes at h
  obtain ⟨ex_6, hl_7, h⟩ := kbind_h h
  refine lp_mm_goes_l0 C ?_ kFuel σ hl_7
  · intro σ_8 e
    subst ex_6
    try dsimp only at h
    refine kw_aload_n C (kdec dc_M_goes 24 rfl) rfl 51 rfl rfl ?_
    refine kw_aload_n C (kdec dc_M_goes 25 rfl) rfl 52 rfl rfl ?_
    refine kw_getI C (kdec dc_M_goes 26 rfl) 55 rfl fd_M_M_112_0 ?_
    obtain ⟨σ_9, eσ_9, h⟩ := klet_h h
    refine kw_putI C (kdec dc_M_goes 27 rfl) 58 rfl fp_M_M_119_0 ?_
    refine kw_sig eσ_9 ?_
    refine kw_aload_n C (kdec dc_M_goes 28 rfl) rfl 59 rfl rfl ?_
    refine kw_lconst (v := 0) C (kdec dc_M_goes 29 rfl) 60 rfl rfl ⟨by decide, by decide⟩ ?_
    obtain ⟨σ_10, eσ_10, h⟩ := klet_h h
    refine kw_putL C (kdec dc_M_goes 30 rfl) 63 rfl fp_M_M_122_0 ?_
    refine kw_sig eσ_10 ?_
    refine kw_aload_n C (kdec dc_M_goes 31 rfl) rfl 64 rfl rfl ?_
    refine kw_iconst C (kdec dc_M_goes 32 rfl) 65 rfl rfl ⟨by decide, by decide⟩ ?_
    obtain ⟨σ_11, eσ_11, h⟩ := klet_h h
    refine kw_putI C (kdec dc_M_goes 33 rfl) 68 rfl fp_M_M_126_0 ?_
    refine kw_sig eσ_11 ?_
    refine kw_aload_n C (kdec dc_M_goes 34 rfl) rfl 69 rfl rfl ?_
    refine kw_aload_n C (kdec dc_M_goes 35 rfl) rfl 70 rfl rfl ?_
    refine kw_getI C (kdec dc_M_goes 36 rfl) 73 rfl fd_M_M_112_0 ?_
    obtain ⟨r_12, hg_46, h⟩ := kbind_h h
    refine kw_callV (As := [ki (σ_11 0 14)]) C (kdec dc_M_goes 37 rfl) 76 rfl cv_M_115 rfl rfl (mt_mm_byteAt l0 hg_46) ⟨rfl, rfl⟩ ⟨Nat.le_of_ble_eq_true rfl, Nat.le_of_ble_eq_true rfl⟩ ⟨Nat.zero_le _, Nat.zero_le _⟩ rfl (Nat.le_of_ble_eq_true rfl) ?_
    change KW x 0 0 Q σ_11 76 [some (kr 0), none] [ki r_12]
    refine kw_istore_n (L' := [some (kr 0), some (ki r_12)]) C (kdec dc_M_goes 38 rfl) rfl 77 rfl (by decide) rfl rfl ?_
    refine kw_aload_n C (kdec dc_M_goes 39 rfl) rfl 78 rfl rfl ?_
    refine kw_iload_n C (kdec dc_M_goes 40 rfl) rfl 79 rfl rfl ?_
    obtain ⟨σ_13, eσ_13, h⟩ := klet_h h
    refine kw_putI C (kdec dc_M_goes 41 rfl) 82 rfl fp_M_M_129_0 ?_
    refine kw_sig eσ_13 ?_
    refine kw_aload_n C (kdec dc_M_goes 42 rfl) rfl 83 rfl rfl ?_
    refine kw_getI C (kdec dc_M_goes 43 rfl) 86 rfl fd_M_M_112_0 ?_
    refine kw_aload_n C (kdec dc_M_goes 44 rfl) rfl 87 rfl rfl ?_
    refine kw_getI C (kdec dc_M_goes 45 rfl) 90 rfl fd_M_M_109_0 ?_
    refine kw_icmp_lt C (kdec dc_M_goes 46 rfl) 101 93 (by decide) rfl (fun hc90 => ?_) (fun hc90 => ?_)
    · rw [if_pos hc90] at h
      refine kw_iload_n C (kdec dc_M_goes 51 rfl) rfl 102 rfl rfl ?_
      obtain ⟨r_14, hg_44, h⟩ := kbind_h h
      refine kw_callS (As := [ki r_12]) C (kdec dc_M_goes 52 rfl) 105 rfl cs_M_135 (mt_mm_isLetter l0 hg_44) ⟨rfl, rfl⟩ ⟨Nat.le_of_ble_eq_true rfl, Nat.le_of_ble_eq_true rfl⟩ ⟨Nat.zero_le _, Nat.zero_le _⟩ rfl (Nat.le_of_ble_eq_true rfl) ?_
      change KW x 0 0 Q σ_13 105 [some (kr 0), some (ki r_12)] [ki r_14]
      refine kw_if_eq C (kdec dc_M_goes 53 rfl) 180 108 (by decide) rfl (fun hc105 => ?_) (fun hc105 => ?_)
      · rw [if_pos hc105] at h
        refine kw_iload_n C (kdec dc_M_goes 92 rfl) rfl 181 rfl rfl ?_
        obtain ⟨r_15, hg_31, h⟩ := kbind_h h
        refine kw_callS (As := [ki r_12]) C (kdec dc_M_goes 93 rfl) 184 rfl cs_M_139 (mt_mm_isDigit l0 hg_31) ⟨rfl, rfl⟩ ⟨Nat.le_of_ble_eq_true rfl, Nat.le_of_ble_eq_true rfl⟩ ⟨Nat.zero_le _, Nat.zero_le _⟩ rfl (Nat.le_of_ble_eq_true rfl) ?_
        change KW x 0 0 Q σ_13 184 [some (kr 0), some (ki r_12)] [ki r_15]
        refine kw_if_eq C (kdec dc_M_goes 94 rfl) 258 187 (by decide) rfl (fun hc184 => ?_) (fun hc184 => ?_)
        · rw [if_pos hc184] at h
          refine kw_aload_n C (kdec dc_M_goes 132 rfl) rfl 259 rfl rfl ?_
          refine kw_dup C (kdec dc_M_goes 133 rfl) 260 rfl rfl ?_
          refine kw_getI C (kdec dc_M_goes 134 rfl) 263 rfl fd_M_M_112_0 ?_
          refine kw_iconst C (kdec dc_M_goes 135 rfl) 264 rfl rfl ⟨by decide, by decide⟩ ?_
          refine kw_iadd C (kdec dc_M_goes 136 rfl) 265 rfl ?_
          obtain ⟨σ_16, eσ_16, h⟩ := klet_h h
          refine kw_putI C (kdec dc_M_goes 137 rfl) 268 rfl fp_M_M_112_0 ?_
          refine kw_sig eσ_16 ?_
          refine kw_aload_n C (kdec dc_M_goes 138 rfl) rfl 269 rfl rfl ?_
          refine kw_iload_n C (kdec dc_M_goes 139 rfl) rfl 270 rfl rfl ?_
          refine kw_bipush (v := 59) C (kdec dc_M_goes 140 rfl) 272 rfl (by decide) ⟨by decide, by decide⟩ ?_
          refine kw_icmp_eq C (kdec dc_M_goes 141 rfl) 323 275 (by decide) rfl (fun hc272 => ?_) (fun hc272 => ?_)
          · rw [if_pos hc272] at h
            exact kw_sub (L' := [some (kr 0), none]) ⟨rfl, trivial⟩ (bd_mm_goes_j323 C σ_16 h hR)
          · rw [if_neg hc272] at h
            refine kw_iload_n C (kdec dc_M_goes 142 rfl) rfl 276 rfl rfl ?_
            refine kw_bipush (v := 40) C (kdec dc_M_goes 143 rfl) 278 rfl (by decide) ⟨by decide, by decide⟩ ?_
            refine kw_icmp_eq C (kdec dc_M_goes 144 rfl) 323 281 (by decide) rfl (fun hc278 => ?_) (fun hc278 => ?_)
            · rw [if_pos hc278] at h
              exact kw_sub (L' := [some (kr 0), none]) ⟨rfl, trivial⟩ (bd_mm_goes_j323 C σ_16 h hR)
            · rw [if_neg hc278] at h
              refine kw_iload_n C (kdec dc_M_goes 145 rfl) rfl 282 rfl rfl ?_
              refine kw_bipush (v := 41) C (kdec dc_M_goes 146 rfl) 284 rfl (by decide) ⟨by decide, by decide⟩ ?_
              refine kw_icmp_eq C (kdec dc_M_goes 147 rfl) 323 287 (by decide) rfl (fun hc284 => ?_) (fun hc284 => ?_)
              · rw [if_pos hc284] at h
                exact kw_sub (L' := [some (kr 0), none]) ⟨rfl, trivial⟩ (bd_mm_goes_j323 C σ_16 h hR)
              · rw [if_neg hc284] at h
                refine kw_iload_n C (kdec dc_M_goes 148 rfl) rfl 288 rfl rfl ?_
                refine kw_bipush (v := 43) C (kdec dc_M_goes 149 rfl) 290 rfl (by decide) ⟨by decide, by decide⟩ ?_
                refine kw_icmp_eq C (kdec dc_M_goes 150 rfl) 323 293 (by decide) rfl (fun hc290 => ?_) (fun hc290 => ?_)
                · rw [if_pos hc290] at h
                  exact kw_sub (L' := [some (kr 0), none]) ⟨rfl, trivial⟩ (bd_mm_goes_j323 C σ_16 h hR)
                · rw [if_neg hc290] at h
                  refine kw_iload_n C (kdec dc_M_goes 151 rfl) rfl 294 rfl rfl ?_
                  refine kw_bipush (v := 45) C (kdec dc_M_goes 152 rfl) 296 rfl (by decide) ⟨by decide, by decide⟩ ?_
                  refine kw_icmp_eq C (kdec dc_M_goes 153 rfl) 323 299 (by decide) rfl (fun hc296 => ?_) (fun hc296 => ?_)
                  · rw [if_pos hc296] at h
                    exact kw_sub (L' := [some (kr 0), none]) ⟨rfl, trivial⟩ (bd_mm_goes_j323 C σ_16 h hR)
                  · rw [if_neg hc296] at h
                    refine kw_iload_n C (kdec dc_M_goes 154 rfl) rfl 300 rfl rfl ?_
                    refine kw_bipush (v := 42) C (kdec dc_M_goes 155 rfl) 302 rfl (by decide) ⟨by decide, by decide⟩ ?_
                    refine kw_icmp_eq C (kdec dc_M_goes 156 rfl) 323 305 (by decide) rfl (fun hc302 => ?_) (fun hc302 => ?_)
                    · rw [if_pos hc302] at h
                      exact kw_sub (L' := [some (kr 0), none]) ⟨rfl, trivial⟩ (bd_mm_goes_j323 C σ_16 h hR)
                    · rw [if_neg hc302] at h
                      refine kw_iload_n C (kdec dc_M_goes 157 rfl) rfl 306 rfl rfl ?_
                      refine kw_bipush (v := 47) C (kdec dc_M_goes 158 rfl) 308 rfl (by decide) ⟨by decide, by decide⟩ ?_
                      refine kw_icmp_eq C (kdec dc_M_goes 159 rfl) 323 311 (by decide) rfl (fun hc308 => ?_) (fun hc308 => ?_)
                      · rw [if_pos hc308] at h
                        exact kw_sub (L' := [some (kr 0), none]) ⟨rfl, trivial⟩ (bd_mm_goes_j323 C σ_16 h hR)
                      · rw [if_neg hc308] at h
                        refine kw_iload_n C (kdec dc_M_goes 160 rfl) rfl 312 rfl rfl ?_
                        refine kw_bipush (v := 60) C (kdec dc_M_goes 161 rfl) 314 rfl (by decide) ⟨by decide, by decide⟩ ?_
                        refine kw_icmp_eq C (kdec dc_M_goes 162 rfl) 323 317 (by decide) rfl (fun hc314 => ?_) (fun hc314 => ?_)
                        · rw [if_pos hc314] at h
                          exact kw_sub (L' := [some (kr 0), none]) ⟨rfl, trivial⟩ (bd_mm_goes_j323 C σ_16 h hR)
                        · rw [if_neg hc314] at h
                          refine kw_iload_n C (kdec dc_M_goes 163 rfl) rfl 318 rfl rfl ?_
                          refine kw_bipush (v := 61) C (kdec dc_M_goes 164 rfl) 320 rfl (by decide) ⟨by decide, by decide⟩ ?_
                          refine kw_icmp_ne C (kdec dc_M_goes 165 rfl) 327 323 (by decide) rfl (fun hc320 => ?_) (fun hc320 => ?_)
                          · rw [if_neg hc320] at h
                            refine kw_iconst C (kdec dc_M_goes 168 rfl) 328 rfl rfl ⟨by decide, by decide⟩ ?_
                            exact kw_sub (L' := [some (kr 0), none]) ⟨rfl, trivial⟩ (bd_mm_goes_j328 C σ_16 4 h hR)
                          · rw [if_pos hc320] at h
                            exact kw_sub (L' := [some (kr 0), none]) ⟨rfl, trivial⟩ (bd_mm_goes_j323 C σ_16 h hR)
        · rw [if_neg hc184] at h
          obtain ⟨ex_27, hl_28, h⟩ := kbind_h h
          refine kw_sub (L' := [some (kr 0), none]) ⟨rfl, trivial⟩ (lp_mm_goes_l187 C ?_ kFuel σ_13 hl_28)
          · intro σ_29 e
            subst ex_27
            try dsimp only at h
            refine kw_aload_n C (kdec dc_M_goes 128 rfl) rfl 251 rfl rfl ?_
            refine kw_iconst C (kdec dc_M_goes 129 rfl) 252 rfl rfl ⟨by decide, by decide⟩ ?_
            obtain ⟨σ_30, eσ_30, h⟩ := klet_h h
            refine kw_putI C (kdec dc_M_goes 130 rfl) 255 rfl fp_M_M_132_0 ?_
            refine kw_sig eσ_30 ?_
            refine kw_goto C (kdec dc_M_goes 131 rfl) 331 (by decide) ?_
            exact bd_mm_goes_j331 C σ_30 h hR
      · rw [if_neg hc105] at h
        obtain ⟨ex_40, hl_41, h⟩ := kbind_h h
        refine kw_sub (L' := [some (kr 0), none]) ⟨rfl, trivial⟩ (lp_mm_goes_l108 C ?_ kFuel σ_13 hl_41)
        · intro σ_42 e
          subst ex_40
          try dsimp only at h
          refine kw_aload_n C (kdec dc_M_goes 88 rfl) rfl 173 rfl rfl ?_
          refine kw_iconst C (kdec dc_M_goes 89 rfl) 174 rfl rfl ⟨by decide, by decide⟩ ?_
          obtain ⟨σ_43, eσ_43, h⟩ := klet_h h
          refine kw_putI C (kdec dc_M_goes 90 rfl) 177 rfl fp_M_M_132_0 ?_
          refine kw_sig eσ_43 ?_
          refine kw_goto C (kdec dc_M_goes 91 rfl) 331 (by decide) ?_
          exact bd_mm_goes_j331 C σ_43 h hR
    · rw [if_neg hc90] at h
      refine kw_aload_n C (kdec dc_M_goes 47 rfl) rfl 94 rfl rfl ?_
      refine kw_iconst C (kdec dc_M_goes 48 rfl) 95 rfl rfl ⟨by decide, by decide⟩ ?_
      obtain ⟨σ_45, eσ_45, h⟩ := klet_h h
      refine kw_putI C (kdec dc_M_goes 49 rfl) 98 rfl fp_M_M_132_0 ?_
      refine kw_sig eσ_45 ?_
      refine kw_goto C (kdec dc_M_goes 50 rfl) 331 (by decide) ?_
      exact kw_sub (L' := [some (kr 0), none]) ⟨rfl, trivial⟩ (bd_mm_goes_j331 C σ_45 h hR)
theorem mt_mm_goes (l0 : Launch) {σ : kM} {τ : kM} (h : mm_goes σ = some τ) : kMet l0 ky_M_goes prog_14_method_14_code 2 none R0_mm_goes kcl yM σ [kr 0] none τ := kMet.of' [some (kr 0), none] (by decide) (Nat.le_of_ble_eq_true rfl) ⟨rfl, trivial⟩ (fun x C => bd_mm_goes C σ h (fun τ e => by subst e; rfl))
def R0_mm_spelled : Room := ({ frames := 0, cells := 0, slots := 0, locals := 0 } : Room)
def mm_spelled_j84 (σ : kM) (x6 : Int) : Option (Int) :=
  some x6
set_option maxHeartbeats 4000000 in
theorem bd_mm_spelled_j84 {x : kX} {l0 : Launch} {Q : State → Prop} (C : kCx x prog_14_method_15_code "PoetFinesModel" (some .long) kcl yM 8 l0 R0_mm_spelled) (σ : kM) (x6 : Int) {out : Int} (h : mm_spelled_j84 σ x6 = some out) (hR : ∀ (r : Int), out = r → Q = kQ x (some (kl r)) σ 0 0) : KW x 0 0 Q σ 84 [none, none, none, none, none, none, some (kl x6), none] [] := by
  unfold mm_spelled_j84 at h
  refine kw_lload C (kdec dc_M_spelled 56 rfl) 86 rfl rfl ?_
  obtain rfl := Option.some.inj h
  exact kw_Q (hR _ rfl) (kw_lreturn C (kdec dc_M_spelled 57 rfl))
def mm_spelled_j66 (σ : kM) (x5 : Int) (x6 : Int) : Option (Int) :=
  if x5 = 0 then
    mm_spelled_j84 σ x6
  else
    klet (klor (klshl x6 5) (w32 (x5 - 96))) fun x6_2 =>
    mm_spelled_j84 σ x6_2
set_option maxHeartbeats 4000000 in
theorem bd_mm_spelled_j66 {x : kX} {l0 : Launch} {Q : State → Prop} (C : kCx x prog_14_method_15_code "PoetFinesModel" (some .long) kcl yM 8 l0 R0_mm_spelled) (σ : kM) (x5 : Int) (x6 : Int) {out : Int} (h : mm_spelled_j66 σ x5 x6 = some out) (hR : ∀ (r : Int), out = r → Q = kQ x (some (kl r)) σ 0 0) : KW x 0 0 Q σ 66 [none, none, none, none, none, some (ki x5), some (kl x6), none] [] := by
  unfold mm_spelled_j66 at h
  refine kw_iload C (kdec dc_M_spelled 45 rfl) 68 rfl rfl ?_
  refine kw_if_eq C (kdec dc_M_spelled 46 rfl) 84 71 (by decide) rfl (fun hc68 => ?_) (fun hc68 => ?_)
  · rw [if_pos hc68] at h
    exact kw_sub (L' := [none, none, none, none, none, none, some (kl x6), none]) ⟨rfl, trivial⟩ (bd_mm_spelled_j84 C σ x6 h hR)
  · rw [if_neg hc68] at h
    refine kw_lload C (kdec dc_M_spelled 47 rfl) 73 rfl rfl ?_
    refine kw_iconst C (kdec dc_M_spelled 48 rfl) 74 rfl rfl ⟨by decide, by decide⟩ ?_
    refine kw_lshl C (kdec dc_M_spelled 49 rfl) 75 rfl ?_
    refine kw_iload C (kdec dc_M_spelled 50 rfl) 77 rfl rfl ?_
    refine kw_bipush (v := 96) C (kdec dc_M_spelled 51 rfl) 79 rfl (by decide) ⟨by decide, by decide⟩ ?_
    refine kw_isub C (kdec dc_M_spelled 52 rfl) 80 rfl ?_
    refine kw_i2l C (kdec dc_M_spelled 53 rfl) 81 rfl ?_
    refine kw_lor C (kdec dc_M_spelled 54 rfl) 82 rfl ?_
    obtain ⟨x6_2, ex6_2, h⟩ := klet_h h
    refine kw_topl ex6_2 ?_
    refine kw_lstore (L' := [none, none, none, none, none, some (ki x5), some (kl x6_2), none]) C (kdec dc_M_spelled 55 rfl) 84 rfl (by decide) rfl rfl ?_
    exact kw_sub (L' := [none, none, none, none, none, none, some (kl x6_2), none]) ⟨rfl, trivial⟩ (bd_mm_spelled_j84 C σ x6_2 h hR)
def mm_spelled_j48 (σ : kM) (x4 : Int) (x5 : Int) (x6 : Int) : Option (Int) :=
  if x4 = 0 then
    mm_spelled_j66 σ x5 x6
  else
    klet (klor (klshl x6 5) (w32 (x4 - 96))) fun x6_3 =>
    mm_spelled_j66 σ x5 x6_3
set_option maxHeartbeats 4000000 in
theorem bd_mm_spelled_j48 {x : kX} {l0 : Launch} {Q : State → Prop} (C : kCx x prog_14_method_15_code "PoetFinesModel" (some .long) kcl yM 8 l0 R0_mm_spelled) (σ : kM) (x4 : Int) (x5 : Int) (x6 : Int) {out : Int} (h : mm_spelled_j48 σ x4 x5 x6 = some out) (hR : ∀ (r : Int), out = r → Q = kQ x (some (kl r)) σ 0 0) : KW x 0 0 Q σ 48 [none, none, none, none, some (ki x4), some (ki x5), some (kl x6), none] [] := by
  unfold mm_spelled_j48 at h
  refine kw_iload C (kdec dc_M_spelled 34 rfl) 50 rfl rfl ?_
  refine kw_if_eq C (kdec dc_M_spelled 35 rfl) 66 53 (by decide) rfl (fun hc50 => ?_) (fun hc50 => ?_)
  · rw [if_pos hc50] at h
    exact kw_sub (L' := [none, none, none, none, none, some (ki x5), some (kl x6), none]) ⟨rfl, rfl, trivial⟩ (bd_mm_spelled_j66 C σ x5 x6 h hR)
  · rw [if_neg hc50] at h
    refine kw_lload C (kdec dc_M_spelled 36 rfl) 55 rfl rfl ?_
    refine kw_iconst C (kdec dc_M_spelled 37 rfl) 56 rfl rfl ⟨by decide, by decide⟩ ?_
    refine kw_lshl C (kdec dc_M_spelled 38 rfl) 57 rfl ?_
    refine kw_iload C (kdec dc_M_spelled 39 rfl) 59 rfl rfl ?_
    refine kw_bipush (v := 96) C (kdec dc_M_spelled 40 rfl) 61 rfl (by decide) ⟨by decide, by decide⟩ ?_
    refine kw_isub C (kdec dc_M_spelled 41 rfl) 62 rfl ?_
    refine kw_i2l C (kdec dc_M_spelled 42 rfl) 63 rfl ?_
    refine kw_lor C (kdec dc_M_spelled 43 rfl) 64 rfl ?_
    obtain ⟨x6_3, ex6_3, h⟩ := klet_h h
    refine kw_topl ex6_3 ?_
    refine kw_lstore (L' := [none, none, none, none, some (ki x4), some (ki x5), some (kl x6_3), none]) C (kdec dc_M_spelled 44 rfl) 66 rfl (by decide) rfl rfl ?_
    exact kw_sub (L' := [none, none, none, none, none, some (ki x5), some (kl x6_3), none]) ⟨rfl, rfl, trivial⟩ (bd_mm_spelled_j66 C σ x5 x6_3 h hR)
def mm_spelled_j32 (σ : kM) (x3 : Int) (x4 : Int) (x5 : Int) (x6 : Int) : Option (Int) :=
  if x3 = 0 then
    mm_spelled_j48 σ x4 x5 x6
  else
    klet (klor (klshl x6 5) (w32 (x3 - 96))) fun x6_4 =>
    mm_spelled_j48 σ x4 x5 x6_4
set_option maxHeartbeats 4000000 in
theorem bd_mm_spelled_j32 {x : kX} {l0 : Launch} {Q : State → Prop} (C : kCx x prog_14_method_15_code "PoetFinesModel" (some .long) kcl yM 8 l0 R0_mm_spelled) (σ : kM) (x3 : Int) (x4 : Int) (x5 : Int) (x6 : Int) {out : Int} (h : mm_spelled_j32 σ x3 x4 x5 x6 = some out) (hR : ∀ (r : Int), out = r → Q = kQ x (some (kl r)) σ 0 0) : KW x 0 0 Q σ 32 [none, none, none, some (ki x3), some (ki x4), some (ki x5), some (kl x6), none] [] := by
  unfold mm_spelled_j32 at h
  refine kw_iload_n C (kdec dc_M_spelled 23 rfl) rfl 33 rfl rfl ?_
  refine kw_if_eq C (kdec dc_M_spelled 24 rfl) 48 36 (by decide) rfl (fun hc33 => ?_) (fun hc33 => ?_)
  · rw [if_pos hc33] at h
    exact kw_sub (L' := [none, none, none, none, some (ki x4), some (ki x5), some (kl x6), none]) ⟨rfl, rfl, rfl, trivial⟩ (bd_mm_spelled_j48 C σ x4 x5 x6 h hR)
  · rw [if_neg hc33] at h
    refine kw_lload C (kdec dc_M_spelled 25 rfl) 38 rfl rfl ?_
    refine kw_iconst C (kdec dc_M_spelled 26 rfl) 39 rfl rfl ⟨by decide, by decide⟩ ?_
    refine kw_lshl C (kdec dc_M_spelled 27 rfl) 40 rfl ?_
    refine kw_iload_n C (kdec dc_M_spelled 28 rfl) rfl 41 rfl rfl ?_
    refine kw_bipush (v := 96) C (kdec dc_M_spelled 29 rfl) 43 rfl (by decide) ⟨by decide, by decide⟩ ?_
    refine kw_isub C (kdec dc_M_spelled 30 rfl) 44 rfl ?_
    refine kw_i2l C (kdec dc_M_spelled 31 rfl) 45 rfl ?_
    refine kw_lor C (kdec dc_M_spelled 32 rfl) 46 rfl ?_
    obtain ⟨x6_4, ex6_4, h⟩ := klet_h h
    refine kw_topl ex6_4 ?_
    refine kw_lstore (L' := [none, none, none, some (ki x3), some (ki x4), some (ki x5), some (kl x6_4), none]) C (kdec dc_M_spelled 33 rfl) 48 rfl (by decide) rfl rfl ?_
    exact kw_sub (L' := [none, none, none, none, some (ki x4), some (ki x5), some (kl x6_4), none]) ⟨rfl, rfl, rfl, trivial⟩ (bd_mm_spelled_j48 C σ x4 x5 x6_4 h hR)
def mm_spelled (σ : kM) (x0 : Int) (x1 : Int) (x2 : Int) (x3 : Int) (x4 : Int) (x5 : Int) : Option (Int) :=
  klet (klor (klshl (klsub x0 96) 5) (w32 (x1 - 96))) fun x6_1 =>
  if x2 = 0 then
    mm_spelled_j32 σ x3 x4 x5 x6_1
  else
    klet (klor (klshl x6_1 5) (w32 (x2 - 96))) fun x6_5 =>
    mm_spelled_j32 σ x3 x4 x5 x6_5
set_option maxHeartbeats 4000000 in
theorem bd_mm_spelled {x : kX} {l0 : Launch} {Q : State → Prop} (C : kCx x prog_14_method_15_code "PoetFinesModel" (some .long) kcl yM 8 l0 R0_mm_spelled) (σ : kM) (x0 : Int) (x1 : Int) (x2 : Int) (x3 : Int) (x4 : Int) (x5 : Int) {out : Int} (h : mm_spelled σ x0 x1 x2 x3 x4 x5 = some out) (hR : ∀ (r : Int), out = r → Q = kQ x (some (kl r)) σ 0 0) : KW x 0 0 Q σ 0 [some (ki x0), some (ki x1), some (ki x2), some (ki x3), some (ki x4), some (ki x5), none, none] [] := by
  unfold mm_spelled at h
  refine kw_iload_n C (kdec dc_M_spelled 0 rfl) rfl 1 rfl rfl ?_
  refine kw_i2l C (kdec dc_M_spelled 1 rfl) 2 rfl ?_
  refine kw_ldc2 (v := 96) C (kdec dc_M_spelled 2 rfl) 5 rfl wd_1798 ⟨by decide, by decide⟩ ?_
  refine kw_lsub C (kdec dc_M_spelled 3 rfl) 6 rfl ?_
  refine kw_iconst C (kdec dc_M_spelled 4 rfl) 7 rfl rfl ⟨by decide, by decide⟩ ?_
  refine kw_lshl C (kdec dc_M_spelled 5 rfl) 8 rfl ?_
  refine kw_iload_n C (kdec dc_M_spelled 6 rfl) rfl 9 rfl rfl ?_
  refine kw_bipush (v := 96) C (kdec dc_M_spelled 7 rfl) 11 rfl (by decide) ⟨by decide, by decide⟩ ?_
  refine kw_isub C (kdec dc_M_spelled 8 rfl) 12 rfl ?_
  refine kw_i2l C (kdec dc_M_spelled 9 rfl) 13 rfl ?_
  refine kw_lor C (kdec dc_M_spelled 10 rfl) 14 rfl ?_
  obtain ⟨x6_1, ex6_1, h⟩ := klet_h h
  refine kw_topl ex6_1 ?_
  refine kw_lstore (L' := [some (ki x0), some (ki x1), some (ki x2), some (ki x3), some (ki x4), some (ki x5), some (kl x6_1), none]) C (kdec dc_M_spelled 11 rfl) 16 rfl (by decide) rfl rfl ?_
  refine kw_iload_n C (kdec dc_M_spelled 12 rfl) rfl 17 rfl rfl ?_
  refine kw_if_eq C (kdec dc_M_spelled 13 rfl) 32 20 (by decide) rfl (fun hc17 => ?_) (fun hc17 => ?_)
  · rw [if_pos hc17] at h
    exact kw_sub (L' := [none, none, none, some (ki x3), some (ki x4), some (ki x5), some (kl x6_1), none]) ⟨rfl, rfl, rfl, rfl, trivial⟩ (bd_mm_spelled_j32 C σ x3 x4 x5 x6_1 h hR)
  · rw [if_neg hc17] at h
    refine kw_lload C (kdec dc_M_spelled 14 rfl) 22 rfl rfl ?_
    refine kw_iconst C (kdec dc_M_spelled 15 rfl) 23 rfl rfl ⟨by decide, by decide⟩ ?_
    refine kw_lshl C (kdec dc_M_spelled 16 rfl) 24 rfl ?_
    refine kw_iload_n C (kdec dc_M_spelled 17 rfl) rfl 25 rfl rfl ?_
    refine kw_bipush (v := 96) C (kdec dc_M_spelled 18 rfl) 27 rfl (by decide) ⟨by decide, by decide⟩ ?_
    refine kw_isub C (kdec dc_M_spelled 19 rfl) 28 rfl ?_
    refine kw_i2l C (kdec dc_M_spelled 20 rfl) 29 rfl ?_
    refine kw_lor C (kdec dc_M_spelled 21 rfl) 30 rfl ?_
    obtain ⟨x6_5, ex6_5, h⟩ := klet_h h
    refine kw_topl ex6_5 ?_
    refine kw_lstore (L' := [some (ki x0), some (ki x1), some (ki x2), some (ki x3), some (ki x4), some (ki x5), some (kl x6_5), none]) C (kdec dc_M_spelled 22 rfl) 32 rfl (by decide) rfl rfl ?_
    exact kw_sub (L' := [none, none, none, some (ki x3), some (ki x4), some (ki x5), some (kl x6_5), none]) ⟨rfl, rfl, rfl, rfl, trivial⟩ (bd_mm_spelled_j32 C σ x3 x4 x5 x6_5 h hR)
theorem mt_mm_spelled (l0 : Launch) {σ : kM} {x0 : Int} {x1 : Int} {x2 : Int} {x3 : Int} {x4 : Int} {x5 : Int} {r : Int} (h : mm_spelled σ x0 x1 x2 x3 x4 x5 = some r) : kMet l0 ky_M_spelled prog_14_method_15_code 8 (some .long) R0_mm_spelled kcl yM σ [ki x0, ki x1, ki x2, ki x3, ki x4, ki x5] (some (kl r)) σ := kMet.of' [some (ki x0), some (ki x1), some (ki x2), some (ki x3), some (ki x4), some (ki x5), none, none] (by decide) (Nat.le_of_ble_eq_true rfl) ⟨rfl, rfl, rfl, rfl, rfl, rfl, trivial⟩ (fun x C => bd_mm_spelled C σ x0 x1 x2 x3 x4 x5 h (fun r e => by subst e; rfl))
def R0_mm_letters : Room := ({ frames := 1, cells := 0, slots := 0, locals := 27 } : Room)
def mm_letters (σ : kM) (x0 : Int) : Option (Int) :=
  if x0 = 0 then
    (mm_spelled σ 100 101 112 116 104 0).bind fun r_1 =>
    some r_1
  else
    if x0 = 1 then
      (mm_spelled σ 116 114 117 101 0 0).bind fun r_3 =>
      some r_3
    else
      if x0 = 2 then
        (mm_spelled σ 115 99 97 114 115 0).bind fun r_5 =>
        some r_5
      else
        if x0 = 3 then
          (mm_spelled σ 112 117 114 115 101 0).bind fun r_7 =>
          some r_7
        else
          if x0 = 4 then
            (mm_spelled σ 98 101 102 111 114 101).bind fun r_9 =>
            some r_9
          else
            if x0 = 5 then
              (mm_spelled σ 121 101 97 114 0 0).bind fun r_11 =>
              some r_11
            else
              if x0 = 6 then
                (mm_spelled σ 105 110 99 104 101 115).bind fun r_13 =>
                some r_13
              else
                if x0 = 7 then
                  (mm_spelled σ 114 104 121 109 101 115).bind fun r_15 =>
                  some r_15
                else
                  if x0 = 8 then
                    (mm_spelled σ 116 111 112 105 99 115).bind fun r_17 =>
                    some r_17
                  else
                    if x0 = 9 then
                      (mm_spelled σ 112 101 114 115 111 110).bind fun r_19 =>
                      some r_19
                    else
                      if x0 = 10 then
                        (mm_spelled σ 112 111 101 116 0 0).bind fun r_21 =>
                        some r_21
                      else
                        if x0 = 11 then
                          (mm_spelled σ 104 105 116 115 0 0).bind fun r_23 =>
                          some r_23
                        else
                          if x0 = 12 then
                            (mm_spelled σ 102 105 110 101 115 0).bind fun r_25 =>
                            some r_25
                          else
                            if x0 = 13 then
                              (mm_spelled σ 98 117 121 115 0 0).bind fun r_27 =>
                              some r_27
                            else
                              if x0 = 14 then
                                (mm_spelled σ 97 110 100 0 0 0).bind fun r_29 =>
                                some r_29
                              else
                                if x0 = 15 then
                                  (mm_spelled σ 111 114 0 0 0 0).bind fun r_31 =>
                                  some r_31
                                else
                                  (mm_spelled σ 110 111 116 0 0 0).bind fun r_33 =>
                                  some r_33
set_option maxHeartbeats 4000000 in
theorem bd_mm_letters {x : kX} {l0 : Launch} {Q : State → Prop} (C : kCx x prog_14_method_16_code "PoetFinesModel" (some .long) kcl yM 1 l0 R0_mm_letters) (σ : kM) (x0 : Int) {out : Int} (h : mm_letters σ x0 = some out) (hR : ∀ (r : Int), out = r → Q = kQ x (some (kl r)) σ 0 0) : KW x 0 0 Q σ 0 [some (ki x0)] [] := by
  unfold mm_letters at h
  refine kw_iload_n C (kdec dc_M_letters 0 rfl) rfl 1 rfl rfl ?_
  by_cases hc1_0 : x0 = 0
  · rw [if_pos hc1_0] at h
    refine kw_table C (kdec dc_M_letters 1 rfl) 80 (Or.inr ⟨by omega, by omega, _, by rw [hc1_0]; rfl, by decide⟩) ?_
    refine kw_bipush (v := 100) C (kdec dc_M_letters 2 rfl) 82 rfl (by decide) ⟨by decide, by decide⟩ ?_
    refine kw_bipush (v := 101) C (kdec dc_M_letters 3 rfl) 84 rfl (by decide) ⟨by decide, by decide⟩ ?_
    refine kw_bipush (v := 112) C (kdec dc_M_letters 4 rfl) 86 rfl (by decide) ⟨by decide, by decide⟩ ?_
    refine kw_bipush (v := 116) C (kdec dc_M_letters 5 rfl) 88 rfl (by decide) ⟨by decide, by decide⟩ ?_
    refine kw_bipush (v := 104) C (kdec dc_M_letters 6 rfl) 90 rfl (by decide) ⟨by decide, by decide⟩ ?_
    refine kw_iconst C (kdec dc_M_letters 7 rfl) 91 rfl rfl ⟨by decide, by decide⟩ ?_
    obtain ⟨r_1, hg_2, h⟩ := kbind_h h
    refine kw_callS (As := [ki 100, ki 101, ki 112, ki 116, ki 104, ki 0]) C (kdec dc_M_letters 8 rfl) 94 rfl cs_M_147 (mt_mm_spelled l0 hg_2) ⟨rfl, rfl⟩ ⟨Nat.le_of_ble_eq_true rfl, Nat.le_of_ble_eq_true rfl⟩ ⟨Nat.zero_le _, Nat.zero_le _⟩ rfl (Nat.le_of_ble_eq_true rfl) ?_
    change KW x 0 0 Q σ 94 [some (ki x0)] [kl r_1]
    obtain rfl := Option.some.inj h
    exact kw_Q (hR _ rfl) (kw_lreturn C (kdec dc_M_letters 9 rfl))
  · rw [if_neg hc1_0] at h
    by_cases hc1_1 : x0 = 1
    · rw [if_pos hc1_1] at h
      refine kw_table C (kdec dc_M_letters 1 rfl) 95 (Or.inr ⟨by omega, by omega, _, by rw [hc1_1]; rfl, by decide⟩) ?_
      refine kw_bipush (v := 116) C (kdec dc_M_letters 10 rfl) 97 rfl (by decide) ⟨by decide, by decide⟩ ?_
      refine kw_bipush (v := 114) C (kdec dc_M_letters 11 rfl) 99 rfl (by decide) ⟨by decide, by decide⟩ ?_
      refine kw_bipush (v := 117) C (kdec dc_M_letters 12 rfl) 101 rfl (by decide) ⟨by decide, by decide⟩ ?_
      refine kw_bipush (v := 101) C (kdec dc_M_letters 13 rfl) 103 rfl (by decide) ⟨by decide, by decide⟩ ?_
      refine kw_iconst C (kdec dc_M_letters 14 rfl) 104 rfl rfl ⟨by decide, by decide⟩ ?_
      refine kw_iconst C (kdec dc_M_letters 15 rfl) 105 rfl rfl ⟨by decide, by decide⟩ ?_
      obtain ⟨r_3, hg_4, h⟩ := kbind_h h
      refine kw_callS (As := [ki 116, ki 114, ki 117, ki 101, ki 0, ki 0]) C (kdec dc_M_letters 16 rfl) 108 rfl cs_M_147 (mt_mm_spelled l0 hg_4) ⟨rfl, rfl⟩ ⟨Nat.le_of_ble_eq_true rfl, Nat.le_of_ble_eq_true rfl⟩ ⟨Nat.zero_le _, Nat.zero_le _⟩ rfl (Nat.le_of_ble_eq_true rfl) ?_
      change KW x 0 0 Q σ 108 [some (ki x0)] [kl r_3]
      obtain rfl := Option.some.inj h
      exact kw_Q (hR _ rfl) (kw_lreturn C (kdec dc_M_letters 17 rfl))
    · rw [if_neg hc1_1] at h
      by_cases hc1_2 : x0 = 2
      · rw [if_pos hc1_2] at h
        refine kw_table C (kdec dc_M_letters 1 rfl) 109 (Or.inr ⟨by omega, by omega, _, by rw [hc1_2]; rfl, by decide⟩) ?_
        refine kw_bipush (v := 115) C (kdec dc_M_letters 18 rfl) 111 rfl (by decide) ⟨by decide, by decide⟩ ?_
        refine kw_bipush (v := 99) C (kdec dc_M_letters 19 rfl) 113 rfl (by decide) ⟨by decide, by decide⟩ ?_
        refine kw_bipush (v := 97) C (kdec dc_M_letters 20 rfl) 115 rfl (by decide) ⟨by decide, by decide⟩ ?_
        refine kw_bipush (v := 114) C (kdec dc_M_letters 21 rfl) 117 rfl (by decide) ⟨by decide, by decide⟩ ?_
        refine kw_bipush (v := 115) C (kdec dc_M_letters 22 rfl) 119 rfl (by decide) ⟨by decide, by decide⟩ ?_
        refine kw_iconst C (kdec dc_M_letters 23 rfl) 120 rfl rfl ⟨by decide, by decide⟩ ?_
        obtain ⟨r_5, hg_6, h⟩ := kbind_h h
        refine kw_callS (As := [ki 115, ki 99, ki 97, ki 114, ki 115, ki 0]) C (kdec dc_M_letters 24 rfl) 123 rfl cs_M_147 (mt_mm_spelled l0 hg_6) ⟨rfl, rfl⟩ ⟨Nat.le_of_ble_eq_true rfl, Nat.le_of_ble_eq_true rfl⟩ ⟨Nat.zero_le _, Nat.zero_le _⟩ rfl (Nat.le_of_ble_eq_true rfl) ?_
        change KW x 0 0 Q σ 123 [some (ki x0)] [kl r_5]
        obtain rfl := Option.some.inj h
        exact kw_Q (hR _ rfl) (kw_lreturn C (kdec dc_M_letters 25 rfl))
      · rw [if_neg hc1_2] at h
        by_cases hc1_3 : x0 = 3
        · rw [if_pos hc1_3] at h
          refine kw_table C (kdec dc_M_letters 1 rfl) 124 (Or.inr ⟨by omega, by omega, _, by rw [hc1_3]; rfl, by decide⟩) ?_
          refine kw_bipush (v := 112) C (kdec dc_M_letters 26 rfl) 126 rfl (by decide) ⟨by decide, by decide⟩ ?_
          refine kw_bipush (v := 117) C (kdec dc_M_letters 27 rfl) 128 rfl (by decide) ⟨by decide, by decide⟩ ?_
          refine kw_bipush (v := 114) C (kdec dc_M_letters 28 rfl) 130 rfl (by decide) ⟨by decide, by decide⟩ ?_
          refine kw_bipush (v := 115) C (kdec dc_M_letters 29 rfl) 132 rfl (by decide) ⟨by decide, by decide⟩ ?_
          refine kw_bipush (v := 101) C (kdec dc_M_letters 30 rfl) 134 rfl (by decide) ⟨by decide, by decide⟩ ?_
          refine kw_iconst C (kdec dc_M_letters 31 rfl) 135 rfl rfl ⟨by decide, by decide⟩ ?_
          obtain ⟨r_7, hg_8, h⟩ := kbind_h h
          refine kw_callS (As := [ki 112, ki 117, ki 114, ki 115, ki 101, ki 0]) C (kdec dc_M_letters 32 rfl) 138 rfl cs_M_147 (mt_mm_spelled l0 hg_8) ⟨rfl, rfl⟩ ⟨Nat.le_of_ble_eq_true rfl, Nat.le_of_ble_eq_true rfl⟩ ⟨Nat.zero_le _, Nat.zero_le _⟩ rfl (Nat.le_of_ble_eq_true rfl) ?_
          change KW x 0 0 Q σ 138 [some (ki x0)] [kl r_7]
          obtain rfl := Option.some.inj h
          exact kw_Q (hR _ rfl) (kw_lreturn C (kdec dc_M_letters 33 rfl))
        · rw [if_neg hc1_3] at h
          by_cases hc1_4 : x0 = 4
          · rw [if_pos hc1_4] at h
            refine kw_table C (kdec dc_M_letters 1 rfl) 139 (Or.inr ⟨by omega, by omega, _, by rw [hc1_4]; rfl, by decide⟩) ?_
            refine kw_bipush (v := 98) C (kdec dc_M_letters 34 rfl) 141 rfl (by decide) ⟨by decide, by decide⟩ ?_
            refine kw_bipush (v := 101) C (kdec dc_M_letters 35 rfl) 143 rfl (by decide) ⟨by decide, by decide⟩ ?_
            refine kw_bipush (v := 102) C (kdec dc_M_letters 36 rfl) 145 rfl (by decide) ⟨by decide, by decide⟩ ?_
            refine kw_bipush (v := 111) C (kdec dc_M_letters 37 rfl) 147 rfl (by decide) ⟨by decide, by decide⟩ ?_
            refine kw_bipush (v := 114) C (kdec dc_M_letters 38 rfl) 149 rfl (by decide) ⟨by decide, by decide⟩ ?_
            refine kw_bipush (v := 101) C (kdec dc_M_letters 39 rfl) 151 rfl (by decide) ⟨by decide, by decide⟩ ?_
            obtain ⟨r_9, hg_10, h⟩ := kbind_h h
            refine kw_callS (As := [ki 98, ki 101, ki 102, ki 111, ki 114, ki 101]) C (kdec dc_M_letters 40 rfl) 154 rfl cs_M_147 (mt_mm_spelled l0 hg_10) ⟨rfl, rfl⟩ ⟨Nat.le_of_ble_eq_true rfl, Nat.le_of_ble_eq_true rfl⟩ ⟨Nat.zero_le _, Nat.zero_le _⟩ rfl (Nat.le_of_ble_eq_true rfl) ?_
            change KW x 0 0 Q σ 154 [some (ki x0)] [kl r_9]
            obtain rfl := Option.some.inj h
            exact kw_Q (hR _ rfl) (kw_lreturn C (kdec dc_M_letters 41 rfl))
          · rw [if_neg hc1_4] at h
            by_cases hc1_5 : x0 = 5
            · rw [if_pos hc1_5] at h
              refine kw_table C (kdec dc_M_letters 1 rfl) 155 (Or.inr ⟨by omega, by omega, _, by rw [hc1_5]; rfl, by decide⟩) ?_
              refine kw_bipush (v := 121) C (kdec dc_M_letters 42 rfl) 157 rfl (by decide) ⟨by decide, by decide⟩ ?_
              refine kw_bipush (v := 101) C (kdec dc_M_letters 43 rfl) 159 rfl (by decide) ⟨by decide, by decide⟩ ?_
              refine kw_bipush (v := 97) C (kdec dc_M_letters 44 rfl) 161 rfl (by decide) ⟨by decide, by decide⟩ ?_
              refine kw_bipush (v := 114) C (kdec dc_M_letters 45 rfl) 163 rfl (by decide) ⟨by decide, by decide⟩ ?_
              refine kw_iconst C (kdec dc_M_letters 46 rfl) 164 rfl rfl ⟨by decide, by decide⟩ ?_
              refine kw_iconst C (kdec dc_M_letters 47 rfl) 165 rfl rfl ⟨by decide, by decide⟩ ?_
              obtain ⟨r_11, hg_12, h⟩ := kbind_h h
              refine kw_callS (As := [ki 121, ki 101, ki 97, ki 114, ki 0, ki 0]) C (kdec dc_M_letters 48 rfl) 168 rfl cs_M_147 (mt_mm_spelled l0 hg_12) ⟨rfl, rfl⟩ ⟨Nat.le_of_ble_eq_true rfl, Nat.le_of_ble_eq_true rfl⟩ ⟨Nat.zero_le _, Nat.zero_le _⟩ rfl (Nat.le_of_ble_eq_true rfl) ?_
              change KW x 0 0 Q σ 168 [some (ki x0)] [kl r_11]
              obtain rfl := Option.some.inj h
              exact kw_Q (hR _ rfl) (kw_lreturn C (kdec dc_M_letters 49 rfl))
            · rw [if_neg hc1_5] at h
              by_cases hc1_6 : x0 = 6
              · rw [if_pos hc1_6] at h
                refine kw_table C (kdec dc_M_letters 1 rfl) 169 (Or.inr ⟨by omega, by omega, _, by rw [hc1_6]; rfl, by decide⟩) ?_
                refine kw_bipush (v := 105) C (kdec dc_M_letters 50 rfl) 171 rfl (by decide) ⟨by decide, by decide⟩ ?_
                refine kw_bipush (v := 110) C (kdec dc_M_letters 51 rfl) 173 rfl (by decide) ⟨by decide, by decide⟩ ?_
                refine kw_bipush (v := 99) C (kdec dc_M_letters 52 rfl) 175 rfl (by decide) ⟨by decide, by decide⟩ ?_
                refine kw_bipush (v := 104) C (kdec dc_M_letters 53 rfl) 177 rfl (by decide) ⟨by decide, by decide⟩ ?_
                refine kw_bipush (v := 101) C (kdec dc_M_letters 54 rfl) 179 rfl (by decide) ⟨by decide, by decide⟩ ?_
                refine kw_bipush (v := 115) C (kdec dc_M_letters 55 rfl) 181 rfl (by decide) ⟨by decide, by decide⟩ ?_
                obtain ⟨r_13, hg_14, h⟩ := kbind_h h
                refine kw_callS (As := [ki 105, ki 110, ki 99, ki 104, ki 101, ki 115]) C (kdec dc_M_letters 56 rfl) 184 rfl cs_M_147 (mt_mm_spelled l0 hg_14) ⟨rfl, rfl⟩ ⟨Nat.le_of_ble_eq_true rfl, Nat.le_of_ble_eq_true rfl⟩ ⟨Nat.zero_le _, Nat.zero_le _⟩ rfl (Nat.le_of_ble_eq_true rfl) ?_
                change KW x 0 0 Q σ 184 [some (ki x0)] [kl r_13]
                obtain rfl := Option.some.inj h
                exact kw_Q (hR _ rfl) (kw_lreturn C (kdec dc_M_letters 57 rfl))
              · rw [if_neg hc1_6] at h
                by_cases hc1_7 : x0 = 7
                · rw [if_pos hc1_7] at h
                  refine kw_table C (kdec dc_M_letters 1 rfl) 185 (Or.inr ⟨by omega, by omega, _, by rw [hc1_7]; rfl, by decide⟩) ?_
                  refine kw_bipush (v := 114) C (kdec dc_M_letters 58 rfl) 187 rfl (by decide) ⟨by decide, by decide⟩ ?_
                  refine kw_bipush (v := 104) C (kdec dc_M_letters 59 rfl) 189 rfl (by decide) ⟨by decide, by decide⟩ ?_
                  refine kw_bipush (v := 121) C (kdec dc_M_letters 60 rfl) 191 rfl (by decide) ⟨by decide, by decide⟩ ?_
                  refine kw_bipush (v := 109) C (kdec dc_M_letters 61 rfl) 193 rfl (by decide) ⟨by decide, by decide⟩ ?_
                  refine kw_bipush (v := 101) C (kdec dc_M_letters 62 rfl) 195 rfl (by decide) ⟨by decide, by decide⟩ ?_
                  refine kw_bipush (v := 115) C (kdec dc_M_letters 63 rfl) 197 rfl (by decide) ⟨by decide, by decide⟩ ?_
                  obtain ⟨r_15, hg_16, h⟩ := kbind_h h
                  refine kw_callS (As := [ki 114, ki 104, ki 121, ki 109, ki 101, ki 115]) C (kdec dc_M_letters 64 rfl) 200 rfl cs_M_147 (mt_mm_spelled l0 hg_16) ⟨rfl, rfl⟩ ⟨Nat.le_of_ble_eq_true rfl, Nat.le_of_ble_eq_true rfl⟩ ⟨Nat.zero_le _, Nat.zero_le _⟩ rfl (Nat.le_of_ble_eq_true rfl) ?_
                  change KW x 0 0 Q σ 200 [some (ki x0)] [kl r_15]
                  obtain rfl := Option.some.inj h
                  exact kw_Q (hR _ rfl) (kw_lreturn C (kdec dc_M_letters 65 rfl))
                · rw [if_neg hc1_7] at h
                  by_cases hc1_8 : x0 = 8
                  · rw [if_pos hc1_8] at h
                    refine kw_table C (kdec dc_M_letters 1 rfl) 201 (Or.inr ⟨by omega, by omega, _, by rw [hc1_8]; rfl, by decide⟩) ?_
                    refine kw_bipush (v := 116) C (kdec dc_M_letters 66 rfl) 203 rfl (by decide) ⟨by decide, by decide⟩ ?_
                    refine kw_bipush (v := 111) C (kdec dc_M_letters 67 rfl) 205 rfl (by decide) ⟨by decide, by decide⟩ ?_
                    refine kw_bipush (v := 112) C (kdec dc_M_letters 68 rfl) 207 rfl (by decide) ⟨by decide, by decide⟩ ?_
                    refine kw_bipush (v := 105) C (kdec dc_M_letters 69 rfl) 209 rfl (by decide) ⟨by decide, by decide⟩ ?_
                    refine kw_bipush (v := 99) C (kdec dc_M_letters 70 rfl) 211 rfl (by decide) ⟨by decide, by decide⟩ ?_
                    refine kw_bipush (v := 115) C (kdec dc_M_letters 71 rfl) 213 rfl (by decide) ⟨by decide, by decide⟩ ?_
                    obtain ⟨r_17, hg_18, h⟩ := kbind_h h
                    refine kw_callS (As := [ki 116, ki 111, ki 112, ki 105, ki 99, ki 115]) C (kdec dc_M_letters 72 rfl) 216 rfl cs_M_147 (mt_mm_spelled l0 hg_18) ⟨rfl, rfl⟩ ⟨Nat.le_of_ble_eq_true rfl, Nat.le_of_ble_eq_true rfl⟩ ⟨Nat.zero_le _, Nat.zero_le _⟩ rfl (Nat.le_of_ble_eq_true rfl) ?_
                    change KW x 0 0 Q σ 216 [some (ki x0)] [kl r_17]
                    obtain rfl := Option.some.inj h
                    exact kw_Q (hR _ rfl) (kw_lreturn C (kdec dc_M_letters 73 rfl))
                  · rw [if_neg hc1_8] at h
                    by_cases hc1_9 : x0 = 9
                    · rw [if_pos hc1_9] at h
                      refine kw_table C (kdec dc_M_letters 1 rfl) 217 (Or.inr ⟨by omega, by omega, _, by rw [hc1_9]; rfl, by decide⟩) ?_
                      refine kw_bipush (v := 112) C (kdec dc_M_letters 74 rfl) 219 rfl (by decide) ⟨by decide, by decide⟩ ?_
                      refine kw_bipush (v := 101) C (kdec dc_M_letters 75 rfl) 221 rfl (by decide) ⟨by decide, by decide⟩ ?_
                      refine kw_bipush (v := 114) C (kdec dc_M_letters 76 rfl) 223 rfl (by decide) ⟨by decide, by decide⟩ ?_
                      refine kw_bipush (v := 115) C (kdec dc_M_letters 77 rfl) 225 rfl (by decide) ⟨by decide, by decide⟩ ?_
                      refine kw_bipush (v := 111) C (kdec dc_M_letters 78 rfl) 227 rfl (by decide) ⟨by decide, by decide⟩ ?_
                      refine kw_bipush (v := 110) C (kdec dc_M_letters 79 rfl) 229 rfl (by decide) ⟨by decide, by decide⟩ ?_
                      obtain ⟨r_19, hg_20, h⟩ := kbind_h h
                      refine kw_callS (As := [ki 112, ki 101, ki 114, ki 115, ki 111, ki 110]) C (kdec dc_M_letters 80 rfl) 232 rfl cs_M_147 (mt_mm_spelled l0 hg_20) ⟨rfl, rfl⟩ ⟨Nat.le_of_ble_eq_true rfl, Nat.le_of_ble_eq_true rfl⟩ ⟨Nat.zero_le _, Nat.zero_le _⟩ rfl (Nat.le_of_ble_eq_true rfl) ?_
                      change KW x 0 0 Q σ 232 [some (ki x0)] [kl r_19]
                      obtain rfl := Option.some.inj h
                      exact kw_Q (hR _ rfl) (kw_lreturn C (kdec dc_M_letters 81 rfl))
                    · rw [if_neg hc1_9] at h
                      by_cases hc1_10 : x0 = 10
                      · rw [if_pos hc1_10] at h
                        refine kw_table C (kdec dc_M_letters 1 rfl) 233 (Or.inr ⟨by omega, by omega, _, by rw [hc1_10]; rfl, by decide⟩) ?_
                        refine kw_bipush (v := 112) C (kdec dc_M_letters 82 rfl) 235 rfl (by decide) ⟨by decide, by decide⟩ ?_
                        refine kw_bipush (v := 111) C (kdec dc_M_letters 83 rfl) 237 rfl (by decide) ⟨by decide, by decide⟩ ?_
                        refine kw_bipush (v := 101) C (kdec dc_M_letters 84 rfl) 239 rfl (by decide) ⟨by decide, by decide⟩ ?_
                        refine kw_bipush (v := 116) C (kdec dc_M_letters 85 rfl) 241 rfl (by decide) ⟨by decide, by decide⟩ ?_
                        refine kw_iconst C (kdec dc_M_letters 86 rfl) 242 rfl rfl ⟨by decide, by decide⟩ ?_
                        refine kw_iconst C (kdec dc_M_letters 87 rfl) 243 rfl rfl ⟨by decide, by decide⟩ ?_
                        obtain ⟨r_21, hg_22, h⟩ := kbind_h h
                        refine kw_callS (As := [ki 112, ki 111, ki 101, ki 116, ki 0, ki 0]) C (kdec dc_M_letters 88 rfl) 246 rfl cs_M_147 (mt_mm_spelled l0 hg_22) ⟨rfl, rfl⟩ ⟨Nat.le_of_ble_eq_true rfl, Nat.le_of_ble_eq_true rfl⟩ ⟨Nat.zero_le _, Nat.zero_le _⟩ rfl (Nat.le_of_ble_eq_true rfl) ?_
                        change KW x 0 0 Q σ 246 [some (ki x0)] [kl r_21]
                        obtain rfl := Option.some.inj h
                        exact kw_Q (hR _ rfl) (kw_lreturn C (kdec dc_M_letters 89 rfl))
                      · rw [if_neg hc1_10] at h
                        by_cases hc1_11 : x0 = 11
                        · rw [if_pos hc1_11] at h
                          refine kw_table C (kdec dc_M_letters 1 rfl) 247 (Or.inr ⟨by omega, by omega, _, by rw [hc1_11]; rfl, by decide⟩) ?_
                          refine kw_bipush (v := 104) C (kdec dc_M_letters 90 rfl) 249 rfl (by decide) ⟨by decide, by decide⟩ ?_
                          refine kw_bipush (v := 105) C (kdec dc_M_letters 91 rfl) 251 rfl (by decide) ⟨by decide, by decide⟩ ?_
                          refine kw_bipush (v := 116) C (kdec dc_M_letters 92 rfl) 253 rfl (by decide) ⟨by decide, by decide⟩ ?_
                          refine kw_bipush (v := 115) C (kdec dc_M_letters 93 rfl) 255 rfl (by decide) ⟨by decide, by decide⟩ ?_
                          refine kw_iconst C (kdec dc_M_letters 94 rfl) 256 rfl rfl ⟨by decide, by decide⟩ ?_
                          refine kw_iconst C (kdec dc_M_letters 95 rfl) 257 rfl rfl ⟨by decide, by decide⟩ ?_
                          obtain ⟨r_23, hg_24, h⟩ := kbind_h h
                          refine kw_callS (As := [ki 104, ki 105, ki 116, ki 115, ki 0, ki 0]) C (kdec dc_M_letters 96 rfl) 260 rfl cs_M_147 (mt_mm_spelled l0 hg_24) ⟨rfl, rfl⟩ ⟨Nat.le_of_ble_eq_true rfl, Nat.le_of_ble_eq_true rfl⟩ ⟨Nat.zero_le _, Nat.zero_le _⟩ rfl (Nat.le_of_ble_eq_true rfl) ?_
                          change KW x 0 0 Q σ 260 [some (ki x0)] [kl r_23]
                          obtain rfl := Option.some.inj h
                          exact kw_Q (hR _ rfl) (kw_lreturn C (kdec dc_M_letters 97 rfl))
                        · rw [if_neg hc1_11] at h
                          by_cases hc1_12 : x0 = 12
                          · rw [if_pos hc1_12] at h
                            refine kw_table C (kdec dc_M_letters 1 rfl) 261 (Or.inr ⟨by omega, by omega, _, by rw [hc1_12]; rfl, by decide⟩) ?_
                            refine kw_bipush (v := 102) C (kdec dc_M_letters 98 rfl) 263 rfl (by decide) ⟨by decide, by decide⟩ ?_
                            refine kw_bipush (v := 105) C (kdec dc_M_letters 99 rfl) 265 rfl (by decide) ⟨by decide, by decide⟩ ?_
                            refine kw_bipush (v := 110) C (kdec dc_M_letters 100 rfl) 267 rfl (by decide) ⟨by decide, by decide⟩ ?_
                            refine kw_bipush (v := 101) C (kdec dc_M_letters 101 rfl) 269 rfl (by decide) ⟨by decide, by decide⟩ ?_
                            refine kw_bipush (v := 115) C (kdec dc_M_letters 102 rfl) 271 rfl (by decide) ⟨by decide, by decide⟩ ?_
                            refine kw_iconst C (kdec dc_M_letters 103 rfl) 272 rfl rfl ⟨by decide, by decide⟩ ?_
                            obtain ⟨r_25, hg_26, h⟩ := kbind_h h
                            refine kw_callS (As := [ki 102, ki 105, ki 110, ki 101, ki 115, ki 0]) C (kdec dc_M_letters 104 rfl) 275 rfl cs_M_147 (mt_mm_spelled l0 hg_26) ⟨rfl, rfl⟩ ⟨Nat.le_of_ble_eq_true rfl, Nat.le_of_ble_eq_true rfl⟩ ⟨Nat.zero_le _, Nat.zero_le _⟩ rfl (Nat.le_of_ble_eq_true rfl) ?_
                            change KW x 0 0 Q σ 275 [some (ki x0)] [kl r_25]
                            obtain rfl := Option.some.inj h
                            exact kw_Q (hR _ rfl) (kw_lreturn C (kdec dc_M_letters 105 rfl))
                          · rw [if_neg hc1_12] at h
                            by_cases hc1_13 : x0 = 13
                            · rw [if_pos hc1_13] at h
                              refine kw_table C (kdec dc_M_letters 1 rfl) 276 (Or.inr ⟨by omega, by omega, _, by rw [hc1_13]; rfl, by decide⟩) ?_
                              refine kw_bipush (v := 98) C (kdec dc_M_letters 106 rfl) 278 rfl (by decide) ⟨by decide, by decide⟩ ?_
                              refine kw_bipush (v := 117) C (kdec dc_M_letters 107 rfl) 280 rfl (by decide) ⟨by decide, by decide⟩ ?_
                              refine kw_bipush (v := 121) C (kdec dc_M_letters 108 rfl) 282 rfl (by decide) ⟨by decide, by decide⟩ ?_
                              refine kw_bipush (v := 115) C (kdec dc_M_letters 109 rfl) 284 rfl (by decide) ⟨by decide, by decide⟩ ?_
                              refine kw_iconst C (kdec dc_M_letters 110 rfl) 285 rfl rfl ⟨by decide, by decide⟩ ?_
                              refine kw_iconst C (kdec dc_M_letters 111 rfl) 286 rfl rfl ⟨by decide, by decide⟩ ?_
                              obtain ⟨r_27, hg_28, h⟩ := kbind_h h
                              refine kw_callS (As := [ki 98, ki 117, ki 121, ki 115, ki 0, ki 0]) C (kdec dc_M_letters 112 rfl) 289 rfl cs_M_147 (mt_mm_spelled l0 hg_28) ⟨rfl, rfl⟩ ⟨Nat.le_of_ble_eq_true rfl, Nat.le_of_ble_eq_true rfl⟩ ⟨Nat.zero_le _, Nat.zero_le _⟩ rfl (Nat.le_of_ble_eq_true rfl) ?_
                              change KW x 0 0 Q σ 289 [some (ki x0)] [kl r_27]
                              obtain rfl := Option.some.inj h
                              exact kw_Q (hR _ rfl) (kw_lreturn C (kdec dc_M_letters 113 rfl))
                            · rw [if_neg hc1_13] at h
                              by_cases hc1_14 : x0 = 14
                              · rw [if_pos hc1_14] at h
                                refine kw_table C (kdec dc_M_letters 1 rfl) 290 (Or.inr ⟨by omega, by omega, _, by rw [hc1_14]; rfl, by decide⟩) ?_
                                refine kw_bipush (v := 97) C (kdec dc_M_letters 114 rfl) 292 rfl (by decide) ⟨by decide, by decide⟩ ?_
                                refine kw_bipush (v := 110) C (kdec dc_M_letters 115 rfl) 294 rfl (by decide) ⟨by decide, by decide⟩ ?_
                                refine kw_bipush (v := 100) C (kdec dc_M_letters 116 rfl) 296 rfl (by decide) ⟨by decide, by decide⟩ ?_
                                refine kw_iconst C (kdec dc_M_letters 117 rfl) 297 rfl rfl ⟨by decide, by decide⟩ ?_
                                refine kw_iconst C (kdec dc_M_letters 118 rfl) 298 rfl rfl ⟨by decide, by decide⟩ ?_
                                refine kw_iconst C (kdec dc_M_letters 119 rfl) 299 rfl rfl ⟨by decide, by decide⟩ ?_
                                obtain ⟨r_29, hg_30, h⟩ := kbind_h h
                                refine kw_callS (As := [ki 97, ki 110, ki 100, ki 0, ki 0, ki 0]) C (kdec dc_M_letters 120 rfl) 302 rfl cs_M_147 (mt_mm_spelled l0 hg_30) ⟨rfl, rfl⟩ ⟨Nat.le_of_ble_eq_true rfl, Nat.le_of_ble_eq_true rfl⟩ ⟨Nat.zero_le _, Nat.zero_le _⟩ rfl (Nat.le_of_ble_eq_true rfl) ?_
                                change KW x 0 0 Q σ 302 [some (ki x0)] [kl r_29]
                                obtain rfl := Option.some.inj h
                                exact kw_Q (hR _ rfl) (kw_lreturn C (kdec dc_M_letters 121 rfl))
                              · rw [if_neg hc1_14] at h
                                by_cases hc1_15 : x0 = 15
                                · rw [if_pos hc1_15] at h
                                  refine kw_table C (kdec dc_M_letters 1 rfl) 303 (Or.inr ⟨by omega, by omega, _, by rw [hc1_15]; rfl, by decide⟩) ?_
                                  refine kw_bipush (v := 111) C (kdec dc_M_letters 122 rfl) 305 rfl (by decide) ⟨by decide, by decide⟩ ?_
                                  refine kw_bipush (v := 114) C (kdec dc_M_letters 123 rfl) 307 rfl (by decide) ⟨by decide, by decide⟩ ?_
                                  refine kw_iconst C (kdec dc_M_letters 124 rfl) 308 rfl rfl ⟨by decide, by decide⟩ ?_
                                  refine kw_iconst C (kdec dc_M_letters 125 rfl) 309 rfl rfl ⟨by decide, by decide⟩ ?_
                                  refine kw_iconst C (kdec dc_M_letters 126 rfl) 310 rfl rfl ⟨by decide, by decide⟩ ?_
                                  refine kw_iconst C (kdec dc_M_letters 127 rfl) 311 rfl rfl ⟨by decide, by decide⟩ ?_
                                  obtain ⟨r_31, hg_32, h⟩ := kbind_h h
                                  refine kw_callS (As := [ki 111, ki 114, ki 0, ki 0, ki 0, ki 0]) C (kdec dc_M_letters 128 rfl) 314 rfl cs_M_147 (mt_mm_spelled l0 hg_32) ⟨rfl, rfl⟩ ⟨Nat.le_of_ble_eq_true rfl, Nat.le_of_ble_eq_true rfl⟩ ⟨Nat.zero_le _, Nat.zero_le _⟩ rfl (Nat.le_of_ble_eq_true rfl) ?_
                                  change KW x 0 0 Q σ 314 [some (ki x0)] [kl r_31]
                                  obtain rfl := Option.some.inj h
                                  exact kw_Q (hR _ rfl) (kw_lreturn C (kdec dc_M_letters 129 rfl))
                                · rw [if_neg hc1_15] at h
                                  refine kw_table C (kdec dc_M_letters 1 rfl) 315 (Or.inl ⟨by omega, by decide⟩) ?_
                                  refine kw_bipush (v := 110) C (kdec dc_M_letters 130 rfl) 317 rfl (by decide) ⟨by decide, by decide⟩ ?_
                                  refine kw_bipush (v := 111) C (kdec dc_M_letters 131 rfl) 319 rfl (by decide) ⟨by decide, by decide⟩ ?_
                                  refine kw_bipush (v := 116) C (kdec dc_M_letters 132 rfl) 321 rfl (by decide) ⟨by decide, by decide⟩ ?_
                                  refine kw_iconst C (kdec dc_M_letters 133 rfl) 322 rfl rfl ⟨by decide, by decide⟩ ?_
                                  refine kw_iconst C (kdec dc_M_letters 134 rfl) 323 rfl rfl ⟨by decide, by decide⟩ ?_
                                  refine kw_iconst C (kdec dc_M_letters 135 rfl) 324 rfl rfl ⟨by decide, by decide⟩ ?_
                                  obtain ⟨r_33, hg_34, h⟩ := kbind_h h
                                  refine kw_callS (As := [ki 110, ki 111, ki 116, ki 0, ki 0, ki 0]) C (kdec dc_M_letters 136 rfl) 327 rfl cs_M_147 (mt_mm_spelled l0 hg_34) ⟨rfl, rfl⟩ ⟨Nat.le_of_ble_eq_true rfl, Nat.le_of_ble_eq_true rfl⟩ ⟨Nat.zero_le _, Nat.zero_le _⟩ rfl (Nat.le_of_ble_eq_true rfl) ?_
                                  change KW x 0 0 Q σ 327 [some (ki x0)] [kl r_33]
                                  obtain rfl := Option.some.inj h
                                  exact kw_Q (hR _ rfl) (kw_lreturn C (kdec dc_M_letters 137 rfl))
theorem mt_mm_letters (l0 : Launch) {σ : kM} {x0 : Int} {r : Int} (h : mm_letters σ x0 = some r) : kMet l0 ky_M_letters prog_14_method_16_code 1 (some .long) R0_mm_letters kcl yM σ [ki x0] (some (kl r)) σ := kMet.of' [some (ki x0)] (by decide) (Nat.le_of_ble_eq_true rfl) ⟨rfl, trivial⟩ (fun x C => bd_mm_letters C σ x0 h (fun r e => by subst e; rfl))

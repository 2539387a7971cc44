def R0_mm_getsBy : Room := ({ frames := 4, cells := 0, slots := 0, locals := 96 } : Room)
def mm_getsBy (σ : kM) (x1 : Int) (x2 : Int) (x3 : Int) : Option (Int × kM) :=
  (mm_inchesOf σ 0 x1 x2 x3).bind fun (r_1, σ_2) =>
  if r_1 = 0 then
    some ((0, σ_2))
  else
    (mm_fineOf σ_2 0 x1 x2 x3 r_1).bind fun (r_3, σ_4) =>
    some ((r_3, σ_4))
set_option maxHeartbeats 4000000 in
theorem bd_mm_getsBy {x : kX} {l0 : Launch} {Q : State → Prop} (C : kCx x prog_14_method_71_code "PoetFinesModel" (some .int) kcl yM 5 l0 R0_mm_getsBy) (σ : kM) (x1 : Int) (x2 : Int) (x3 : Int) {out : Int × kM} (h : mm_getsBy σ x1 x2 x3 = some out) (hR : ∀ (r : Int) (τ : kM), out = (r, τ) → Q = kQ x (some (ki r)) τ 0 0) : KW x 0 0 Q σ 0 [some (kr 0), some (ki x1), some (ki x2), some (ki x3), none] [] := by
  unfold mm_getsBy at h
  refine kw_aload_n C (kdec dc_M_getsBy 0 rfl) rfl 1 rfl rfl ?_
  refine kw_iconst C (kdec dc_M_getsBy 1 rfl) 2 rfl rfl ⟨by decide, by decide⟩ ?_
  refine kw_iload_n C (kdec dc_M_getsBy 2 rfl) rfl 3 rfl rfl ?_
  refine kw_iload_n C (kdec dc_M_getsBy 3 rfl) rfl 4 rfl rfl ?_
  refine kw_iload_n C (kdec dc_M_getsBy 4 rfl) rfl 5 rfl rfl ?_
  obtain ⟨⟨r_1, σ_2⟩, hg_6, h⟩ := kbind_h h
  dsimp only at h
  refine kw_callV (As := [ki 0, ki x1, ki x2, ki x3]) C (kdec dc_M_getsBy 5 rfl) 8 rfl cv_M_330 rfl rfl (mt_mm_inchesOf l0 hg_6) ⟨rfl, rfl⟩ ⟨Nat.le_of_ble_eq_true rfl, Nat.le_of_ble_eq_true rfl⟩ ⟨Nat.zero_le _, Nat.zero_le _⟩ rfl (Nat.le_of_ble_eq_true rfl) ?_
  change KW x 0 0 Q σ_2 8 [some (kr 0), some (ki x1), some (ki x2), some (ki x3), none] [ki r_1]
  refine kw_istore (L' := [some (kr 0), some (ki x1), some (ki x2), some (ki x3), some (ki r_1)]) C (kdec dc_M_getsBy 6 rfl) 10 rfl (by decide) rfl rfl ?_
  refine kw_iload C (kdec dc_M_getsBy 7 rfl) 12 rfl rfl ?_
  refine kw_if_ne C (kdec dc_M_getsBy 8 rfl) 19 15 (by decide) rfl (fun hc12 => ?_) (fun hc12 => ?_)
  · rw [if_neg hc12] at h
    refine kw_aload_n C (kdec dc_M_getsBy 11 rfl) rfl 20 rfl rfl ?_
    refine kw_iconst C (kdec dc_M_getsBy 12 rfl) 21 rfl rfl ⟨by decide, by decide⟩ ?_
    refine kw_iload_n C (kdec dc_M_getsBy 13 rfl) rfl 22 rfl rfl ?_
    refine kw_iload_n C (kdec dc_M_getsBy 14 rfl) rfl 23 rfl rfl ?_
    refine kw_iload_n C (kdec dc_M_getsBy 15 rfl) rfl 24 rfl rfl ?_
    refine kw_iload C (kdec dc_M_getsBy 16 rfl) 26 rfl rfl ?_
    obtain ⟨⟨r_3, σ_4⟩, hg_5, h⟩ := kbind_h h
    dsimp only at h
    refine kw_callV (As := [ki 0, ki x1, ki x2, ki x3, ki r_1]) C (kdec dc_M_getsBy 17 rfl) 29 rfl cv_M_334 rfl rfl (mt_mm_fineOf l0 hg_5) ⟨rfl, rfl⟩ ⟨Nat.le_of_ble_eq_true rfl, Nat.le_of_ble_eq_true rfl⟩ ⟨Nat.zero_le _, Nat.zero_le _⟩ rfl (Nat.le_of_ble_eq_true rfl) ?_
    change KW x 0 0 Q σ_4 29 [some (kr 0), some (ki x1), some (ki x2), some (ki x3), some (ki r_1)] [ki r_3]
    obtain rfl := Option.some.inj h
    exact kw_Q (hR _ _ rfl) (kw_ireturn C (kdec dc_M_getsBy 18 rfl))
  · rw [if_pos hc12] at h
    refine kw_iconst C (kdec dc_M_getsBy 9 rfl) 16 rfl rfl ⟨by decide, by decide⟩ ?_
    refine kw_goto C (kdec dc_M_getsBy 10 rfl) 29 (by decide) ?_
    obtain rfl := Option.some.inj h
    exact kw_Q (hR _ _ rfl) (kw_ireturn C (kdec dc_M_getsBy 18 rfl))
theorem mt_mm_getsBy (l0 : Launch) {σ : kM} {x1 : Int} {x2 : Int} {x3 : Int} {r : Int} {τ : kM} (h : mm_getsBy σ x1 x2 x3 = some (r, τ)) : kMet l0 ky_M_getsBy prog_14_method_71_code 5 (some .int) R0_mm_getsBy kcl yM σ [kr 0, ki x1, ki x2, ki x3] (some (ki r)) τ := kMet.of' [some (kr 0), some (ki x1), some (ki x2), some (ki x3), none] (by decide) (Nat.le_of_ble_eq_true rfl) ⟨rfl, rfl, rfl, rfl, trivial⟩ (fun x C => bd_mm_getsBy C σ x1 x2 x3 h (fun r τ e => by cases e; rfl))
def R0_mm_fineAll : Room := ({ frames := 5, cells := 0, slots := 0, locals := 120 } : Room)
def mm_fineAll_l5 (σ : kM) (x1 : Int) (x2 : Int) (x3 : Int) (x4 : Int) : Option ((kM × Int × Int) ⊕ ((kM × Int))) :=
  if (σ 0 2) ≤ x4 then
    some (Sum.inr (σ, x3))
  else
    (mm_getsBy σ x1 x4 x2).bind fun (r_1, σ_2) =>
    klet (w32 (x3 + r_1)) fun x3_3 =>
    klet (w32 (x4 + 1)) fun x4_4 =>
    some (Sum.inl (σ_2, x3_3, x4_4))
set_option maxHeartbeats 4000000 in
theorem bd_mm_fineAll_l5 {x : kX} {l0 : Launch} {Q : State → Prop} (C : kCx x prog_14_method_72_code "PoetFinesModel" (some .int) kcl yM 5 l0 R0_mm_fineAll) (σ : kM) (x1 : Int) (x2 : Int) (x3 : Int) (x4 : Int) {out : (kM × Int × Int) ⊕ ((kM × Int))} (h : mm_fineAll_l5 σ x1 x2 x3 x4 = some out) (hC : ∀ (σ' : kM) (x3' : Int) (x4' : Int), out = Sum.inl (σ', x3', x4') → KW x 0 0 Q σ' 5 [some (kr 0), some (ki x1), some (ki x2), some (ki x3'), some (ki x4')] []) (hX31 : ∀ (σ' : kM) (x3' : Int), out = Sum.inr (σ', x3') → KW x 0 0 Q σ' 31 [none, none, none, some (ki x3'), none] []) : KW x 0 0 Q σ 5 [some (kr 0), some (ki x1), some (ki x2), some (ki x3), some (ki x4)] [] := by
  unfold mm_fineAll_l5 at h
  refine kw_iload C (kdec dc_M_fineAll 4 rfl) 7 rfl rfl ?_
  refine kw_aload_n C (kdec dc_M_fineAll 5 rfl) rfl 8 rfl rfl ?_
  refine kw_getI C (kdec dc_M_fineAll 6 rfl) 11 rfl fd_M_M_270_0 ?_
  refine kw_icmp_ge C (kdec dc_M_fineAll 7 rfl) 31 14 (by decide) rfl (fun hc11 => ?_) (fun hc11 => ?_)
  · rw [if_pos hc11] at h
    obtain rfl := Option.some.inj h
    exact kw_sub (L' := [none, none, none, some (ki x3), none]) ⟨rfl, trivial⟩ (hX31 _ _ rfl)
  · rw [if_neg hc11] at h
    refine kw_iload_n C (kdec dc_M_fineAll 8 rfl) rfl 15 rfl rfl ?_
    refine kw_aload_n C (kdec dc_M_fineAll 9 rfl) rfl 16 rfl rfl ?_
    refine kw_iload_n C (kdec dc_M_fineAll 10 rfl) rfl 17 rfl rfl ?_
    refine kw_iload C (kdec dc_M_fineAll 11 rfl) 19 rfl rfl ?_
    refine kw_iload_n C (kdec dc_M_fineAll 12 rfl) rfl 20 rfl rfl ?_
    obtain ⟨⟨r_1, σ_2⟩, hg_5, h⟩ := kbind_h h
    dsimp only at h
    refine kw_callV (As := [ki x1, ki x4, ki x2]) C (kdec dc_M_fineAll 13 rfl) 23 rfl cv_M_383 rfl rfl (mt_mm_getsBy l0 hg_5) ⟨rfl, rfl⟩ ⟨Nat.le_of_ble_eq_true rfl, Nat.le_of_ble_eq_true rfl⟩ ⟨Nat.zero_le _, Nat.zero_le _⟩ rfl (Nat.le_of_ble_eq_true rfl) ?_
    change KW x 0 0 Q σ_2 23 [some (kr 0), some (ki x1), some (ki x2), some (ki x3), some (ki x4)] [ki r_1, ki x3]
    refine kw_iadd C (kdec dc_M_fineAll 14 rfl) 24 rfl ?_
    obtain ⟨x3_3, ex3_3, h⟩ := klet_h h
    refine kw_top ex3_3 ?_
    refine kw_istore_n (L' := [some (kr 0), some (ki x1), some (ki x2), some (ki x3_3), some (ki x4)]) C (kdec dc_M_fineAll 15 rfl) rfl 25 rfl (by decide) rfl rfl ?_
    obtain ⟨x4_4, ex4_4, h⟩ := klet_h h
    refine kw_iinc (L' := [some (kr 0), some (ki x1), some (ki x2), some (ki x3_3), some (ki x4_4)]) C (kdec dc_M_fineAll 16 rfl) 28 rfl rfl (by decide) rfl (by rw [ex4_4]; rfl) ?_
    refine kw_goto C (kdec dc_M_fineAll 17 rfl) 5 (by decide) ?_
    obtain rfl := Option.some.inj h
    exact (hC _ _ _ rfl)
theorem lp_mm_fineAll_l5 {x : kX} {l0 : Launch} {Q : State → Prop} (C : kCx x prog_14_method_72_code "PoetFinesModel" (some .int) kcl yM 5 l0 R0_mm_fineAll) (x1 : Int) (x2 : Int) {ex : (kM × Int)} (hX31 : ∀ (σ' : kM) (x3' : Int), ex = (σ', x3') → KW x 0 0 Q σ' 31 [none, none, none, some (ki x3'), none] []) (n : Nat) (σ : kM) (x3 : Int) (x4 : Int) (h : kloop (fun st => mm_fineAll_l5 st.1 x1 x2 st.2.1 st.2.2) n (σ, x3, x4) = some ex) : KW x 0 0 Q σ 5 [some (kr 0), some (ki x1), some (ki x2), some (ki x3), some (ki x4)] [] :=
  kloop_ind (P := (fun st : kM × Int × Int => KW x 0 0 Q st.1 5 [some (kr 0), some (ki x1), some (ki x2), some (ki (st.2.1)), some (ki (st.2.2))] [])) (fun st out hb hc hx => bd_mm_fineAll_l5 C st.1 x1 x2 st.2.1 st.2.2 hb (fun a0 a1 a2 e => hc _ e) (fun a0 a1 e => hX31 _ _ ((hx _ e).symm))) n (σ, x3, x4) h
def mm_fineAll (σ : kM) (x1 : Int) (x2 : Int) : Option (Int × kM) :=
  (kloop (fun st => mm_fineAll_l5 st.1 x1 x2 st.2.1 st.2.2) kFuel (σ, 0, 0)).bind fun (σ_8, x3_9) =>
  some ((x3_9, σ_8))
set_option maxHeartbeats 4000000 in
theorem bd_mm_fineAll {x : kX} {l0 : Launch} {Q : State → Prop} (C : kCx x prog_14_method_72_code "PoetFinesModel" (some .int) kcl yM 5 l0 R0_mm_fineAll) (σ : kM) (x1 : Int) (x2 : Int) {out : Int × kM} (h : mm_fineAll σ x1 x2 = some out) (hR : ∀ (r : Int) (τ : kM), out = (r, τ) → Q = kQ x (some (ki r)) τ 0 0) : KW x 0 0 Q σ 0 [some (kr 0), some (ki x1), some (ki x2), none, none] [] := by
  unfold mm_fineAll at h
  refine kw_iconst C (kdec dc_M_fineAll 0 rfl) 1 rfl rfl ⟨by decide, by decide⟩ ?_
  refine kw_istore_n (L' := [some (kr 0), some (ki x1), some (ki x2), some (ki 0), none]) C (kdec dc_M_fineAll 1 rfl) rfl 2 rfl (by decide) rfl rfl ?_
  refine kw_iconst C (kdec dc_M_fineAll 2 rfl) 3 rfl rfl ⟨by decide, by decide⟩ ?_
  refine kw_istore (L' := [some (kr 0), some (ki x1), some (ki x2), some (ki 0), some (ki 0)]) C (kdec dc_M_fineAll 3 rfl) 5 rfl (by decide) rfl rfl ?_
  obtain ⟨ex_6, hl_7, h⟩ := kbind_h h
  refine lp_mm_fineAll_l5 C x1 x2 ?_ kFuel σ 0 0 hl_7
  · intro σ_8 x3_9 e
    subst ex_6
    try dsimp only at h
    refine kw_iload_n C (kdec dc_M_fineAll 18 rfl) rfl 32 rfl rfl ?_
    obtain rfl := Option.some.inj h
    exact kw_Q (hR _ _ rfl) (kw_ireturn C (kdec dc_M_fineAll 19 rfl))
theorem mt_mm_fineAll (l0 : Launch) {σ : kM} {x1 : Int} {x2 : Int} {r : Int} {τ : kM} (h : mm_fineAll σ x1 x2 = some (r, τ)) : kMet l0 ky_M_fineAll prog_14_method_72_code 5 (some .int) R0_mm_fineAll kcl yM σ [kr 0, ki x1, ki x2] (some (ki r)) τ := kMet.of' [some (kr 0), some (ki x1), some (ki x2), none, none] (by decide) (Nat.le_of_ble_eq_true rfl) ⟨rfl, rfl, rfl, trivial⟩ (fun x C => bd_mm_fineAll C σ x1 x2 h (fun r τ e => by cases e; rfl))
def R0_mm_intoAll : Room := ({ frames := 4, cells := 0, slots := 0, locals := 96 } : Room)
def mm_intoAll_l5 (σ : kM) (x1 : Int) (x2 : Int) (x3 : Int) (x4 : Int) : Option ((kM × Int × Int) ⊕ ((kM × Int))) :=
  if (σ 0 2) ≤ x4 then
    some (Sum.inr (σ, x3))
  else
    (mm_inchesOf σ 0 x1 x4 x2).bind fun (r_1, σ_2) =>
    klet (w32 (x3 + r_1)) fun x3_3 =>
    klet (w32 (x4 + 1)) fun x4_4 =>
    some (Sum.inl (σ_2, x3_3, x4_4))
set_option maxHeartbeats 4000000 in
theorem bd_mm_intoAll_l5 {x : kX} {l0 : Launch} {Q : State → Prop} (C : kCx x prog_14_method_73_code "PoetFinesModel" (some .int) kcl yM 5 l0 R0_mm_intoAll) (σ : kM) (x1 : Int) (x2 : Int) (x3 : Int) (x4 : Int) {out : (kM × Int × Int) ⊕ ((kM × Int))} (h : mm_intoAll_l5 σ x1 x2 x3 x4 = some out) (hC : ∀ (σ' : kM) (x3' : Int) (x4' : Int), out = Sum.inl (σ', x3', x4') → KW x 0 0 Q σ' 5 [some (kr 0), some (ki x1), some (ki x2), some (ki x3'), some (ki x4')] []) (hX32 : ∀ (σ' : kM) (x3' : Int), out = Sum.inr (σ', x3') → KW x 0 0 Q σ' 32 [none, none, none, some (ki x3'), none] []) : KW x 0 0 Q σ 5 [some (kr 0), some (ki x1), some (ki x2), some (ki x3), some (ki x4)] [] := by
  unfold mm_intoAll_l5 at h
  refine kw_iload C (kdec dc_M_intoAll 4 rfl) 7 rfl rfl ?_
  refine kw_aload_n C (kdec dc_M_intoAll 5 rfl) rfl 8 rfl rfl ?_
  refine kw_getI C (kdec dc_M_intoAll 6 rfl) 11 rfl fd_M_M_270_0 ?_
  refine kw_icmp_ge C (kdec dc_M_intoAll 7 rfl) 32 14 (by decide) rfl (fun hc11 => ?_) (fun hc11 => ?_)
  · rw [if_pos hc11] at h
    obtain rfl := Option.some.inj h
    exact kw_sub (L' := [none, none, none, some (ki x3), none]) ⟨rfl, trivial⟩ (hX32 _ _ rfl)
  · rw [if_neg hc11] at h
    refine kw_iload_n C (kdec dc_M_intoAll 8 rfl) rfl 15 rfl rfl ?_
    refine kw_aload_n C (kdec dc_M_intoAll 9 rfl) rfl 16 rfl rfl ?_
    refine kw_iconst C (kdec dc_M_intoAll 10 rfl) 17 rfl rfl ⟨by decide, by decide⟩ ?_
    refine kw_iload_n C (kdec dc_M_intoAll 11 rfl) rfl 18 rfl rfl ?_
    refine kw_iload C (kdec dc_M_intoAll 12 rfl) 20 rfl rfl ?_
    refine kw_iload_n C (kdec dc_M_intoAll 13 rfl) rfl 21 rfl rfl ?_
    obtain ⟨⟨r_1, σ_2⟩, hg_5, h⟩ := kbind_h h
    dsimp only at h
    refine kw_callV (As := [ki 0, ki x1, ki x4, ki x2]) C (kdec dc_M_intoAll 14 rfl) 24 rfl cv_M_330 rfl rfl (mt_mm_inchesOf l0 hg_5) ⟨rfl, rfl⟩ ⟨Nat.le_of_ble_eq_true rfl, Nat.le_of_ble_eq_true rfl⟩ ⟨Nat.zero_le _, Nat.zero_le _⟩ rfl (Nat.le_of_ble_eq_true rfl) ?_
    change KW x 0 0 Q σ_2 24 [some (kr 0), some (ki x1), some (ki x2), some (ki x3), some (ki x4)] [ki r_1, ki x3]
    refine kw_iadd C (kdec dc_M_intoAll 15 rfl) 25 rfl ?_
    obtain ⟨x3_3, ex3_3, h⟩ := klet_h h
    refine kw_top ex3_3 ?_
    refine kw_istore_n (L' := [some (kr 0), some (ki x1), some (ki x2), some (ki x3_3), some (ki x4)]) C (kdec dc_M_intoAll 16 rfl) rfl 26 rfl (by decide) rfl rfl ?_
    obtain ⟨x4_4, ex4_4, h⟩ := klet_h h
    refine kw_iinc (L' := [some (kr 0), some (ki x1), some (ki x2), some (ki x3_3), some (ki x4_4)]) C (kdec dc_M_intoAll 17 rfl) 29 rfl rfl (by decide) rfl (by rw [ex4_4]; rfl) ?_
    refine kw_goto C (kdec dc_M_intoAll 18 rfl) 5 (by decide) ?_
    obtain rfl := Option.some.inj h
    exact (hC _ _ _ rfl)
theorem lp_mm_intoAll_l5 {x : kX} {l0 : Launch} {Q : State → Prop} (C : kCx x prog_14_method_73_code "PoetFinesModel" (some .int) kcl yM 5 l0 R0_mm_intoAll) (x1 : Int) (x2 : Int) {ex : (kM × Int)} (hX32 : ∀ (σ' : kM) (x3' : Int), ex = (σ', x3') → KW x 0 0 Q σ' 32 [none, none, none, some (ki x3'), none] []) (n : Nat) (σ : kM) (x3 : Int) (x4 : Int) (h : kloop (fun st => mm_intoAll_l5 st.1 x1 x2 st.2.1 st.2.2) n (σ, x3, x4) = some ex) : KW x 0 0 Q σ 5 [some (kr 0), some (ki x1), some (ki x2), some (ki x3), some (ki x4)] [] :=
  kloop_ind (P := (fun st : kM × Int × Int => KW x 0 0 Q st.1 5 [some (kr 0), some (ki x1), some (ki x2), some (ki (st.2.1)), some (ki (st.2.2))] [])) (fun st out hb hc hx => bd_mm_intoAll_l5 C st.1 x1 x2 st.2.1 st.2.2 hb (fun a0 a1 a2 e => hc _ e) (fun a0 a1 e => hX32 _ _ ((hx _ e).symm))) n (σ, x3, x4) h
def mm_intoAll (σ : kM) (x1 : Int) (x2 : Int) : Option (Int × kM) :=
  (kloop (fun st => mm_intoAll_l5 st.1 x1 x2 st.2.1 st.2.2) kFuel (σ, 0, 0)).bind fun (σ_8, x3_9) =>
  some ((x3_9, σ_8))
set_option maxHeartbeats 4000000 in
theorem bd_mm_intoAll {x : kX} {l0 : Launch} {Q : State → Prop} (C : kCx x prog_14_method_73_code "PoetFinesModel" (some .int) kcl yM 5 l0 R0_mm_intoAll) (σ : kM) (x1 : Int) (x2 : Int) {out : Int × kM} (h : mm_intoAll σ x1 x2 = some out) (hR : ∀ (r : Int) (τ : kM), out = (r, τ) → Q = kQ x (some (ki r)) τ 0 0) : KW x 0 0 Q σ 0 [some (kr 0), some (ki x1), some (ki x2), none, none] [] := by
  unfold mm_intoAll at h
  refine kw_iconst C (kdec dc_M_intoAll 0 rfl) 1 rfl rfl ⟨by decide, by decide⟩ ?_
  refine kw_istore_n (L' := [some (kr 0), some (ki x1), some (ki x2), some (ki 0), none]) C (kdec dc_M_intoAll 1 rfl) rfl 2 rfl (by decide) rfl rfl ?_
  refine kw_iconst C (kdec dc_M_intoAll 2 rfl) 3 rfl rfl ⟨by decide, by decide⟩ ?_
  refine kw_istore (L' := [some (kr 0), some (ki x1), some (ki x2), some (ki 0), some (ki 0)]) C (kdec dc_M_intoAll 3 rfl) 5 rfl (by decide) rfl rfl ?_
  obtain ⟨ex_6, hl_7, h⟩ := kbind_h h
  refine lp_mm_intoAll_l5 C x1 x2 ?_ kFuel σ 0 0 hl_7
  · intro σ_8 x3_9 e
    subst ex_6
    try dsimp only at h
    refine kw_iload_n C (kdec dc_M_intoAll 19 rfl) rfl 33 rfl rfl ?_
    obtain rfl := Option.some.inj h
    exact kw_Q (hR _ _ rfl) (kw_ireturn C (kdec dc_M_intoAll 20 rfl))
theorem mt_mm_intoAll (l0 : Launch) {σ : kM} {x1 : Int} {x2 : Int} {r : Int} {τ : kM} (h : mm_intoAll σ x1 x2 = some (r, τ)) : kMet l0 ky_M_intoAll prog_14_method_73_code 5 (some .int) R0_mm_intoAll kcl yM σ [kr 0, ki x1, ki x2] (some (ki r)) τ := kMet.of' [some (kr 0), some (ki x1), some (ki x2), none, none] (by decide) (Nat.le_of_ble_eq_true rfl) ⟨rfl, rfl, rfl, trivial⟩ (fun x C => bd_mm_intoAll C σ x1 x2 h (fun r τ e => by cases e; rfl))
def R0_mm_line : Room := ({ frames := 6, cells := 0, slots := 0, locals := 144 } : Room)
def mm_line (σ : kM) (x1 : Int) (x2 : Int) (x3 : Int) : Option (Int × kM) :=
  klet (kst σ 0 (kup (σ 0) 0 0)) fun σ_1 =>
  (mm_isLine σ_1 x1 x2).bind fun (r_2, σ_3) =>
  if r_2 = 0 then
    some ((0, σ_3))
  else
    (mm_isWhat σ_3 x3 4).bind fun (r_4, σ_5) =>
    if r_4 = 0 then
      some ((0, σ_5))
    else
      if x3 = 0 then
        kchk (0 ≤ (w32 ((w32 (65 + (w32 (6 * x1)))) + x2)) ∧ (w32 ((w32 (65 + (w32 (6 * x1)))) + x2)) < 290) <|
        some ((σ_5 8 (w32 ((w32 (65 + (w32 (6 * x1)))) + x2)).toNat, σ_5))
      else
        if x3 = 1 then
          (mm_depthOf σ_5 0 x1 x2).bind fun r_7 =>
          some ((r_7, σ_5))
        else
          if x3 = 2 then
            (mm_rhymes σ_5 0 x1 x2).bind fun r_9 =>
            if r_9 = 0 then
              some ((0, σ_5))
            else
              some ((1, σ_5))
          else
            if x3 = 3 then
              (mm_fineAll σ_5 x1 x2).bind fun (r_11, σ_12) =>
              some ((r_11, σ_12))
            else
              (mm_intoAll σ_5 x1 x2).bind fun (r_14, σ_15) =>
              some ((r_14, σ_15))
set_option maxHeartbeats 4000000 in
theorem bd_mm_line {x : kX} {l0 : Launch} {Q : State → Prop} (C : kCx x prog_14_method_74_code "PoetFinesModel" (some .int) kcl yM 4 l0 R0_mm_line) (σ : kM) (x1 : Int) (x2 : Int) (x3 : Int) {out : Int × kM} (h : mm_line σ x1 x2 x3 = some out) (hR : ∀ (r : Int) (τ : kM), out = (r, τ) → Q = kQ x (some (ki r)) τ 0 0) : KW x 0 0 Q σ 0 [some (kr 0), some (ki x1), some (ki x2), some (ki x3)] [] := by
  unfold mm_line at h
  refine kw_aload_n C (kdec dc_M_line 0 rfl) rfl 1 rfl rfl ?_
  refine kw_iconst C (kdec dc_M_line 1 rfl) 2 rfl rfl ⟨by decide, by decide⟩ ?_
  obtain ⟨σ_1, eσ_1, h⟩ := klet_h h
  refine kw_putI C (kdec dc_M_line 2 rfl) 5 rfl fp_M_M_99_0 ?_
  refine kw_sig eσ_1 ?_
  refine kw_aload_n C (kdec dc_M_line 3 rfl) rfl 6 rfl rfl ?_
  refine kw_iload_n C (kdec dc_M_line 4 rfl) rfl 7 rfl rfl ?_
  refine kw_iload_n C (kdec dc_M_line 5 rfl) rfl 8 rfl rfl ?_
  obtain ⟨⟨r_2, σ_3⟩, hg_18, h⟩ := kbind_h h
  dsimp only at h
  refine kw_callV (As := [ki x1, ki x2]) C (kdec dc_M_line 6 rfl) 11 rfl cv_M_386 rfl rfl (mt_mm_isLine l0 hg_18) ⟨rfl, rfl⟩ ⟨Nat.le_of_ble_eq_true rfl, Nat.le_of_ble_eq_true rfl⟩ ⟨Nat.zero_le _, Nat.zero_le _⟩ rfl (Nat.le_of_ble_eq_true rfl) ?_
  change KW x 0 0 Q σ_3 11 [some (kr 0), some (ki x1), some (ki x2), some (ki x3)] [ki r_2]
  refine kw_if_eq C (kdec dc_M_line 7 rfl) 23 14 (by decide) rfl (fun hc11 => ?_) (fun hc11 => ?_)
  · rw [if_pos hc11] at h
    refine kw_iconst C (kdec dc_M_line 13 rfl) 24 rfl rfl ⟨by decide, by decide⟩ ?_
    obtain rfl := Option.some.inj h
    exact kw_Q (hR _ _ rfl) (kw_ireturn C (kdec dc_M_line 14 rfl))
  · rw [if_neg hc11] at h
    refine kw_aload_n C (kdec dc_M_line 8 rfl) rfl 15 rfl rfl ?_
    refine kw_iload_n C (kdec dc_M_line 9 rfl) rfl 16 rfl rfl ?_
    refine kw_iconst C (kdec dc_M_line 10 rfl) 17 rfl rfl ⟨by decide, by decide⟩ ?_
    obtain ⟨⟨r_4, σ_5⟩, hg_17, h⟩ := kbind_h h
    dsimp only at h
    refine kw_callV (As := [ki x3, ki 4]) C (kdec dc_M_line 11 rfl) 20 rfl cv_M_376 rfl rfl (mt_mm_isWhat l0 hg_17) ⟨rfl, rfl⟩ ⟨Nat.le_of_ble_eq_true rfl, Nat.le_of_ble_eq_true rfl⟩ ⟨Nat.zero_le _, Nat.zero_le _⟩ rfl (Nat.le_of_ble_eq_true rfl) ?_
    change KW x 0 0 Q σ_5 20 [some (kr 0), some (ki x1), some (ki x2), some (ki x3)] [ki r_4]
    refine kw_if_ne C (kdec dc_M_line 12 rfl) 25 23 (by decide) rfl (fun hc20 => ?_) (fun hc20 => ?_)
    · rw [if_neg hc20] at h
      refine kw_iload_n C (kdec dc_M_line 15 rfl) rfl 26 rfl rfl ?_
      by_cases hc26_0 : x3 = 0
      · rw [if_pos hc26_0] at h
        refine kw_table C (kdec dc_M_line 16 rfl) 56 (Or.inr ⟨by omega, by omega, _, by rw [hc26_0]; rfl, by decide⟩) ?_
        refine kw_aload_n C (kdec dc_M_line 17 rfl) rfl 57 rfl rfl ?_
        refine kw_getR C (kdec dc_M_line 18 rfl) 60 rfl fd_M_M_48_0 ?_
        refine kw_bipush (v := 65) C (kdec dc_M_line 19 rfl) 62 rfl (by decide) ⟨by decide, by decide⟩ ?_
        refine kw_bipush (v := 6) C (kdec dc_M_line 20 rfl) 64 rfl (by decide) ⟨by decide, by decide⟩ ?_
        refine kw_iload_n C (kdec dc_M_line 21 rfl) rfl 65 rfl rfl ?_
        refine kw_imul C (kdec dc_M_line 22 rfl) 66 rfl ?_
        refine kw_iadd C (kdec dc_M_line 23 rfl) 67 rfl ?_
        refine kw_iload_n C (kdec dc_M_line 24 rfl) rfl 68 rfl rfl ?_
        refine kw_iadd C (kdec dc_M_line 25 rfl) 69 rfl ?_
        obtain ⟨hc_6, h⟩ := kchk_h h
        refine kw_iald C (kdec dc_M_line 26 rfl) 70 rfl rfl hc_6.1 hc_6.2 ?_
        obtain rfl := Option.some.inj h
        exact kw_Q (hR _ _ rfl) (kw_ireturn C (kdec dc_M_line 27 rfl))
      · rw [if_neg hc26_0] at h
        by_cases hc26_1 : x3 = 1
        · rw [if_pos hc26_1] at h
          refine kw_table C (kdec dc_M_line 16 rfl) 71 (Or.inr ⟨by omega, by omega, _, by rw [hc26_1]; rfl, by decide⟩) ?_
          refine kw_aload_n C (kdec dc_M_line 28 rfl) rfl 72 rfl rfl ?_
          refine kw_iconst C (kdec dc_M_line 29 rfl) 73 rfl rfl ⟨by decide, by decide⟩ ?_
          refine kw_iload_n C (kdec dc_M_line 30 rfl) rfl 74 rfl rfl ?_
          refine kw_iload_n C (kdec dc_M_line 31 rfl) rfl 75 rfl rfl ?_
          obtain ⟨r_7, hg_8, h⟩ := kbind_h h
          refine kw_callV (As := [ki 0, ki x1, ki x2]) C (kdec dc_M_line 32 rfl) 78 rfl cv_M_323 rfl rfl (mt_mm_depthOf l0 hg_8) ⟨rfl, rfl⟩ ⟨Nat.le_of_ble_eq_true rfl, Nat.le_of_ble_eq_true rfl⟩ ⟨Nat.zero_le _, Nat.zero_le _⟩ rfl (Nat.le_of_ble_eq_true rfl) ?_
          change KW x 0 0 Q σ_5 78 [some (kr 0), some (ki x1), some (ki x2), some (ki x3)] [ki r_7]
          obtain rfl := Option.some.inj h
          exact kw_Q (hR _ _ rfl) (kw_ireturn C (kdec dc_M_line 33 rfl))
        · rw [if_neg hc26_1] at h
          by_cases hc26_2 : x3 = 2
          · rw [if_pos hc26_2] at h
            refine kw_table C (kdec dc_M_line 16 rfl) 79 (Or.inr ⟨by omega, by omega, _, by rw [hc26_2]; rfl, by decide⟩) ?_
            refine kw_aload_n C (kdec dc_M_line 34 rfl) rfl 80 rfl rfl ?_
            refine kw_iconst C (kdec dc_M_line 35 rfl) 81 rfl rfl ⟨by decide, by decide⟩ ?_
            refine kw_iload_n C (kdec dc_M_line 36 rfl) rfl 82 rfl rfl ?_
            refine kw_iload_n C (kdec dc_M_line 37 rfl) rfl 83 rfl rfl ?_
            obtain ⟨r_9, hg_10, h⟩ := kbind_h h
            refine kw_callV (As := [ki 0, ki x1, ki x2]) C (kdec dc_M_line 38 rfl) 86 rfl cv_M_316 rfl rfl (mt_mm_rhymes l0 hg_10) ⟨rfl, rfl⟩ ⟨Nat.le_of_ble_eq_true rfl, Nat.le_of_ble_eq_true rfl⟩ ⟨Nat.zero_le _, Nat.zero_le _⟩ rfl (Nat.le_of_ble_eq_true rfl) ?_
            change KW x 0 0 Q σ_5 86 [some (kr 0), some (ki x1), some (ki x2), some (ki x3)] [ki r_9]
            refine kw_if_eq C (kdec dc_M_line 39 rfl) 93 89 (by decide) rfl (fun hc86 => ?_) (fun hc86 => ?_)
            · rw [if_pos hc86] at h
              refine kw_iconst C (kdec dc_M_line 42 rfl) 94 rfl rfl ⟨by decide, by decide⟩ ?_
              obtain rfl := Option.some.inj h
              exact kw_Q (hR _ _ rfl) (kw_ireturn C (kdec dc_M_line 43 rfl))
            · rw [if_neg hc86] at h
              refine kw_iconst C (kdec dc_M_line 40 rfl) 90 rfl rfl ⟨by decide, by decide⟩ ?_
              refine kw_goto C (kdec dc_M_line 41 rfl) 94 (by decide) ?_
              obtain rfl := Option.some.inj h
              exact kw_Q (hR _ _ rfl) (kw_ireturn C (kdec dc_M_line 43 rfl))
          · rw [if_neg hc26_2] at h
            by_cases hc26_3 : x3 = 3
            · rw [if_pos hc26_3] at h
              refine kw_table C (kdec dc_M_line 16 rfl) 95 (Or.inr ⟨by omega, by omega, _, by rw [hc26_3]; rfl, by decide⟩) ?_
              refine kw_aload_n C (kdec dc_M_line 44 rfl) rfl 96 rfl rfl ?_
              refine kw_iload_n C (kdec dc_M_line 45 rfl) rfl 97 rfl rfl ?_
              refine kw_iload_n C (kdec dc_M_line 46 rfl) rfl 98 rfl rfl ?_
              obtain ⟨⟨r_11, σ_12⟩, hg_13, h⟩ := kbind_h h
              dsimp only at h
              refine kw_callV (As := [ki x1, ki x2]) C (kdec dc_M_line 47 rfl) 101 rfl cv_M_389 rfl rfl (mt_mm_fineAll l0 hg_13) ⟨rfl, rfl⟩ ⟨Nat.le_of_ble_eq_true rfl, Nat.le_of_ble_eq_true rfl⟩ ⟨Nat.zero_le _, Nat.zero_le _⟩ rfl (Nat.le_of_ble_eq_true rfl) ?_
              change KW x 0 0 Q σ_12 101 [some (kr 0), some (ki x1), some (ki x2), some (ki x3)] [ki r_11]
              obtain rfl := Option.some.inj h
              exact kw_Q (hR _ _ rfl) (kw_ireturn C (kdec dc_M_line 48 rfl))
            · rw [if_neg hc26_3] at h
              refine kw_table C (kdec dc_M_line 16 rfl) 102 (Or.inl ⟨by omega, by decide⟩) ?_
              refine kw_aload_n C (kdec dc_M_line 49 rfl) rfl 103 rfl rfl ?_
              refine kw_iload_n C (kdec dc_M_line 50 rfl) rfl 104 rfl rfl ?_
              refine kw_iload_n C (kdec dc_M_line 51 rfl) rfl 105 rfl rfl ?_
              obtain ⟨⟨r_14, σ_15⟩, hg_16, h⟩ := kbind_h h
              dsimp only at h
              refine kw_callV (As := [ki x1, ki x2]) C (kdec dc_M_line 52 rfl) 108 rfl cv_M_392 rfl rfl (mt_mm_intoAll l0 hg_16) ⟨rfl, rfl⟩ ⟨Nat.le_of_ble_eq_true rfl, Nat.le_of_ble_eq_true rfl⟩ ⟨Nat.zero_le _, Nat.zero_le _⟩ rfl (Nat.le_of_ble_eq_true rfl) ?_
              change KW x 0 0 Q σ_15 108 [some (kr 0), some (ki x1), some (ki x2), some (ki x3)] [ki r_14]
              obtain rfl := Option.some.inj h
              exact kw_Q (hR _ _ rfl) (kw_ireturn C (kdec dc_M_line 53 rfl))
    · rw [if_pos hc20] at h
      refine kw_iconst C (kdec dc_M_line 13 rfl) 24 rfl rfl ⟨by decide, by decide⟩ ?_
      obtain rfl := Option.some.inj h
      exact kw_Q (hR _ _ rfl) (kw_ireturn C (kdec dc_M_line 14 rfl))
theorem mt_mm_line (l0 : Launch) {σ : kM} {x1 : Int} {x2 : Int} {x3 : Int} {r : Int} {τ : kM} (h : mm_line σ x1 x2 x3 = some (r, τ)) : kMet l0 ky_M_line prog_14_method_74_code 4 (some .int) R0_mm_line kcl yM σ [kr 0, ki x1, ki x2, ki x3] (some (ki r)) τ := kMet.of' [some (kr 0), some (ki x1), some (ki x2), some (ki x3)] (by decide) (Nat.le_of_ble_eq_true rfl) ⟨rfl, rfl, rfl, rfl, trivial⟩ (fun x C => bd_mm_line C σ x1 x2 x3 h (fun r τ e => by cases e; rfl))
def R0_mm_years : Room := ({ frames := 6, cells := 0, slots := 0, locals := 146 } : Room)
def mm_years_j29 (σ : kM) : Option (Int × kM) :=
  (mm_refuses σ 1).bind fun (r_3, σ_4) =>
  some ((r_3, σ_4))
set_option maxHeartbeats 4000000 in
theorem bd_mm_years_j29 {x : kX} {l0 : Launch} {Q : State → Prop} (C : kCx x prog_14_method_75_code "PoetFinesModel" (some .int) kcl yM 3 l0 R0_mm_years) (σ : kM) {out : Int × kM} (h : mm_years_j29 σ = some out) (hR : ∀ (r : Int) (τ : kM), out = (r, τ) → Q = kQ x (some (ki r)) τ 0 0) : KW x 0 0 Q σ 29 [some (kr 0), none, none] [] := by
  unfold mm_years_j29 at h
  refine kw_aload_n C (kdec dc_M_years 16 rfl) rfl 30 rfl rfl ?_
  refine kw_iconst C (kdec dc_M_years 17 rfl) 31 rfl rfl ⟨by decide, by decide⟩ ?_
  obtain ⟨⟨r_3, σ_4⟩, hg_5, h⟩ := kbind_h h
  dsimp only at h
  refine kw_callV (As := [ki 1]) C (kdec dc_M_years 18 rfl) 34 rfl cv_M_395 rfl rfl (mt_mm_refuses l0 hg_5) ⟨rfl, rfl⟩ ⟨Nat.le_of_ble_eq_true rfl, Nat.le_of_ble_eq_true rfl⟩ ⟨Nat.zero_le _, Nat.zero_le _⟩ rfl (Nat.le_of_ble_eq_true rfl) ?_
  change KW x 0 0 Q σ_4 34 [some (kr 0), none, none] [ki r_3]
  obtain rfl := Option.some.inj h
  exact kw_Q (hR _ _ rfl) (kw_ireturn C (kdec dc_M_years 19 rfl))
def mm_years_l41 (σ : kM) (x1 : Int) (x2 : Int) : Option ((kM × Int) ⊕ ((kM))) :=
  if x1 ≤ x2 then
    some (Sum.inr σ)
  else
    (mm_yearGoes σ 0).bind fun σ_7 =>
    klet (w32 (x2 + 1)) fun x2_8 =>
    some (Sum.inl (σ_7, x2_8))
set_option maxHeartbeats 4000000 in
theorem bd_mm_years_l41 {x : kX} {l0 : Launch} {Q : State → Prop} (C : kCx x prog_14_method_75_code "PoetFinesModel" (some .int) kcl yM 3 l0 R0_mm_years) (σ : kM) (x1 : Int) (x2 : Int) {out : (kM × Int) ⊕ ((kM))} (h : mm_years_l41 σ x1 x2 = some out) (hC : ∀ (σ' : kM) (x2' : Int), out = Sum.inl (σ', x2') → KW x 0 0 Q σ' 41 [some (kr 0), some (ki x1), some (ki x2')] []) (hX57 : ∀ (σ' : kM), out = Sum.inr σ' → KW x 0 0 Q σ' 57 [some (kr 0), none, none] []) : KW x 0 0 Q σ 41 [some (kr 0), some (ki x1), some (ki x2)] [] := by
  unfold mm_years_l41 at h
  refine kw_iload_n C (kdec dc_M_years 24 rfl) rfl 42 rfl rfl ?_
  refine kw_iload_n C (kdec dc_M_years 25 rfl) rfl 43 rfl rfl ?_
  refine kw_icmp_ge C (kdec dc_M_years 26 rfl) 57 46 (by decide) rfl (fun hc43 => ?_) (fun hc43 => ?_)
  · rw [if_pos hc43] at h
    obtain rfl := Option.some.inj h
    exact kw_sub (L' := [some (kr 0), none, none]) ⟨rfl, trivial⟩ (hX57 _ rfl)
  · rw [if_neg hc43] at h
    refine kw_aload_n C (kdec dc_M_years 27 rfl) rfl 47 rfl rfl ?_
    refine kw_iconst C (kdec dc_M_years 28 rfl) 48 rfl rfl ⟨by decide, by decide⟩ ?_
    obtain ⟨σ_7, hg_9, h⟩ := kbind_h h
    refine kw_callV (As := [ki 0]) C (kdec dc_M_years 29 rfl) 51 rfl cv_M_352 rfl rfl (mt_mm_yearGoes l0 hg_9) ⟨rfl, rfl⟩ ⟨Nat.le_of_ble_eq_true rfl, Nat.le_of_ble_eq_true rfl⟩ ⟨Nat.zero_le _, Nat.zero_le _⟩ rfl (Nat.le_of_ble_eq_true rfl) ?_
    change KW x 0 0 Q σ_7 51 [some (kr 0), some (ki x1), some (ki x2)] []
    obtain ⟨x2_8, ex2_8, h⟩ := klet_h h
    refine kw_iinc (L' := [some (kr 0), some (ki x1), some (ki x2_8)]) C (kdec dc_M_years 30 rfl) 54 rfl rfl (by decide) rfl (by rw [ex2_8]; rfl) ?_
    refine kw_goto C (kdec dc_M_years 31 rfl) 41 (by decide) ?_
    obtain rfl := Option.some.inj h
    exact (hC _ _ rfl)
theorem lp_mm_years_l41 {x : kX} {l0 : Launch} {Q : State → Prop} (C : kCx x prog_14_method_75_code "PoetFinesModel" (some .int) kcl yM 3 l0 R0_mm_years) (x1 : Int) {ex : (kM)} (hX57 : ∀ (σ' : kM), ex = σ' → KW x 0 0 Q σ' 57 [some (kr 0), none, none] []) (n : Nat) (σ : kM) (x2 : Int) (h : kloop (fun st => mm_years_l41 st.1 x1 st.2) n (σ, x2) = some ex) : KW x 0 0 Q σ 41 [some (kr 0), some (ki x1), some (ki x2)] [] :=
  kloop_ind (P := (fun st : kM × Int => KW x 0 0 Q st.1 41 [some (kr 0), some (ki x1), some (ki (st.2))] [])) (fun st out hb hc hx => bd_mm_years_l41 C st.1 x1 st.2 hb (fun a0 a1 e => hc _ e) (fun a0 e => hX57 _ ((hx _ e).symm))) n (σ, x2) h
def mm_years (σ : kM) (x1 : Int) : Option (Int × kM) :=
  klet (kst σ 0 (kup (σ 0) 0 0)) fun σ_1 =>
  (mm_within σ_1 x1 1 20).bind fun r_2 =>
  if r_2 = 0 then
    mm_years_j29 σ_1
  else
    if (w32 ((σ_1 8 (0 : Int).toNat) + x1)) ≤ 9999 then
      (mm_keeps σ_1).bind fun σ_6 =>
      (kloop (fun st => mm_years_l41 st.1 x1 st.2) kFuel (σ_6, 0)).bind fun σ_12 =>
      some ((σ_12 8 (0 : Int).toNat, σ_12))
    else
      mm_years_j29 σ_1
set_option maxHeartbeats 4000000 in
theorem bd_mm_years {x : kX} {l0 : Launch} {Q : State → Prop} (C : kCx x prog_14_method_75_code "PoetFinesModel" (some .int) kcl yM 3 l0 R0_mm_years) (σ : kM) (x1 : Int) {out : Int × kM} (h : mm_years σ x1 = some out) (hR : ∀ (r : Int) (τ : kM), out = (r, τ) → Q = kQ x (some (ki r)) τ 0 0) : KW x 0 0 Q σ 0 [some (kr 0), some (ki x1), none] [] := by
  unfold mm_years at h
  refine kw_aload_n C (kdec dc_M_years 0 rfl) rfl 1 rfl rfl ?_
  refine kw_iconst C (kdec dc_M_years 1 rfl) 2 rfl rfl ⟨by decide, by decide⟩ ?_
  obtain ⟨σ_1, eσ_1, h⟩ := klet_h h
  refine kw_putI C (kdec dc_M_years 2 rfl) 5 rfl fp_M_M_99_0 ?_
  refine kw_sig eσ_1 ?_
  refine kw_iload_n C (kdec dc_M_years 3 rfl) rfl 6 rfl rfl ?_
  refine kw_iconst C (kdec dc_M_years 4 rfl) 7 rfl rfl ⟨by decide, by decide⟩ ?_
  refine kw_bipush (v := 20) C (kdec dc_M_years 5 rfl) 9 rfl (by decide) ⟨by decide, by decide⟩ ?_
  obtain ⟨r_2, hg_14, h⟩ := kbind_h h
  refine kw_callS (As := [ki x1, ki 1, ki 20]) C (kdec dc_M_years 6 rfl) 12 rfl cs_M_355 (mt_mm_within l0 hg_14) ⟨rfl, rfl⟩ ⟨Nat.le_of_ble_eq_true rfl, Nat.le_of_ble_eq_true rfl⟩ ⟨Nat.zero_le _, Nat.zero_le _⟩ rfl (Nat.le_of_ble_eq_true rfl) ?_
  change KW x 0 0 Q σ_1 12 [some (kr 0), some (ki x1), none] [ki r_2]
  refine kw_if_eq C (kdec dc_M_years 7 rfl) 29 15 (by decide) rfl (fun hc12 => ?_) (fun hc12 => ?_)
  · rw [if_pos hc12] at h
    exact kw_sub (L' := [some (kr 0), none, none]) ⟨rfl, trivial⟩ (bd_mm_years_j29 C σ_1 h hR)
  · rw [if_neg hc12] at h
    refine kw_aload_n C (kdec dc_M_years 8 rfl) rfl 16 rfl rfl ?_
    refine kw_getR C (kdec dc_M_years 9 rfl) 19 rfl fd_M_M_48_0 ?_
    refine kw_iconst C (kdec dc_M_years 10 rfl) 20 rfl rfl ⟨by decide, by decide⟩ ?_
    refine kw_iald C (kdec dc_M_years 11 rfl) 21 rfl rfl (by decide) (by decide) ?_
    refine kw_iload_n C (kdec dc_M_years 12 rfl) rfl 22 rfl rfl ?_
    refine kw_iadd C (kdec dc_M_years 13 rfl) 23 rfl ?_
    refine kw_sipush (v := 9999) C (kdec dc_M_years 14 rfl) 26 rfl (by decide) ⟨by decide, by decide⟩ ?_
    refine kw_icmp_le C (kdec dc_M_years 15 rfl) 35 29 (by decide) rfl (fun hc26 => ?_) (fun hc26 => ?_)
    · rw [if_pos hc26] at h
      refine kw_aload_n C (kdec dc_M_years 20 rfl) rfl 36 rfl rfl ?_
      obtain ⟨σ_6, hg_13, h⟩ := kbind_h h
      refine kw_callV (As := []) C (kdec dc_M_years 21 rfl) 39 rfl cv_M_398 rfl rfl (mt_mm_keeps l0 hg_13) ⟨rfl, rfl⟩ ⟨Nat.le_of_ble_eq_true rfl, Nat.le_of_ble_eq_true rfl⟩ ⟨Nat.zero_le _, Nat.zero_le _⟩ rfl (Nat.le_of_ble_eq_true rfl) ?_
      change KW x 0 0 Q σ_6 39 [some (kr 0), some (ki x1), none] []
      refine kw_iconst C (kdec dc_M_years 22 rfl) 40 rfl rfl ⟨by decide, by decide⟩ ?_
      refine kw_istore_n (L' := [some (kr 0), some (ki x1), some (ki 0)]) C (kdec dc_M_years 23 rfl) rfl 41 rfl (by decide) rfl rfl ?_
      obtain ⟨ex_10, hl_11, h⟩ := kbind_h h
      refine lp_mm_years_l41 C x1 ?_ kFuel σ_6 0 hl_11
      · intro σ_12 e
        subst ex_10
        try dsimp only at h
        refine kw_aload_n C (kdec dc_M_years 32 rfl) rfl 58 rfl rfl ?_
        refine kw_getR C (kdec dc_M_years 33 rfl) 61 rfl fd_M_M_48_0 ?_
        refine kw_iconst C (kdec dc_M_years 34 rfl) 62 rfl rfl ⟨by decide, by decide⟩ ?_
        refine kw_iald C (kdec dc_M_years 35 rfl) 63 rfl rfl (by decide) (by decide) ?_
        obtain rfl := Option.some.inj h
        exact kw_Q (hR _ _ rfl) (kw_ireturn C (kdec dc_M_years 36 rfl))
    · rw [if_neg hc26] at h
      exact kw_sub (L' := [some (kr 0), none, none]) ⟨rfl, trivial⟩ (bd_mm_years_j29 C σ_1 h hR)
theorem mt_mm_years (l0 : Launch) {σ : kM} {x1 : Int} {r : Int} {τ : kM} (h : mm_years σ x1 = some (r, τ)) : kMet l0 ky_M_years prog_14_method_75_code 3 (some .int) R0_mm_years kcl yM σ [kr 0, ki x1] (some (ki r)) τ := kMet.of' [some (kr 0), some (ki x1), none] (by decide) (Nat.le_of_ble_eq_true rfl) ⟨rfl, rfl, trivial⟩ (fun x C => bd_mm_years C σ x1 h (fun r τ e => by cases e; rfl))
def R0_mm_burns : Room := ({ frames := 0, cells := 0, slots := 0, locals := 0 } : Room)
def mm_burns (σ : kM) (x1 : Int) (x2 : Int) : Option (kM) :=
  kchk (0 ≤ (w32 ((w32 (x1 + 21)) + x2)) ∧ (w32 ((w32 (x1 + 21)) + x2)) < 290) <|
  kchk (0 ≤ (w32 ((w32 (x1 + 61)) + x2)) ∧ (w32 ((w32 (x1 + 61)) + x2)) < 290) <|
  kchk (¬ (σ 8 (w32 ((w32 (x1 + 61)) + x2)).toNat) = 0) <|
  kchk (0 ≤ (w32 ((w32 (x1 + 21)) + x2)) ∧ (w32 ((w32 (x1 + 21)) + x2)) < 290) <|
  klet (kst σ 8 (kup (σ 8) ((w32 ((w32 (x1 + 21)) + x2)).toNat) (krem (w32 ((σ 8 (w32 ((w32 (x1 + 21)) + x2)).toNat) + 1)) (σ 8 (w32 ((w32 (x1 + 61)) + x2)).toNat)))) fun σ_5 =>
  some σ_5
set_option maxHeartbeats 4000000 in
theorem bd_mm_burns {x : kX} {l0 : Launch} {Q : State → Prop} (C : kCx x prog_14_method_76_code "PoetFinesModel" none kcl yM 3 l0 R0_mm_burns) (σ : kM) (x1 : Int) (x2 : Int) {out : kM} (h : mm_burns σ x1 x2 = some out) (hR : ∀ (τ : kM), out = τ → Q = kQ x none τ 0 0) : KW x 0 0 Q σ 0 [some (kr 0), some (ki x1), some (ki x2)] [] := by
  unfold mm_burns at h
  refine kw_aload_n C (kdec dc_M_burns 0 rfl) rfl 1 rfl rfl ?_
  refine kw_getR C (kdec dc_M_burns 1 rfl) 4 rfl fd_M_M_48_0 ?_
  refine kw_iload_n C (kdec dc_M_burns 2 rfl) rfl 5 rfl rfl ?_
  refine kw_bipush (v := 21) C (kdec dc_M_burns 3 rfl) 7 rfl (by decide) ⟨by decide, by decide⟩ ?_
  refine kw_iadd C (kdec dc_M_burns 4 rfl) 8 rfl ?_
  refine kw_iload_n C (kdec dc_M_burns 5 rfl) rfl 9 rfl rfl ?_
  refine kw_iadd C (kdec dc_M_burns 6 rfl) 10 rfl ?_
  refine kw_aload_n C (kdec dc_M_burns 7 rfl) rfl 11 rfl rfl ?_
  refine kw_getR C (kdec dc_M_burns 8 rfl) 14 rfl fd_M_M_48_0 ?_
  refine kw_iload_n C (kdec dc_M_burns 9 rfl) rfl 15 rfl rfl ?_
  refine kw_bipush (v := 21) C (kdec dc_M_burns 10 rfl) 17 rfl (by decide) ⟨by decide, by decide⟩ ?_
  refine kw_iadd C (kdec dc_M_burns 11 rfl) 18 rfl ?_
  refine kw_iload_n C (kdec dc_M_burns 12 rfl) rfl 19 rfl rfl ?_
  refine kw_iadd C (kdec dc_M_burns 13 rfl) 20 rfl ?_
  obtain ⟨hc_1, h⟩ := kchk_h h
  refine kw_iald C (kdec dc_M_burns 14 rfl) 21 rfl rfl hc_1.1 hc_1.2 ?_
  refine kw_iconst C (kdec dc_M_burns 15 rfl) 22 rfl rfl ⟨by decide, by decide⟩ ?_
  refine kw_iadd C (kdec dc_M_burns 16 rfl) 23 rfl ?_
  refine kw_aload_n C (kdec dc_M_burns 17 rfl) rfl 24 rfl rfl ?_
  refine kw_getR C (kdec dc_M_burns 18 rfl) 27 rfl fd_M_M_48_0 ?_
  refine kw_iload_n C (kdec dc_M_burns 19 rfl) rfl 28 rfl rfl ?_
  refine kw_bipush (v := 61) C (kdec dc_M_burns 20 rfl) 30 rfl (by decide) ⟨by decide, by decide⟩ ?_
  refine kw_iadd C (kdec dc_M_burns 21 rfl) 31 rfl ?_
  refine kw_iload_n C (kdec dc_M_burns 22 rfl) rfl 32 rfl rfl ?_
  refine kw_iadd C (kdec dc_M_burns 23 rfl) 33 rfl ?_
  obtain ⟨hc_2, h⟩ := kchk_h h
  refine kw_iald C (kdec dc_M_burns 24 rfl) 34 rfl rfl hc_2.1 hc_2.2 ?_
  obtain ⟨hc_3, h⟩ := kchk_h h
  refine kw_irem C (kdec dc_M_burns 25 rfl) 35 rfl hc_3 ?_
  obtain ⟨hc_4, h⟩ := kchk_h h
  obtain ⟨σ_5, eσ_5, h⟩ := klet_h h
  refine kw_iast C (kdec dc_M_burns 26 rfl) 36 rfl rfl hc_4.1 hc_4.2 ?_
  refine kw_sig eσ_5 ?_
  obtain rfl := Option.some.inj h
  exact kw_Q (hR _ rfl) (kw_return C (kdec dc_M_burns 27 rfl))
theorem mt_mm_burns (l0 : Launch) {σ : kM} {x1 : Int} {x2 : Int} {τ : kM} (h : mm_burns σ x1 x2 = some τ) : kMet l0 ky_M_burns prog_14_method_76_code 3 none R0_mm_burns kcl yM σ [kr 0, ki x1, ki x2] none τ := kMet.of' [some (kr 0), some (ki x1), some (ki x2)] (by decide) (Nat.le_of_ble_eq_true rfl) ⟨rfl, rfl, rfl, trivial⟩ (fun x C => bd_mm_burns C σ x1 x2 h (fun τ e => by subst e; rfl))
def R0_mm_burn : Room := ({ frames := 2, cells := 0, slots := 0, locals := 43 } : Room)
def mm_burn (σ : kM) (x1 : Int) : Option (Int × kM) :=
  klet (kst σ 0 (kup (σ 0) 0 0)) fun σ_1 =>
  (mm_isPoet σ_1 x1).bind fun (r_2, σ_3) =>
  if r_2 = 0 then
    some ((0, σ_3))
  else
    kchk (0 ≤ (w32 (61 + x1)) ∧ (w32 (61 + x1)) < 290) <|
    if (σ_3 8 (w32 (61 + x1)).toNat) = 1 then
      (mm_refuses σ_3 1).bind fun (r_11, σ_12) =>
      some ((r_11, σ_12))
    else
      kchk (0 ≤ (w32 (21 + x1)) ∧ (w32 (21 + x1)) < 290) <|
      klet (σ_3 8 (w32 (21 + x1)).toNat) fun x2_6 =>
      (mm_keeps σ_3).bind fun σ_7 =>
      (mm_burns σ_7 0 x1).bind fun σ_8 =>
      some ((x2_6, σ_8))
set_option maxHeartbeats 4000000 in
theorem bd_mm_burn {x : kX} {l0 : Launch} {Q : State → Prop} (C : kCx x prog_14_method_77_code "PoetFinesModel" (some .int) kcl yM 3 l0 R0_mm_burn) (σ : kM) (x1 : Int) {out : Int × kM} (h : mm_burn σ x1 = some out) (hR : ∀ (r : Int) (τ : kM), out = (r, τ) → Q = kQ x (some (ki r)) τ 0 0) : KW x 0 0 Q σ 0 [some (kr 0), some (ki x1), none] [] := by
  unfold mm_burn at h
  refine kw_aload_n C (kdec dc_M_burn 0 rfl) rfl 1 rfl rfl ?_
  refine kw_iconst C (kdec dc_M_burn 1 rfl) 2 rfl rfl ⟨by decide, by decide⟩ ?_
  obtain ⟨σ_1, eσ_1, h⟩ := klet_h h
  refine kw_putI C (kdec dc_M_burn 2 rfl) 5 rfl fp_M_M_99_0 ?_
  refine kw_sig eσ_1 ?_
  refine kw_aload_n C (kdec dc_M_burn 3 rfl) rfl 6 rfl rfl ?_
  refine kw_iload_n C (kdec dc_M_burn 4 rfl) rfl 7 rfl rfl ?_
  obtain ⟨⟨r_2, σ_3⟩, hg_14, h⟩ := kbind_h h
  dsimp only at h
  refine kw_callV (As := [ki x1]) C (kdec dc_M_burn 5 rfl) 10 rfl cv_M_367 rfl rfl (mt_mm_isPoet l0 hg_14) ⟨rfl, rfl⟩ ⟨Nat.le_of_ble_eq_true rfl, Nat.le_of_ble_eq_true rfl⟩ ⟨Nat.zero_le _, Nat.zero_le _⟩ rfl (Nat.le_of_ble_eq_true rfl) ?_
  change KW x 0 0 Q σ_3 10 [some (kr 0), some (ki x1), none] [ki r_2]
  refine kw_if_ne C (kdec dc_M_burn 6 rfl) 15 13 (by decide) rfl (fun hc10 => ?_) (fun hc10 => ?_)
  · rw [if_neg hc10] at h
    refine kw_aload_n C (kdec dc_M_burn 9 rfl) rfl 16 rfl rfl ?_
    refine kw_getR C (kdec dc_M_burn 10 rfl) 19 rfl fd_M_M_48_0 ?_
    refine kw_bipush (v := 61) C (kdec dc_M_burn 11 rfl) 21 rfl (by decide) ⟨by decide, by decide⟩ ?_
    refine kw_iload_n C (kdec dc_M_burn 12 rfl) rfl 22 rfl rfl ?_
    refine kw_iadd C (kdec dc_M_burn 13 rfl) 23 rfl ?_
    obtain ⟨hc_4, h⟩ := kchk_h h
    refine kw_iald C (kdec dc_M_burn 14 rfl) 24 rfl rfl hc_4.1 hc_4.2 ?_
    refine kw_iconst C (kdec dc_M_burn 15 rfl) 25 rfl rfl ⟨by decide, by decide⟩ ?_
    refine kw_icmp_ne C (kdec dc_M_burn 16 rfl) 34 28 (by decide) rfl (fun hc25 => ?_) (fun hc25 => ?_)
    · rw [if_neg hc25] at h
      refine kw_aload_n C (kdec dc_M_burn 21 rfl) rfl 35 rfl rfl ?_
      refine kw_getR C (kdec dc_M_burn 22 rfl) 38 rfl fd_M_M_48_0 ?_
      refine kw_bipush (v := 21) C (kdec dc_M_burn 23 rfl) 40 rfl (by decide) ⟨by decide, by decide⟩ ?_
      refine kw_iload_n C (kdec dc_M_burn 24 rfl) rfl 41 rfl rfl ?_
      refine kw_iadd C (kdec dc_M_burn 25 rfl) 42 rfl ?_
      obtain ⟨hc_5, h⟩ := kchk_h h
      refine kw_iald C (kdec dc_M_burn 26 rfl) 43 rfl rfl hc_5.1 hc_5.2 ?_
      obtain ⟨x2_6, ex2_6, h⟩ := klet_h h
      refine kw_top ex2_6 ?_
      refine kw_istore_n (L' := [some (kr 0), some (ki x1), some (ki x2_6)]) C (kdec dc_M_burn 27 rfl) rfl 44 rfl (by decide) rfl rfl ?_
      refine kw_aload_n C (kdec dc_M_burn 28 rfl) rfl 45 rfl rfl ?_
      obtain ⟨σ_7, hg_10, h⟩ := kbind_h h
      refine kw_callV (As := []) C (kdec dc_M_burn 29 rfl) 48 rfl cv_M_398 rfl rfl (mt_mm_keeps l0 hg_10) ⟨rfl, rfl⟩ ⟨Nat.le_of_ble_eq_true rfl, Nat.le_of_ble_eq_true rfl⟩ ⟨Nat.zero_le _, Nat.zero_le _⟩ rfl (Nat.le_of_ble_eq_true rfl) ?_
      change KW x 0 0 Q σ_7 48 [some (kr 0), some (ki x1), some (ki x2_6)] []
      refine kw_aload_n C (kdec dc_M_burn 30 rfl) rfl 49 rfl rfl ?_
      refine kw_iconst C (kdec dc_M_burn 31 rfl) 50 rfl rfl ⟨by decide, by decide⟩ ?_
      refine kw_iload_n C (kdec dc_M_burn 32 rfl) rfl 51 rfl rfl ?_
      obtain ⟨σ_8, hg_9, h⟩ := kbind_h h
      refine kw_callV (As := [ki 0, ki x1]) C (kdec dc_M_burn 33 rfl) 54 rfl cv_M_401 rfl rfl (mt_mm_burns l0 hg_9) ⟨rfl, rfl⟩ ⟨Nat.le_of_ble_eq_true rfl, Nat.le_of_ble_eq_true rfl⟩ ⟨Nat.zero_le _, Nat.zero_le _⟩ rfl (Nat.le_of_ble_eq_true rfl) ?_
      change KW x 0 0 Q σ_8 54 [some (kr 0), some (ki x1), some (ki x2_6)] []
      refine kw_iload_n C (kdec dc_M_burn 34 rfl) rfl 55 rfl rfl ?_
      obtain rfl := Option.some.inj h
      exact kw_Q (hR _ _ rfl) (kw_ireturn C (kdec dc_M_burn 35 rfl))
    · rw [if_pos hc25] at h
      refine kw_aload_n C (kdec dc_M_burn 17 rfl) rfl 29 rfl rfl ?_
      refine kw_iconst C (kdec dc_M_burn 18 rfl) 30 rfl rfl ⟨by decide, by decide⟩ ?_
      obtain ⟨⟨r_11, σ_12⟩, hg_13, h⟩ := kbind_h h
      dsimp only at h
      refine kw_callV (As := [ki 1]) C (kdec dc_M_burn 19 rfl) 33 rfl cv_M_395 rfl rfl (mt_mm_refuses l0 hg_13) ⟨rfl, rfl⟩ ⟨Nat.le_of_ble_eq_true rfl, Nat.le_of_ble_eq_true rfl⟩ ⟨Nat.zero_le _, Nat.zero_le _⟩ rfl (Nat.le_of_ble_eq_true rfl) ?_
      change KW x 0 0 Q σ_12 33 [some (kr 0), some (ki x1), none] [ki r_11]
      obtain rfl := Option.some.inj h
      exact kw_Q (hR _ _ rfl) (kw_ireturn C (kdec dc_M_burn 20 rfl))
  · rw [if_pos hc10] at h
    refine kw_iconst C (kdec dc_M_burn 7 rfl) 14 rfl rfl ⟨by decide, by decide⟩ ?_
    obtain rfl := Option.some.inj h
    exact kw_Q (hR _ _ rfl) (kw_ireturn C (kdec dc_M_burn 8 rfl))
theorem mt_mm_burn (l0 : Launch) {σ : kM} {x1 : Int} {r : Int} {τ : kM} (h : mm_burn σ x1 = some (r, τ)) : kMet l0 ky_M_burn prog_14_method_77_code 3 (some .int) R0_mm_burn kcl yM σ [kr 0, ki x1] (some (ki r)) τ := kMet.of' [some (kr 0), some (ki x1), none] (by decide) (Nat.le_of_ble_eq_true rfl) ⟨rfl, rfl, trivial⟩ (fun x C => bd_mm_burn C σ x1 h (fun r τ e => by cases e; rfl))
def R0_mm_changes : Room := ({ frames := 1, cells := 0, slots := 0, locals := 22 } : Room)
def mm_changes_j23 (σ : kM) : Option (Int × kM) :=
  (mm_refuses σ 1).bind fun (r_4, σ_5) =>
  some ((r_4, σ_5))
set_option maxHeartbeats 4000000 in
theorem bd_mm_changes_j23 {x : kX} {l0 : Launch} {Q : State → Prop} (C : kCx x prog_14_method_78_code "PoetFinesModel" (some .int) kcl yM 5 l0 R0_mm_changes) (σ : kM) {out : Int × kM} (h : mm_changes_j23 σ = some out) (hR : ∀ (r : Int) (τ : kM), out = (r, τ) → Q = kQ x (some (ki r)) τ 0 0) : KW x 0 0 Q σ 23 [some (kr 0), none, none, none, none] [] := by
  unfold mm_changes_j23 at h
  refine kw_aload_n C (kdec dc_M_changes 13 rfl) rfl 24 rfl rfl ?_
  refine kw_iconst C (kdec dc_M_changes 14 rfl) 25 rfl rfl ⟨by decide, by decide⟩ ?_
  obtain ⟨⟨r_4, σ_5⟩, hg_6, h⟩ := kbind_h h
  dsimp only at h
  refine kw_callV (As := [ki 1]) C (kdec dc_M_changes 15 rfl) 28 rfl cv_M_395 rfl rfl (mt_mm_refuses l0 hg_6) ⟨rfl, rfl⟩ ⟨Nat.le_of_ble_eq_true rfl, Nat.le_of_ble_eq_true rfl⟩ ⟨Nat.zero_le _, Nat.zero_le _⟩ rfl (Nat.le_of_ble_eq_true rfl) ?_
  change KW x 0 0 Q σ_5 28 [some (kr 0), none, none, none, none] [ki r_4]
  obtain rfl := Option.some.inj h
  exact kw_Q (hR _ _ rfl) (kw_ireturn C (kdec dc_M_changes 16 rfl))
def mm_changes (σ : kM) (x1 : Int) (x2 : Int) (x3 : Int) : Option (Int × kM) :=
  kchk (0 ≤ x1 ∧ x1 < 290) <|
  klet (σ 8 x1.toNat) fun x4_2 =>
  (mm_within σ x2 0 x3).bind fun r_3 =>
  if r_3 = 0 then
    mm_changes_j23 σ
  else
    if x4_2 = x2 then
      mm_changes_j23 σ
    else
      (mm_keeps σ).bind fun σ_7 =>
      kchk (0 ≤ x1 ∧ x1 < 290) <|
      klet (kst σ_7 8 (kup (σ_7 8) x1.toNat x2)) fun σ_9 =>
      some ((x4_2, σ_9))
set_option maxHeartbeats 4000000 in
theorem bd_mm_changes {x : kX} {l0 : Launch} {Q : State → Prop} (C : kCx x prog_14_method_78_code "PoetFinesModel" (some .int) kcl yM 5 l0 R0_mm_changes) (σ : kM) (x1 : Int) (x2 : Int) (x3 : Int) {out : Int × kM} (h : mm_changes σ x1 x2 x3 = some out) (hR : ∀ (r : Int) (τ : kM), out = (r, τ) → Q = kQ x (some (ki r)) τ 0 0) : KW x 0 0 Q σ 0 [some (kr 0), some (ki x1), some (ki x2), some (ki x3), none] [] := by
  unfold mm_changes at h
  refine kw_aload_n C (kdec dc_M_changes 0 rfl) rfl 1 rfl rfl ?_
  refine kw_getR C (kdec dc_M_changes 1 rfl) 4 rfl fd_M_M_48_0 ?_
  refine kw_iload_n C (kdec dc_M_changes 2 rfl) rfl 5 rfl rfl ?_
  obtain ⟨hc_1, h⟩ := kchk_h h
  refine kw_iald C (kdec dc_M_changes 3 rfl) 6 rfl rfl hc_1.1 hc_1.2 ?_
  obtain ⟨x4_2, ex4_2, h⟩ := klet_h h
  refine kw_top ex4_2 ?_
  refine kw_istore (L' := [some (kr 0), some (ki x1), some (ki x2), some (ki x3), some (ki x4_2)]) C (kdec dc_M_changes 4 rfl) 8 rfl (by decide) rfl rfl ?_
  refine kw_iload_n C (kdec dc_M_changes 5 rfl) rfl 9 rfl rfl ?_
  refine kw_iconst C (kdec dc_M_changes 6 rfl) 10 rfl rfl ⟨by decide, by decide⟩ ?_
  refine kw_iload_n C (kdec dc_M_changes 7 rfl) rfl 11 rfl rfl ?_
  obtain ⟨r_3, hg_11, h⟩ := kbind_h h
  refine kw_callS (As := [ki x2, ki 0, ki x3]) C (kdec dc_M_changes 8 rfl) 14 rfl cs_M_355 (mt_mm_within l0 hg_11) ⟨rfl, rfl⟩ ⟨Nat.le_of_ble_eq_true rfl, Nat.le_of_ble_eq_true rfl⟩ ⟨Nat.zero_le _, Nat.zero_le _⟩ rfl (Nat.le_of_ble_eq_true rfl) ?_
  change KW x 0 0 Q σ 14 [some (kr 0), some (ki x1), some (ki x2), some (ki x3), some (ki x4_2)] [ki r_3]
  refine kw_if_eq C (kdec dc_M_changes 9 rfl) 23 17 (by decide) rfl (fun hc14 => ?_) (fun hc14 => ?_)
  · rw [if_pos hc14] at h
    exact kw_sub (L' := [some (kr 0), none, none, none, none]) ⟨rfl, trivial⟩ (bd_mm_changes_j23 C σ h hR)
  · rw [if_neg hc14] at h
    refine kw_iload C (kdec dc_M_changes 10 rfl) 19 rfl rfl ?_
    refine kw_iload_n C (kdec dc_M_changes 11 rfl) rfl 20 rfl rfl ?_
    refine kw_icmp_ne C (kdec dc_M_changes 12 rfl) 29 23 (by decide) rfl (fun hc20 => ?_) (fun hc20 => ?_)
    · rw [if_neg hc20] at h
      refine kw_aload_n C (kdec dc_M_changes 17 rfl) rfl 30 rfl rfl ?_
      obtain ⟨σ_7, hg_10, h⟩ := kbind_h h
      refine kw_callV (As := []) C (kdec dc_M_changes 18 rfl) 33 rfl cv_M_398 rfl rfl (mt_mm_keeps l0 hg_10) ⟨rfl, rfl⟩ ⟨Nat.le_of_ble_eq_true rfl, Nat.le_of_ble_eq_true rfl⟩ ⟨Nat.zero_le _, Nat.zero_le _⟩ rfl (Nat.le_of_ble_eq_true rfl) ?_
      change KW x 0 0 Q σ_7 33 [some (kr 0), some (ki x1), some (ki x2), some (ki x3), some (ki x4_2)] []
      refine kw_aload_n C (kdec dc_M_changes 19 rfl) rfl 34 rfl rfl ?_
      refine kw_getR C (kdec dc_M_changes 20 rfl) 37 rfl fd_M_M_48_0 ?_
      refine kw_iload_n C (kdec dc_M_changes 21 rfl) rfl 38 rfl rfl ?_
      refine kw_iload_n C (kdec dc_M_changes 22 rfl) rfl 39 rfl rfl ?_
      obtain ⟨hc_8, h⟩ := kchk_h h
      obtain ⟨σ_9, eσ_9, h⟩ := klet_h h
      refine kw_iast C (kdec dc_M_changes 23 rfl) 40 rfl rfl hc_8.1 hc_8.2 ?_
      refine kw_sig eσ_9 ?_
      refine kw_iload C (kdec dc_M_changes 24 rfl) 42 rfl rfl ?_
      obtain rfl := Option.some.inj h
      exact kw_Q (hR _ _ rfl) (kw_ireturn C (kdec dc_M_changes 25 rfl))
    · rw [if_pos hc20] at h
      exact kw_sub (L' := [some (kr 0), none, none, none, none]) ⟨rfl, trivial⟩ (bd_mm_changes_j23 C σ h hR)
theorem mt_mm_changes (l0 : Launch) {σ : kM} {x1 : Int} {x2 : Int} {x3 : Int} {r : Int} {τ : kM} (h : mm_changes σ x1 x2 x3 = some (r, τ)) : kMet l0 ky_M_changes prog_14_method_78_code 5 (some .int) R0_mm_changes kcl yM σ [kr 0, ki x1, ki x2, ki x3] (some (ki r)) τ := kMet.of' [some (kr 0), some (ki x1), some (ki x2), some (ki x3), none] (by decide) (Nat.le_of_ble_eq_true rfl) ⟨rfl, rfl, rfl, rfl, trivial⟩ (fun x C => bd_mm_changes C σ x1 x2 x3 h (fun r τ e => by cases e; rfl))
def R0_mm_rewrite : Room := ({ frames := 3, cells := 0, slots := 0, locals := 65 } : Room)
def mm_rewrite (σ : kM) (x1 : Int) (x2 : Int) (x3 : Int) : Option (Int × kM) :=
  klet (kst σ 0 (kup (σ 0) 0 0)) fun σ_1 =>
  (mm_isLine σ_1 x1 x2).bind fun (r_2, σ_3) =>
  if r_2 = 0 then
    some ((0, σ_3))
  else
    (mm_changes σ_3 (w32 ((w32 (89 + (w32 (6 * x1)))) + x2)) x3 9).bind fun (r_4, σ_5) =>
    some ((r_4, σ_5))
set_option maxHeartbeats 4000000 in
theorem bd_mm_rewrite {x : kX} {l0 : Launch} {Q : State → Prop} (C : kCx x prog_14_method_79_code "PoetFinesModel" (some .int) kcl yM 4 l0 R0_mm_rewrite) (σ : kM) (x1 : Int) (x2 : Int) (x3 : Int) {out : Int × kM} (h : mm_rewrite σ x1 x2 x3 = some out) (hR : ∀ (r : Int) (τ : kM), out = (r, τ) → Q = kQ x (some (ki r)) τ 0 0) : KW x 0 0 Q σ 0 [some (kr 0), some (ki x1), some (ki x2), some (ki x3)] [] := by
  unfold mm_rewrite at h
  refine kw_aload_n C (kdec dc_M_rewrite 0 rfl) rfl 1 rfl rfl ?_
  refine kw_iconst C (kdec dc_M_rewrite 1 rfl) 2 rfl rfl ⟨by decide, by decide⟩ ?_
  obtain ⟨σ_1, eσ_1, h⟩ := klet_h h
  refine kw_putI C (kdec dc_M_rewrite 2 rfl) 5 rfl fp_M_M_99_0 ?_
  refine kw_sig eσ_1 ?_
  refine kw_aload_n C (kdec dc_M_rewrite 3 rfl) rfl 6 rfl rfl ?_
  refine kw_iload_n C (kdec dc_M_rewrite 4 rfl) rfl 7 rfl rfl ?_
  refine kw_iload_n C (kdec dc_M_rewrite 5 rfl) rfl 8 rfl rfl ?_
  obtain ⟨⟨r_2, σ_3⟩, hg_7, h⟩ := kbind_h h
  dsimp only at h
  refine kw_callV (As := [ki x1, ki x2]) C (kdec dc_M_rewrite 6 rfl) 11 rfl cv_M_386 rfl rfl (mt_mm_isLine l0 hg_7) ⟨rfl, rfl⟩ ⟨Nat.le_of_ble_eq_true rfl, Nat.le_of_ble_eq_true rfl⟩ ⟨Nat.zero_le _, Nat.zero_le _⟩ rfl (Nat.le_of_ble_eq_true rfl) ?_
  change KW x 0 0 Q σ_3 11 [some (kr 0), some (ki x1), some (ki x2), some (ki x3)] [ki r_2]
  refine kw_if_eq C (kdec dc_M_rewrite 7 rfl) 33 14 (by decide) rfl (fun hc11 => ?_) (fun hc11 => ?_)
  · rw [if_pos hc11] at h
    refine kw_iconst C (kdec dc_M_rewrite 20 rfl) 34 rfl rfl ⟨by decide, by decide⟩ ?_
    obtain rfl := Option.some.inj h
    exact kw_Q (hR _ _ rfl) (kw_ireturn C (kdec dc_M_rewrite 21 rfl))
  · rw [if_neg hc11] at h
    refine kw_aload_n C (kdec dc_M_rewrite 8 rfl) rfl 15 rfl rfl ?_
    refine kw_bipush (v := 89) C (kdec dc_M_rewrite 9 rfl) 17 rfl (by decide) ⟨by decide, by decide⟩ ?_
    refine kw_bipush (v := 6) C (kdec dc_M_rewrite 10 rfl) 19 rfl (by decide) ⟨by decide, by decide⟩ ?_
    refine kw_iload_n C (kdec dc_M_rewrite 11 rfl) rfl 20 rfl rfl ?_
    refine kw_imul C (kdec dc_M_rewrite 12 rfl) 21 rfl ?_
    refine kw_iadd C (kdec dc_M_rewrite 13 rfl) 22 rfl ?_
    refine kw_iload_n C (kdec dc_M_rewrite 14 rfl) rfl 23 rfl rfl ?_
    refine kw_iadd C (kdec dc_M_rewrite 15 rfl) 24 rfl ?_
    refine kw_iload_n C (kdec dc_M_rewrite 16 rfl) rfl 25 rfl rfl ?_
    refine kw_bipush (v := 9) C (kdec dc_M_rewrite 17 rfl) 27 rfl (by decide) ⟨by decide, by decide⟩ ?_
    obtain ⟨⟨r_4, σ_5⟩, hg_6, h⟩ := kbind_h h
    dsimp only at h
    refine kw_callV (As := [ki (w32 ((w32 (89 + (w32 (6 * x1)))) + x2)), ki x3, ki 9]) C (kdec dc_M_rewrite 18 rfl) 30 rfl cv_M_404 rfl rfl (mt_mm_changes l0 hg_6) ⟨rfl, rfl⟩ ⟨Nat.le_of_ble_eq_true rfl, Nat.le_of_ble_eq_true rfl⟩ ⟨Nat.zero_le _, Nat.zero_le _⟩ rfl (Nat.le_of_ble_eq_true rfl) ?_
    change KW x 0 0 Q σ_5 30 [some (kr 0), some (ki x1), some (ki x2), some (ki x3)] [ki r_4]
    refine kw_goto C (kdec dc_M_rewrite 19 rfl) 34 (by decide) ?_
    obtain rfl := Option.some.inj h
    exact kw_Q (hR _ _ rfl) (kw_ireturn C (kdec dc_M_rewrite 21 rfl))
theorem mt_mm_rewrite (l0 : Launch) {σ : kM} {x1 : Int} {x2 : Int} {x3 : Int} {r : Int} {τ : kM} (h : mm_rewrite σ x1 x2 x3 = some (r, τ)) : kMet l0 ky_M_rewrite prog_14_method_79_code 4 (some .int) R0_mm_rewrite kcl yM σ [kr 0, ki x1, ki x2, ki x3] (some (ki r)) τ := kMet.of' [some (kr 0), some (ki x1), some (ki x2), some (ki x3)] (by decide) (Nat.le_of_ble_eq_true rfl) ⟨rfl, rfl, rfl, rfl, trivial⟩ (fun x C => bd_mm_rewrite C σ x1 x2 x3 h (fun r τ e => by cases e; rfl))
def R0_mm_pardon : Room := ({ frames := 2, cells := 0, slots := 0, locals := 46 } : Room)
def mm_pardon (σ : kM) (x1 : Int) : Option (Int × kM) :=
  klet (kst σ 0 (kup (σ 0) 0 0)) fun σ_1 =>
  (mm_isPoet σ_1 x1).bind fun (r_2, σ_3) =>
  if r_2 = 0 then
    some ((0, σ_3))
  else
    (mm_changes σ_3 (w32 (25 + x1)) 0 9).bind fun (r_4, σ_5) =>
    some ((r_4, σ_5))
set_option maxHeartbeats 4000000 in
theorem bd_mm_pardon {x : kX} {l0 : Launch} {Q : State → Prop} (C : kCx x prog_14_method_80_code "PoetFinesModel" (some .int) kcl yM 2 l0 R0_mm_pardon) (σ : kM) (x1 : Int) {out : Int × kM} (h : mm_pardon σ x1 = some out) (hR : ∀ (r : Int) (τ : kM), out = (r, τ) → Q = kQ x (some (ki r)) τ 0 0) : KW x 0 0 Q σ 0 [some (kr 0), some (ki x1)] [] := by
  unfold mm_pardon at h
  refine kw_aload_n C (kdec dc_M_pardon 0 rfl) rfl 1 rfl rfl ?_
  refine kw_iconst C (kdec dc_M_pardon 1 rfl) 2 rfl rfl ⟨by decide, by decide⟩ ?_
  obtain ⟨σ_1, eσ_1, h⟩ := klet_h h
  refine kw_putI C (kdec dc_M_pardon 2 rfl) 5 rfl fp_M_M_99_0 ?_
  refine kw_sig eσ_1 ?_
  refine kw_aload_n C (kdec dc_M_pardon 3 rfl) rfl 6 rfl rfl ?_
  refine kw_iload_n C (kdec dc_M_pardon 4 rfl) rfl 7 rfl rfl ?_
  obtain ⟨⟨r_2, σ_3⟩, hg_7, h⟩ := kbind_h h
  dsimp only at h
  refine kw_callV (As := [ki x1]) C (kdec dc_M_pardon 5 rfl) 10 rfl cv_M_367 rfl rfl (mt_mm_isPoet l0 hg_7) ⟨rfl, rfl⟩ ⟨Nat.le_of_ble_eq_true rfl, Nat.le_of_ble_eq_true rfl⟩ ⟨Nat.zero_le _, Nat.zero_le _⟩ rfl (Nat.le_of_ble_eq_true rfl) ?_
  change KW x 0 0 Q σ_3 10 [some (kr 0), some (ki x1)] [ki r_2]
  refine kw_if_eq C (kdec dc_M_pardon 6 rfl) 27 13 (by decide) rfl (fun hc10 => ?_) (fun hc10 => ?_)
  · rw [if_pos hc10] at h
    refine kw_iconst C (kdec dc_M_pardon 15 rfl) 28 rfl rfl ⟨by decide, by decide⟩ ?_
    obtain rfl := Option.some.inj h
    exact kw_Q (hR _ _ rfl) (kw_ireturn C (kdec dc_M_pardon 16 rfl))
  · rw [if_neg hc10] at h
    refine kw_aload_n C (kdec dc_M_pardon 7 rfl) rfl 14 rfl rfl ?_
    refine kw_bipush (v := 25) C (kdec dc_M_pardon 8 rfl) 16 rfl (by decide) ⟨by decide, by decide⟩ ?_
    refine kw_iload_n C (kdec dc_M_pardon 9 rfl) rfl 17 rfl rfl ?_
    refine kw_iadd C (kdec dc_M_pardon 10 rfl) 18 rfl ?_
    refine kw_iconst C (kdec dc_M_pardon 11 rfl) 19 rfl rfl ⟨by decide, by decide⟩ ?_
    refine kw_bipush (v := 9) C (kdec dc_M_pardon 12 rfl) 21 rfl (by decide) ⟨by decide, by decide⟩ ?_
    obtain ⟨⟨r_4, σ_5⟩, hg_6, h⟩ := kbind_h h
    dsimp only at h
    refine kw_callV (As := [ki (w32 (25 + x1)), ki 0, ki 9]) C (kdec dc_M_pardon 13 rfl) 24 rfl cv_M_404 rfl rfl (mt_mm_changes l0 hg_6) ⟨rfl, rfl⟩ ⟨Nat.le_of_ble_eq_true rfl, Nat.le_of_ble_eq_true rfl⟩ ⟨Nat.zero_le _, Nat.zero_le _⟩ rfl (Nat.le_of_ble_eq_true rfl) ?_
    change KW x 0 0 Q σ_5 24 [some (kr 0), some (ki x1)] [ki r_4]
    refine kw_goto C (kdec dc_M_pardon 14 rfl) 28 (by decide) ?_
    obtain rfl := Option.some.inj h
    exact kw_Q (hR _ _ rfl) (kw_ireturn C (kdec dc_M_pardon 16 rfl))
theorem mt_mm_pardon (l0 : Launch) {σ : kM} {x1 : Int} {r : Int} {τ : kM} (h : mm_pardon σ x1 = some (r, τ)) : kMet l0 ky_M_pardon prog_14_method_80_code 2 (some .int) R0_mm_pardon kcl yM σ [kr 0, ki x1] (some (ki r)) τ := kMet.of' [some (kr 0), some (ki x1)] (by decide) (Nat.le_of_ble_eq_true rfl) ⟨rfl, rfl, trivial⟩ (fun x C => bd_mm_pardon C σ x1 h (fun r τ e => by cases e; rfl))
def R0_mm_fill : Room := ({ frames := 2, cells := 0, slots := 0, locals := 46 } : Room)
def mm_fill (σ : kM) (x1 : Int) (x2 : Int) : Option (Int × kM) :=
  klet (kst σ 0 (kup (σ 0) 0 0)) fun σ_1 =>
  (mm_isPerson σ_1 x1).bind fun (r_2, σ_3) =>
  if r_2 = 0 then
    some ((0, σ_3))
  else
    (mm_changes σ_3 (w32 (1 + x1)) x2 99).bind fun (r_4, σ_5) =>
    some ((r_4, σ_5))
set_option maxHeartbeats 4000000 in
theorem bd_mm_fill {x : kX} {l0 : Launch} {Q : State → Prop} (C : kCx x prog_14_method_81_code "PoetFinesModel" (some .int) kcl yM 3 l0 R0_mm_fill) (σ : kM) (x1 : Int) (x2 : Int) {out : Int × kM} (h : mm_fill σ x1 x2 = some out) (hR : ∀ (r : Int) (τ : kM), out = (r, τ) → Q = kQ x (some (ki r)) τ 0 0) : KW x 0 0 Q σ 0 [some (kr 0), some (ki x1), some (ki x2)] [] := by
  unfold mm_fill at h
  refine kw_aload_n C (kdec dc_M_fill 0 rfl) rfl 1 rfl rfl ?_
  refine kw_iconst C (kdec dc_M_fill 1 rfl) 2 rfl rfl ⟨by decide, by decide⟩ ?_
  obtain ⟨σ_1, eσ_1, h⟩ := klet_h h
  refine kw_putI C (kdec dc_M_fill 2 rfl) 5 rfl fp_M_M_99_0 ?_
  refine kw_sig eσ_1 ?_
  refine kw_aload_n C (kdec dc_M_fill 3 rfl) rfl 6 rfl rfl ?_
  refine kw_iload_n C (kdec dc_M_fill 4 rfl) rfl 7 rfl rfl ?_
  obtain ⟨⟨r_2, σ_3⟩, hg_7, h⟩ := kbind_h h
  dsimp only at h
  refine kw_callV (As := [ki x1]) C (kdec dc_M_fill 5 rfl) 10 rfl cv_M_370 rfl rfl (mt_mm_isPerson l0 hg_7) ⟨rfl, rfl⟩ ⟨Nat.le_of_ble_eq_true rfl, Nat.le_of_ble_eq_true rfl⟩ ⟨Nat.zero_le _, Nat.zero_le _⟩ rfl (Nat.le_of_ble_eq_true rfl) ?_
  change KW x 0 0 Q σ_3 10 [some (kr 0), some (ki x1), some (ki x2)] [ki r_2]
  refine kw_if_eq C (kdec dc_M_fill 6 rfl) 26 13 (by decide) rfl (fun hc10 => ?_) (fun hc10 => ?_)
  · rw [if_pos hc10] at h
    refine kw_iconst C (kdec dc_M_fill 15 rfl) 27 rfl rfl ⟨by decide, by decide⟩ ?_
    obtain rfl := Option.some.inj h
    exact kw_Q (hR _ _ rfl) (kw_ireturn C (kdec dc_M_fill 16 rfl))
  · rw [if_neg hc10] at h
    refine kw_aload_n C (kdec dc_M_fill 7 rfl) rfl 14 rfl rfl ?_
    refine kw_iconst C (kdec dc_M_fill 8 rfl) 15 rfl rfl ⟨by decide, by decide⟩ ?_
    refine kw_iload_n C (kdec dc_M_fill 9 rfl) rfl 16 rfl rfl ?_
    refine kw_iadd C (kdec dc_M_fill 10 rfl) 17 rfl ?_
    refine kw_iload_n C (kdec dc_M_fill 11 rfl) rfl 18 rfl rfl ?_
    refine kw_bipush (v := 99) C (kdec dc_M_fill 12 rfl) 20 rfl (by decide) ⟨by decide, by decide⟩ ?_
    obtain ⟨⟨r_4, σ_5⟩, hg_6, h⟩ := kbind_h h
    dsimp only at h
    refine kw_callV (As := [ki (w32 (1 + x1)), ki x2, ki 99]) C (kdec dc_M_fill 13 rfl) 23 rfl cv_M_404 rfl rfl (mt_mm_changes l0 hg_6) ⟨rfl, rfl⟩ ⟨Nat.le_of_ble_eq_true rfl, Nat.le_of_ble_eq_true rfl⟩ ⟨Nat.zero_le _, Nat.zero_le _⟩ rfl (Nat.le_of_ble_eq_true rfl) ?_
    change KW x 0 0 Q σ_5 23 [some (kr 0), some (ki x1), some (ki x2)] [ki r_4]
    refine kw_goto C (kdec dc_M_fill 14 rfl) 27 (by decide) ?_
    obtain rfl := Option.some.inj h
    exact kw_Q (hR _ _ rfl) (kw_ireturn C (kdec dc_M_fill 16 rfl))
theorem mt_mm_fill (l0 : Launch) {σ : kM} {x1 : Int} {x2 : Int} {r : Int} {τ : kM} (h : mm_fill σ x1 x2 = some (r, τ)) : kMet l0 ky_M_fill prog_14_method_81_code 3 (some .int) R0_mm_fill kcl yM σ [kr 0, ki x1, ki x2] (some (ki r)) τ := kMet.of' [some (kr 0), some (ki x1), some (ki x2)] (by decide) (Nat.le_of_ble_eq_true rfl) ⟨rfl, rfl, rfl, trivial⟩ (fun x C => bd_mm_fill C σ x1 x2 h (fun r τ e => by cases e; rfl))
def R0_mm_heal : Room := ({ frames := 2, cells := 0, slots := 0, locals := 46 } : Room)
def mm_heal (σ : kM) (x1 : Int) : Option (Int × kM) :=
  klet (kst σ 0 (kup (σ 0) 0 0)) fun σ_1 =>
  (mm_isPerson σ_1 x1).bind fun (r_2, σ_3) =>
  if r_2 = 0 then
    some ((0, σ_3))
  else
    (mm_changes σ_3 (w32 (9 + x1)) 0 99).bind fun (r_4, σ_5) =>
    some ((r_4, σ_5))
set_option maxHeartbeats 4000000 in
theorem bd_mm_heal {x : kX} {l0 : Launch} {Q : State → Prop} (C : kCx x prog_14_method_82_code "PoetFinesModel" (some .int) kcl yM 2 l0 R0_mm_heal) (σ : kM) (x1 : Int) {out : Int × kM} (h : mm_heal σ x1 = some out) (hR : ∀ (r : Int) (τ : kM), out = (r, τ) → Q = kQ x (some (ki r)) τ 0 0) : KW x 0 0 Q σ 0 [some (kr 0), some (ki x1)] [] := by
  unfold mm_heal at h
  refine kw_aload_n C (kdec dc_M_heal 0 rfl) rfl 1 rfl rfl ?_
  refine kw_iconst C (kdec dc_M_heal 1 rfl) 2 rfl rfl ⟨by decide, by decide⟩ ?_
  obtain ⟨σ_1, eσ_1, h⟩ := klet_h h
  refine kw_putI C (kdec dc_M_heal 2 rfl) 5 rfl fp_M_M_99_0 ?_
  refine kw_sig eσ_1 ?_
  refine kw_aload_n C (kdec dc_M_heal 3 rfl) rfl 6 rfl rfl ?_
  refine kw_iload_n C (kdec dc_M_heal 4 rfl) rfl 7 rfl rfl ?_
  obtain ⟨⟨r_2, σ_3⟩, hg_7, h⟩ := kbind_h h
  dsimp only at h
  refine kw_callV (As := [ki x1]) C (kdec dc_M_heal 5 rfl) 10 rfl cv_M_370 rfl rfl (mt_mm_isPerson l0 hg_7) ⟨rfl, rfl⟩ ⟨Nat.le_of_ble_eq_true rfl, Nat.le_of_ble_eq_true rfl⟩ ⟨Nat.zero_le _, Nat.zero_le _⟩ rfl (Nat.le_of_ble_eq_true rfl) ?_
  change KW x 0 0 Q σ_3 10 [some (kr 0), some (ki x1)] [ki r_2]
  refine kw_if_eq C (kdec dc_M_heal 6 rfl) 27 13 (by decide) rfl (fun hc10 => ?_) (fun hc10 => ?_)
  · rw [if_pos hc10] at h
    refine kw_iconst C (kdec dc_M_heal 15 rfl) 28 rfl rfl ⟨by decide, by decide⟩ ?_
    obtain rfl := Option.some.inj h
    exact kw_Q (hR _ _ rfl) (kw_ireturn C (kdec dc_M_heal 16 rfl))
  · rw [if_neg hc10] at h
    refine kw_aload_n C (kdec dc_M_heal 7 rfl) rfl 14 rfl rfl ?_
    refine kw_bipush (v := 9) C (kdec dc_M_heal 8 rfl) 16 rfl (by decide) ⟨by decide, by decide⟩ ?_
    refine kw_iload_n C (kdec dc_M_heal 9 rfl) rfl 17 rfl rfl ?_
    refine kw_iadd C (kdec dc_M_heal 10 rfl) 18 rfl ?_
    refine kw_iconst C (kdec dc_M_heal 11 rfl) 19 rfl rfl ⟨by decide, by decide⟩ ?_
    refine kw_bipush (v := 99) C (kdec dc_M_heal 12 rfl) 21 rfl (by decide) ⟨by decide, by decide⟩ ?_
    obtain ⟨⟨r_4, σ_5⟩, hg_6, h⟩ := kbind_h h
    dsimp only at h
    refine kw_callV (As := [ki (w32 (9 + x1)), ki 0, ki 99]) C (kdec dc_M_heal 13 rfl) 24 rfl cv_M_404 rfl rfl (mt_mm_changes l0 hg_6) ⟨rfl, rfl⟩ ⟨Nat.le_of_ble_eq_true rfl, Nat.le_of_ble_eq_true rfl⟩ ⟨Nat.zero_le _, Nat.zero_le _⟩ rfl (Nat.le_of_ble_eq_true rfl) ?_
    change KW x 0 0 Q σ_5 24 [some (kr 0), some (ki x1)] [ki r_4]
    refine kw_goto C (kdec dc_M_heal 14 rfl) 28 (by decide) ?_
    obtain rfl := Option.some.inj h
    exact kw_Q (hR _ _ rfl) (kw_ireturn C (kdec dc_M_heal 16 rfl))
theorem mt_mm_heal (l0 : Launch) {σ : kM} {x1 : Int} {r : Int} {τ : kM} (h : mm_heal σ x1 = some (r, τ)) : kMet l0 ky_M_heal prog_14_method_82_code 2 (some .int) R0_mm_heal kcl yM σ [kr 0, ki x1] (some (ki r)) τ := kMet.of' [some (kr 0), some (ki x1)] (by decide) (Nat.le_of_ble_eq_true rfl) ⟨rfl, rfl, trivial⟩ (fun x C => bd_mm_heal C σ x1 h (fun r τ e => by cases e; rfl))
def R0_mm_then : Room := ({ frames := 7, cells := 0, slots := 0, locals := 168 } : Room)
def mm_then (σ : kM) (x1 : Int) (x2 : Int) (x3 : Int) : Option (Int × kM) :=
  klet (kst σ 0 (kup (σ 0) 0 0)) fun σ_1 =>
  (mm_isPerson σ_1 x1).bind fun (r_2, σ_3) =>
  if r_2 = 0 then
    some ((0, σ_3))
  else
    (mm_isWhat σ_3 x3 2).bind fun (r_4, σ_5) =>
    if r_4 = 0 then
      some ((0, σ_5))
    else
      (mm_isSoon σ_5 x2 0 2).bind fun (r_6, σ_7) =>
      if r_6 = 0 then
        some ((0, σ_7))
      else
        (mm_goesTo σ_7 x2).bind fun σ_8 =>
        if x3 = 0 then
          kchk (0 ≤ (w32 (146 + x1)) ∧ (w32 (146 + x1)) < 290) <|
          some ((σ_8 8 (w32 (146 + x1)).toNat, σ_8))
        else
          if x3 = 1 then
            kchk (0 ≤ (w32 (154 + x1)) ∧ (w32 (154 + x1)) < 290) <|
            some ((σ_8 8 (w32 (154 + x1)).toNat, σ_8))
          else
            (mm_hitsOf σ_8 145 x1).bind fun r_9 =>
            some ((r_9, σ_8))
set_option maxHeartbeats 4000000 in
theorem bd_mm_then {x : kX} {l0 : Launch} {Q : State → Prop} (C : kCx x prog_14_method_83_code "PoetFinesModel" (some .int) kcl yM 4 l0 R0_mm_then) (σ : kM) (x1 : Int) (x2 : Int) (x3 : Int) {out : Int × kM} (h : mm_then σ x1 x2 x3 = some out) (hR : ∀ (r : Int) (τ : kM), out = (r, τ) → Q = kQ x (some (ki r)) τ 0 0) : KW x 0 0 Q σ 0 [some (kr 0), some (ki x1), some (ki x2), some (ki x3)] [] := by
  unfold mm_then at h
  refine kw_aload_n C (kdec dc_M_then 0 rfl) rfl 1 rfl rfl ?_
  refine kw_iconst C (kdec dc_M_then 1 rfl) 2 rfl rfl ⟨by decide, by decide⟩ ?_
  obtain ⟨σ_1, eσ_1, h⟩ := klet_h h
  refine kw_putI C (kdec dc_M_then 2 rfl) 5 rfl fp_M_M_99_0 ?_
  refine kw_sig eσ_1 ?_
  refine kw_aload_n C (kdec dc_M_then 3 rfl) rfl 6 rfl rfl ?_
  refine kw_iload_n C (kdec dc_M_then 4 rfl) rfl 7 rfl rfl ?_
  obtain ⟨⟨r_2, σ_3⟩, hg_16, h⟩ := kbind_h h
  dsimp only at h
  refine kw_callV (As := [ki x1]) C (kdec dc_M_then 5 rfl) 10 rfl cv_M_370 rfl rfl (mt_mm_isPerson l0 hg_16) ⟨rfl, rfl⟩ ⟨Nat.le_of_ble_eq_true rfl, Nat.le_of_ble_eq_true rfl⟩ ⟨Nat.zero_le _, Nat.zero_le _⟩ rfl (Nat.le_of_ble_eq_true rfl) ?_
  change KW x 0 0 Q σ_3 10 [some (kr 0), some (ki x1), some (ki x2), some (ki x3)] [ki r_2]
  refine kw_if_eq C (kdec dc_M_then 6 rfl) 32 13 (by decide) rfl (fun hc10 => ?_) (fun hc10 => ?_)
  · rw [if_pos hc10] at h
    refine kw_iconst C (kdec dc_M_then 18 rfl) 33 rfl rfl ⟨by decide, by decide⟩ ?_
    obtain rfl := Option.some.inj h
    exact kw_Q (hR _ _ rfl) (kw_ireturn C (kdec dc_M_then 19 rfl))
  · rw [if_neg hc10] at h
    refine kw_aload_n C (kdec dc_M_then 7 rfl) rfl 14 rfl rfl ?_
    refine kw_iload_n C (kdec dc_M_then 8 rfl) rfl 15 rfl rfl ?_
    refine kw_iconst C (kdec dc_M_then 9 rfl) 16 rfl rfl ⟨by decide, by decide⟩ ?_
    obtain ⟨⟨r_4, σ_5⟩, hg_15, h⟩ := kbind_h h
    dsimp only at h
    refine kw_callV (As := [ki x3, ki 2]) C (kdec dc_M_then 10 rfl) 19 rfl cv_M_376 rfl rfl (mt_mm_isWhat l0 hg_15) ⟨rfl, rfl⟩ ⟨Nat.le_of_ble_eq_true rfl, Nat.le_of_ble_eq_true rfl⟩ ⟨Nat.zero_le _, Nat.zero_le _⟩ rfl (Nat.le_of_ble_eq_true rfl) ?_
    change KW x 0 0 Q σ_5 19 [some (kr 0), some (ki x1), some (ki x2), some (ki x3)] [ki r_4]
    refine kw_if_eq C (kdec dc_M_then 11 rfl) 32 22 (by decide) rfl (fun hc19 => ?_) (fun hc19 => ?_)
    · rw [if_pos hc19] at h
      refine kw_iconst C (kdec dc_M_then 18 rfl) 33 rfl rfl ⟨by decide, by decide⟩ ?_
      obtain rfl := Option.some.inj h
      exact kw_Q (hR _ _ rfl) (kw_ireturn C (kdec dc_M_then 19 rfl))
    · rw [if_neg hc19] at h
      refine kw_aload_n C (kdec dc_M_then 12 rfl) rfl 23 rfl rfl ?_
      refine kw_iload_n C (kdec dc_M_then 13 rfl) rfl 24 rfl rfl ?_
      refine kw_iconst C (kdec dc_M_then 14 rfl) 25 rfl rfl ⟨by decide, by decide⟩ ?_
      refine kw_iconst C (kdec dc_M_then 15 rfl) 26 rfl rfl ⟨by decide, by decide⟩ ?_
      obtain ⟨⟨r_6, σ_7⟩, hg_14, h⟩ := kbind_h h
      dsimp only at h
      refine kw_callV (As := [ki x2, ki 0, ki 2]) C (kdec dc_M_then 16 rfl) 29 rfl cv_M_407 rfl rfl (mt_mm_isSoon l0 hg_14) ⟨rfl, rfl⟩ ⟨Nat.le_of_ble_eq_true rfl, Nat.le_of_ble_eq_true rfl⟩ ⟨Nat.zero_le _, Nat.zero_le _⟩ rfl (Nat.le_of_ble_eq_true rfl) ?_
      change KW x 0 0 Q σ_7 29 [some (kr 0), some (ki x1), some (ki x2), some (ki x3)] [ki r_6]
      refine kw_if_ne C (kdec dc_M_then 17 rfl) 34 32 (by decide) rfl (fun hc29 => ?_) (fun hc29 => ?_)
      · rw [if_neg hc29] at h
        refine kw_aload_n C (kdec dc_M_then 20 rfl) rfl 35 rfl rfl ?_
        refine kw_iload_n C (kdec dc_M_then 21 rfl) rfl 36 rfl rfl ?_
        obtain ⟨σ_8, hg_13, h⟩ := kbind_h h
        refine kw_callV (As := [ki x2]) C (kdec dc_M_then 22 rfl) 39 rfl cv_M_410 rfl rfl (mt_mm_goesTo l0 hg_13) ⟨rfl, rfl⟩ ⟨Nat.le_of_ble_eq_true rfl, Nat.le_of_ble_eq_true rfl⟩ ⟨Nat.zero_le _, Nat.zero_le _⟩ rfl (Nat.le_of_ble_eq_true rfl) ?_
        change KW x 0 0 Q σ_8 39 [some (kr 0), some (ki x1), some (ki x2), some (ki x3)] []
        refine kw_iload_n C (kdec dc_M_then 23 rfl) rfl 40 rfl rfl ?_
        refine kw_if_ne C (kdec dc_M_then 24 rfl) 56 43 (by decide) rfl (fun hc40 => ?_) (fun hc40 => ?_)
        · rw [if_neg hc40] at h
          refine kw_iload_n C (kdec dc_M_then 32 rfl) rfl 57 rfl rfl ?_
          refine kw_iconst C (kdec dc_M_then 33 rfl) 58 rfl rfl ⟨by decide, by decide⟩ ?_
          refine kw_icmp_ne C (kdec dc_M_then 34 rfl) 74 61 (by decide) rfl (fun hc58 => ?_) (fun hc58 => ?_)
          · rw [if_neg hc58] at h
            refine kw_aload_n C (kdec dc_M_then 42 rfl) rfl 75 rfl rfl ?_
            refine kw_sipush (v := 145) C (kdec dc_M_then 43 rfl) 78 rfl (by decide) ⟨by decide, by decide⟩ ?_
            refine kw_iload_n C (kdec dc_M_then 44 rfl) rfl 79 rfl rfl ?_
            obtain ⟨r_9, hg_10, h⟩ := kbind_h h
            refine kw_callV (As := [ki 145, ki x1]) C (kdec dc_M_then 45 rfl) 82 rfl cv_M_373 rfl rfl (mt_mm_hitsOf l0 hg_10) ⟨rfl, rfl⟩ ⟨Nat.le_of_ble_eq_true rfl, Nat.le_of_ble_eq_true rfl⟩ ⟨Nat.zero_le _, Nat.zero_le _⟩ rfl (Nat.le_of_ble_eq_true rfl) ?_
            change KW x 0 0 Q σ_8 82 [some (kr 0), some (ki x1), some (ki x2), some (ki x3)] [ki r_9]
            obtain rfl := Option.some.inj h
            exact kw_Q (hR _ _ rfl) (kw_ireturn C (kdec dc_M_then 46 rfl))
          · rw [if_pos hc58] at h
            refine kw_aload_n C (kdec dc_M_then 35 rfl) rfl 62 rfl rfl ?_
            refine kw_getR C (kdec dc_M_then 36 rfl) 65 rfl fd_M_M_48_0 ?_
            refine kw_sipush (v := 154) C (kdec dc_M_then 37 rfl) 68 rfl (by decide) ⟨by decide, by decide⟩ ?_
            refine kw_iload_n C (kdec dc_M_then 38 rfl) rfl 69 rfl rfl ?_
            refine kw_iadd C (kdec dc_M_then 39 rfl) 70 rfl ?_
            obtain ⟨hc_11, h⟩ := kchk_h h
            refine kw_iald C (kdec dc_M_then 40 rfl) 71 rfl rfl hc_11.1 hc_11.2 ?_
            refine kw_goto C (kdec dc_M_then 41 rfl) 82 (by decide) ?_
            obtain rfl := Option.some.inj h
            exact kw_Q (hR _ _ rfl) (kw_ireturn C (kdec dc_M_then 46 rfl))
        · rw [if_pos hc40] at h
          refine kw_aload_n C (kdec dc_M_then 25 rfl) rfl 44 rfl rfl ?_
          refine kw_getR C (kdec dc_M_then 26 rfl) 47 rfl fd_M_M_48_0 ?_
          refine kw_sipush (v := 146) C (kdec dc_M_then 27 rfl) 50 rfl (by decide) ⟨by decide, by decide⟩ ?_
          refine kw_iload_n C (kdec dc_M_then 28 rfl) rfl 51 rfl rfl ?_
          refine kw_iadd C (kdec dc_M_then 29 rfl) 52 rfl ?_
          obtain ⟨hc_12, h⟩ := kchk_h h
          refine kw_iald C (kdec dc_M_then 30 rfl) 53 rfl rfl hc_12.1 hc_12.2 ?_
          refine kw_goto C (kdec dc_M_then 31 rfl) 82 (by decide) ?_
          obtain rfl := Option.some.inj h
          exact kw_Q (hR _ _ rfl) (kw_ireturn C (kdec dc_M_then 46 rfl))
      · rw [if_pos hc29] at h
        refine kw_iconst C (kdec dc_M_then 18 rfl) 33 rfl rfl ⟨by decide, by decide⟩ ?_
        obtain rfl := Option.some.inj h
        exact kw_Q (hR _ _ rfl) (kw_ireturn C (kdec dc_M_then 19 rfl))
theorem mt_mm_then (l0 : Launch) {σ : kM} {x1 : Int} {x2 : Int} {x3 : Int} {r : Int} {τ : kM} (h : mm_then σ x1 x2 x3 = some (r, τ)) : kMet l0 ky_M_then prog_14_method_83_code 4 (some .int) R0_mm_then kcl yM σ [kr 0, ki x1, ki x2, ki x3] (some (ki r)) τ := kMet.of' [some (kr 0), some (ki x1), some (ki x2), some (ki x3)] (by decide) (Nat.le_of_ble_eq_true rfl) ⟨rfl, rfl, rfl, rfl, trivial⟩ (fun x C => bd_mm_then C σ x1 x2 x3 h (fun r τ e => by cases e; rfl))
def R0_mm_poetThen : Room := ({ frames := 7, cells := 0, slots := 0, locals := 168 } : Room)
def mm_poetThen (σ : kM) (x1 : Int) (x2 : Int) (x3 : Int) : Option (Int × kM) :=
  klet (kst σ 0 (kup (σ 0) 0 0)) fun σ_1 =>
  (mm_isPoet σ_1 x1).bind fun (r_2, σ_3) =>
  if r_2 = 0 then
    some ((0, σ_3))
  else
    (mm_isWhat σ_3 x3 5).bind fun (r_4, σ_5) =>
    if r_4 = 0 then
      some ((0, σ_5))
    else
      (mm_isSoon σ_5 x2 0 2).bind fun (r_6, σ_7) =>
      if r_6 = 0 then
        some ((0, σ_7))
      else
        (mm_goesTo σ_7 x2).bind fun σ_8 =>
        if x3 = 0 then
          kchk (0 ≤ (w32 (162 + x1)) ∧ (w32 (162 + x1)) < 290) <|
          some ((σ_8 8 (w32 (162 + x1)).toNat, σ_8))
        else
          if x3 = 1 then
            kchk (0 ≤ (w32 (166 + x1)) ∧ (w32 (166 + x1)) < 290) <|
            some ((σ_8 8 (w32 (166 + x1)).toNat, σ_8))
          else
            if x3 = 2 then
              kchk (0 ≤ (w32 (170 + x1)) ∧ (w32 (170 + x1)) < 290) <|
              some ((σ_8 8 (w32 (170 + x1)).toNat, σ_8))
            else
              if x3 = 3 then
                kchk (0 ≤ x1 ∧ x1 < 4) <|
                some ((σ_8 10 x1.toNat, σ_8))
              else
                if x3 = 4 then
                  kchk (0 ≤ x1 ∧ x1 < 4) <|
                  some ((σ_8 11 x1.toNat, σ_8))
                else
                  kchk (0 ≤ x1 ∧ x1 < 4) <|
                  some ((σ_8 12 x1.toNat, σ_8))
set_option maxHeartbeats 4000000 in
theorem bd_mm_poetThen {x : kX} {l0 : Launch} {Q : State → Prop} (C : kCx x prog_14_method_84_code "PoetFinesModel" (some .int) kcl yM 4 l0 R0_mm_poetThen) (σ : kM) (x1 : Int) (x2 : Int) (x3 : Int) {out : Int × kM} (h : mm_poetThen σ x1 x2 x3 = some out) (hR : ∀ (r : Int) (τ : kM), out = (r, τ) → Q = kQ x (some (ki r)) τ 0 0) : KW x 0 0 Q σ 0 [some (kr 0), some (ki x1), some (ki x2), some (ki x3)] [] := by
  unfold mm_poetThen at h
  refine kw_aload_n C (kdec dc_M_poetThen 0 rfl) rfl 1 rfl rfl ?_
  refine kw_iconst C (kdec dc_M_poetThen 1 rfl) 2 rfl rfl ⟨by decide, by decide⟩ ?_
  obtain ⟨σ_1, eσ_1, h⟩ := klet_h h
  refine kw_putI C (kdec dc_M_poetThen 2 rfl) 5 rfl fp_M_M_99_0 ?_
  refine kw_sig eσ_1 ?_
  refine kw_aload_n C (kdec dc_M_poetThen 3 rfl) rfl 6 rfl rfl ?_
  refine kw_iload_n C (kdec dc_M_poetThen 4 rfl) rfl 7 rfl rfl ?_
  obtain ⟨⟨r_2, σ_3⟩, hg_18, h⟩ := kbind_h h
  dsimp only at h
  refine kw_callV (As := [ki x1]) C (kdec dc_M_poetThen 5 rfl) 10 rfl cv_M_367 rfl rfl (mt_mm_isPoet l0 hg_18) ⟨rfl, rfl⟩ ⟨Nat.le_of_ble_eq_true rfl, Nat.le_of_ble_eq_true rfl⟩ ⟨Nat.zero_le _, Nat.zero_le _⟩ rfl (Nat.le_of_ble_eq_true rfl) ?_
  change KW x 0 0 Q σ_3 10 [some (kr 0), some (ki x1), some (ki x2), some (ki x3)] [ki r_2]
  refine kw_if_eq C (kdec dc_M_poetThen 6 rfl) 32 13 (by decide) rfl (fun hc10 => ?_) (fun hc10 => ?_)
  · rw [if_pos hc10] at h
    refine kw_iconst C (kdec dc_M_poetThen 18 rfl) 33 rfl rfl ⟨by decide, by decide⟩ ?_
    obtain rfl := Option.some.inj h
    exact kw_Q (hR _ _ rfl) (kw_ireturn C (kdec dc_M_poetThen 19 rfl))
  · rw [if_neg hc10] at h
    refine kw_aload_n C (kdec dc_M_poetThen 7 rfl) rfl 14 rfl rfl ?_
    refine kw_iload_n C (kdec dc_M_poetThen 8 rfl) rfl 15 rfl rfl ?_
    refine kw_iconst C (kdec dc_M_poetThen 9 rfl) 16 rfl rfl ⟨by decide, by decide⟩ ?_
    obtain ⟨⟨r_4, σ_5⟩, hg_17, h⟩ := kbind_h h
    dsimp only at h
    refine kw_callV (As := [ki x3, ki 5]) C (kdec dc_M_poetThen 10 rfl) 19 rfl cv_M_376 rfl rfl (mt_mm_isWhat l0 hg_17) ⟨rfl, rfl⟩ ⟨Nat.le_of_ble_eq_true rfl, Nat.le_of_ble_eq_true rfl⟩ ⟨Nat.zero_le _, Nat.zero_le _⟩ rfl (Nat.le_of_ble_eq_true rfl) ?_
    change KW x 0 0 Q σ_5 19 [some (kr 0), some (ki x1), some (ki x2), some (ki x3)] [ki r_4]
    refine kw_if_eq C (kdec dc_M_poetThen 11 rfl) 32 22 (by decide) rfl (fun hc19 => ?_) (fun hc19 => ?_)
    · rw [if_pos hc19] at h
      refine kw_iconst C (kdec dc_M_poetThen 18 rfl) 33 rfl rfl ⟨by decide, by decide⟩ ?_
      obtain rfl := Option.some.inj h
      exact kw_Q (hR _ _ rfl) (kw_ireturn C (kdec dc_M_poetThen 19 rfl))
    · rw [if_neg hc19] at h
      refine kw_aload_n C (kdec dc_M_poetThen 12 rfl) rfl 23 rfl rfl ?_
      refine kw_iload_n C (kdec dc_M_poetThen 13 rfl) rfl 24 rfl rfl ?_
      refine kw_iconst C (kdec dc_M_poetThen 14 rfl) 25 rfl rfl ⟨by decide, by decide⟩ ?_
      refine kw_iconst C (kdec dc_M_poetThen 15 rfl) 26 rfl rfl ⟨by decide, by decide⟩ ?_
      obtain ⟨⟨r_6, σ_7⟩, hg_16, h⟩ := kbind_h h
      dsimp only at h
      refine kw_callV (As := [ki x2, ki 0, ki 2]) C (kdec dc_M_poetThen 16 rfl) 29 rfl cv_M_407 rfl rfl (mt_mm_isSoon l0 hg_16) ⟨rfl, rfl⟩ ⟨Nat.le_of_ble_eq_true rfl, Nat.le_of_ble_eq_true rfl⟩ ⟨Nat.zero_le _, Nat.zero_le _⟩ rfl (Nat.le_of_ble_eq_true rfl) ?_
      change KW x 0 0 Q σ_7 29 [some (kr 0), some (ki x1), some (ki x2), some (ki x3)] [ki r_6]
      refine kw_if_ne C (kdec dc_M_poetThen 17 rfl) 34 32 (by decide) rfl (fun hc29 => ?_) (fun hc29 => ?_)
      · rw [if_neg hc29] at h
        refine kw_aload_n C (kdec dc_M_poetThen 20 rfl) rfl 35 rfl rfl ?_
        refine kw_iload_n C (kdec dc_M_poetThen 21 rfl) rfl 36 rfl rfl ?_
        obtain ⟨σ_8, hg_15, h⟩ := kbind_h h
        refine kw_callV (As := [ki x2]) C (kdec dc_M_poetThen 22 rfl) 39 rfl cv_M_410 rfl rfl (mt_mm_goesTo l0 hg_15) ⟨rfl, rfl⟩ ⟨Nat.le_of_ble_eq_true rfl, Nat.le_of_ble_eq_true rfl⟩ ⟨Nat.zero_le _, Nat.zero_le _⟩ rfl (Nat.le_of_ble_eq_true rfl) ?_
        change KW x 0 0 Q σ_8 39 [some (kr 0), some (ki x1), some (ki x2), some (ki x3)] []
        refine kw_iload_n C (kdec dc_M_poetThen 23 rfl) rfl 40 rfl rfl ?_
        by_cases hc40_0 : x3 = 0
        · rw [if_pos hc40_0] at h
          refine kw_table C (kdec dc_M_poetThen 24 rfl) 76 (Or.inr ⟨by omega, by omega, _, by rw [hc40_0]; rfl, by decide⟩) ?_
          refine kw_aload_n C (kdec dc_M_poetThen 25 rfl) rfl 77 rfl rfl ?_
          refine kw_getR C (kdec dc_M_poetThen 26 rfl) 80 rfl fd_M_M_48_0 ?_
          refine kw_sipush (v := 162) C (kdec dc_M_poetThen 27 rfl) 83 rfl (by decide) ⟨by decide, by decide⟩ ?_
          refine kw_iload_n C (kdec dc_M_poetThen 28 rfl) rfl 84 rfl rfl ?_
          refine kw_iadd C (kdec dc_M_poetThen 29 rfl) 85 rfl ?_
          obtain ⟨hc_9, h⟩ := kchk_h h
          refine kw_iald C (kdec dc_M_poetThen 30 rfl) 86 rfl rfl hc_9.1 hc_9.2 ?_
          obtain rfl := Option.some.inj h
          exact kw_Q (hR _ _ rfl) (kw_ireturn C (kdec dc_M_poetThen 31 rfl))
        · rw [if_neg hc40_0] at h
          by_cases hc40_1 : x3 = 1
          · rw [if_pos hc40_1] at h
            refine kw_table C (kdec dc_M_poetThen 24 rfl) 87 (Or.inr ⟨by omega, by omega, _, by rw [hc40_1]; rfl, by decide⟩) ?_
            refine kw_aload_n C (kdec dc_M_poetThen 32 rfl) rfl 88 rfl rfl ?_
            refine kw_getR C (kdec dc_M_poetThen 33 rfl) 91 rfl fd_M_M_48_0 ?_
            refine kw_sipush (v := 166) C (kdec dc_M_poetThen 34 rfl) 94 rfl (by decide) ⟨by decide, by decide⟩ ?_
            refine kw_iload_n C (kdec dc_M_poetThen 35 rfl) rfl 95 rfl rfl ?_
            refine kw_iadd C (kdec dc_M_poetThen 36 rfl) 96 rfl ?_
            obtain ⟨hc_10, h⟩ := kchk_h h
            refine kw_iald C (kdec dc_M_poetThen 37 rfl) 97 rfl rfl hc_10.1 hc_10.2 ?_
            obtain rfl := Option.some.inj h
            exact kw_Q (hR _ _ rfl) (kw_ireturn C (kdec dc_M_poetThen 38 rfl))
          · rw [if_neg hc40_1] at h
            by_cases hc40_2 : x3 = 2
            · rw [if_pos hc40_2] at h
              refine kw_table C (kdec dc_M_poetThen 24 rfl) 98 (Or.inr ⟨by omega, by omega, _, by rw [hc40_2]; rfl, by decide⟩) ?_
              refine kw_aload_n C (kdec dc_M_poetThen 39 rfl) rfl 99 rfl rfl ?_
              refine kw_getR C (kdec dc_M_poetThen 40 rfl) 102 rfl fd_M_M_48_0 ?_
              refine kw_sipush (v := 170) C (kdec dc_M_poetThen 41 rfl) 105 rfl (by decide) ⟨by decide, by decide⟩ ?_
              refine kw_iload_n C (kdec dc_M_poetThen 42 rfl) rfl 106 rfl rfl ?_
              refine kw_iadd C (kdec dc_M_poetThen 43 rfl) 107 rfl ?_
              obtain ⟨hc_11, h⟩ := kchk_h h
              refine kw_iald C (kdec dc_M_poetThen 44 rfl) 108 rfl rfl hc_11.1 hc_11.2 ?_
              obtain rfl := Option.some.inj h
              exact kw_Q (hR _ _ rfl) (kw_ireturn C (kdec dc_M_poetThen 45 rfl))
            · rw [if_neg hc40_2] at h
              by_cases hc40_3 : x3 = 3
              · rw [if_pos hc40_3] at h
                refine kw_table C (kdec dc_M_poetThen 24 rfl) 109 (Or.inr ⟨by omega, by omega, _, by rw [hc40_3]; rfl, by decide⟩) ?_
                refine kw_aload_n C (kdec dc_M_poetThen 46 rfl) rfl 110 rfl rfl ?_
                refine kw_getR C (kdec dc_M_poetThen 47 rfl) 113 rfl fd_M_M_54_0 ?_
                refine kw_iload_n C (kdec dc_M_poetThen 48 rfl) rfl 114 rfl rfl ?_
                obtain ⟨hc_12, h⟩ := kchk_h h
                refine kw_iald C (kdec dc_M_poetThen 49 rfl) 115 rfl rfl hc_12.1 hc_12.2 ?_
                obtain rfl := Option.some.inj h
                exact kw_Q (hR _ _ rfl) (kw_ireturn C (kdec dc_M_poetThen 50 rfl))
              · rw [if_neg hc40_3] at h
                by_cases hc40_4 : x3 = 4
                · rw [if_pos hc40_4] at h
                  refine kw_table C (kdec dc_M_poetThen 24 rfl) 116 (Or.inr ⟨by omega, by omega, _, by rw [hc40_4]; rfl, by decide⟩) ?_
                  refine kw_aload_n C (kdec dc_M_poetThen 51 rfl) rfl 117 rfl rfl ?_
                  refine kw_getR C (kdec dc_M_poetThen 52 rfl) 120 rfl fd_M_M_57_0 ?_
                  refine kw_iload_n C (kdec dc_M_poetThen 53 rfl) rfl 121 rfl rfl ?_
                  obtain ⟨hc_13, h⟩ := kchk_h h
                  refine kw_iald C (kdec dc_M_poetThen 54 rfl) 122 rfl rfl hc_13.1 hc_13.2 ?_
                  obtain rfl := Option.some.inj h
                  exact kw_Q (hR _ _ rfl) (kw_ireturn C (kdec dc_M_poetThen 55 rfl))
                · rw [if_neg hc40_4] at h
                  refine kw_table C (kdec dc_M_poetThen 24 rfl) 123 (Or.inl ⟨by omega, by decide⟩) ?_
                  refine kw_aload_n C (kdec dc_M_poetThen 56 rfl) rfl 124 rfl rfl ?_
                  refine kw_getR C (kdec dc_M_poetThen 57 rfl) 127 rfl fd_M_M_60_0 ?_
                  refine kw_iload_n C (kdec dc_M_poetThen 58 rfl) rfl 128 rfl rfl ?_
                  obtain ⟨hc_14, h⟩ := kchk_h h
                  refine kw_iald C (kdec dc_M_poetThen 59 rfl) 129 rfl rfl hc_14.1 hc_14.2 ?_
                  obtain rfl := Option.some.inj h
                  exact kw_Q (hR _ _ rfl) (kw_ireturn C (kdec dc_M_poetThen 60 rfl))
      · rw [if_pos hc29] at h
        refine kw_iconst C (kdec dc_M_poetThen 18 rfl) 33 rfl rfl ⟨by decide, by decide⟩ ?_
        obtain rfl := Option.some.inj h
        exact kw_Q (hR _ _ rfl) (kw_ireturn C (kdec dc_M_poetThen 19 rfl))
theorem mt_mm_poetThen (l0 : Launch) {σ : kM} {x1 : Int} {x2 : Int} {x3 : Int} {r : Int} {τ : kM} (h : mm_poetThen σ x1 x2 x3 = some (r, τ)) : kMet l0 ky_M_poetThen prog_14_method_84_code 4 (some .int) R0_mm_poetThen kcl yM σ [kr 0, ki x1, ki x2, ki x3] (some (ki r)) τ := kMet.of' [some (kr 0), some (ki x1), some (ki x2), some (ki x3)] (by decide) (Nat.le_of_ble_eq_true rfl) ⟨rfl, rfl, rfl, rfl, trivial⟩ (fun x C => bd_mm_poetThen C σ x1 x2 x3 h (fun r τ e => by cases e; rfl))
def R0_mm_hurt : Room := ({ frames := 6, cells := 0, slots := 0, locals := 146 } : Room)
def mm_hurt_l29 (σ : kM) (x1 : Int) (x2 : Int) (x3 : Int) : Option ((kM × Int) ⊕ ((kM × Int) ⊕ (kM))) :=
  if 60 < x3 then
    some (Sum.inr (Sum.inr σ))
  else
    (mm_yearGoes σ 145).bind fun σ_7 =>
    kchk (0 ≤ x2 ∧ x2 < 4) <|
    if (kand (kshr (σ_7 17 x2.toNat) x1) 1) = 1 then
      some (Sum.inr (Sum.inl (σ_7, x3)))
    else
      klet (w32 (x3 + 1)) fun x3_9 =>
      some (Sum.inl (σ_7, x3_9))
set_option maxHeartbeats 4000000 in
theorem bd_mm_hurt_l29 {x : kX} {l0 : Launch} {Q : State → Prop} (C : kCx x prog_14_method_85_code "PoetFinesModel" (some .int) kcl yM 4 l0 R0_mm_hurt) (σ : kM) (x1 : Int) (x2 : Int) (x3 : Int) {out : (kM × Int) ⊕ ((kM × Int) ⊕ (kM))} (h : mm_hurt_l29 σ x1 x2 x3 = some out) (hC : ∀ (σ' : kM) (x3' : Int), out = Sum.inl (σ', x3') → KW x 0 0 Q σ' 29 [some (kr 0), some (ki x1), some (ki x2), some (ki x3')] []) (hX56 : ∀ (σ' : kM) (x3' : Int), out = Sum.inr (Sum.inl (σ', x3')) → KW x 0 0 Q σ' 56 [none, none, none, some (ki x3')] []) (hX64 : ∀ (σ' : kM), out = Sum.inr (Sum.inr σ') → KW x 0 0 Q σ' 64 [none, none, none, none] []) : KW x 0 0 Q σ 29 [some (kr 0), some (ki x1), some (ki x2), some (ki x3)] [] := by
  unfold mm_hurt_l29 at h
  refine kw_iload_n C (kdec dc_M_hurt 17 rfl) rfl 30 rfl rfl ?_
  refine kw_bipush (v := 60) C (kdec dc_M_hurt 18 rfl) 32 rfl (by decide) ⟨by decide, by decide⟩ ?_
  refine kw_icmp_gt C (kdec dc_M_hurt 19 rfl) 64 35 (by decide) rfl (fun hc32 => ?_) (fun hc32 => ?_)
  · rw [if_pos hc32] at h
    obtain rfl := Option.some.inj h
    exact kw_sub (L' := [none, none, none, none]) trivial (hX64 _ rfl)
  · rw [if_neg hc32] at h
    refine kw_aload_n C (kdec dc_M_hurt 20 rfl) rfl 36 rfl rfl ?_
    refine kw_sipush (v := 145) C (kdec dc_M_hurt 21 rfl) 39 rfl (by decide) ⟨by decide, by decide⟩ ?_
    obtain ⟨σ_7, hg_10, h⟩ := kbind_h h
    refine kw_callV (As := [ki 145]) C (kdec dc_M_hurt 22 rfl) 42 rfl cv_M_352 rfl rfl (mt_mm_yearGoes l0 hg_10) ⟨rfl, rfl⟩ ⟨Nat.le_of_ble_eq_true rfl, Nat.le_of_ble_eq_true rfl⟩ ⟨Nat.zero_le _, Nat.zero_le _⟩ rfl (Nat.le_of_ble_eq_true rfl) ?_
    change KW x 0 0 Q σ_7 42 [some (kr 0), some (ki x1), some (ki x2), some (ki x3)] []
    refine kw_aload_n C (kdec dc_M_hurt 23 rfl) rfl 43 rfl rfl ?_
    refine kw_getR C (kdec dc_M_hurt 24 rfl) 46 rfl fd_M_M_75_0 ?_
    refine kw_iload_n C (kdec dc_M_hurt 25 rfl) rfl 47 rfl rfl ?_
    obtain ⟨hc_8, h⟩ := kchk_h h
    refine kw_iald C (kdec dc_M_hurt 26 rfl) 48 rfl rfl hc_8.1 hc_8.2 ?_
    refine kw_iload_n C (kdec dc_M_hurt 27 rfl) rfl 49 rfl rfl ?_
    refine kw_ishr C (kdec dc_M_hurt 28 rfl) 50 rfl ?_
    refine kw_iconst C (kdec dc_M_hurt 29 rfl) 51 rfl rfl ⟨by decide, by decide⟩ ?_
    refine kw_iand C (kdec dc_M_hurt 30 rfl) 52 rfl ?_
    refine kw_iconst C (kdec dc_M_hurt 31 rfl) 53 rfl rfl ⟨by decide, by decide⟩ ?_
    refine kw_icmp_ne C (kdec dc_M_hurt 32 rfl) 58 56 (by decide) rfl (fun hc53 => ?_) (fun hc53 => ?_)
    · rw [if_neg hc53] at h
      obtain ⟨x3_9, ex3_9, h⟩ := klet_h h
      refine kw_iinc (L' := [some (kr 0), some (ki x1), some (ki x2), some (ki x3_9)]) C (kdec dc_M_hurt 35 rfl) 61 rfl rfl (by decide) rfl (by rw [ex3_9]; rfl) ?_
      refine kw_goto C (kdec dc_M_hurt 36 rfl) 29 (by decide) ?_
      obtain rfl := Option.some.inj h
      exact (hC _ _ rfl)
    · rw [if_pos hc53] at h
      obtain rfl := Option.some.inj h
      exact kw_sub (L' := [none, none, none, some (ki x3)]) ⟨rfl, trivial⟩ (hX56 _ _ rfl)
theorem lp_mm_hurt_l29 {x : kX} {l0 : Launch} {Q : State → Prop} (C : kCx x prog_14_method_85_code "PoetFinesModel" (some .int) kcl yM 4 l0 R0_mm_hurt) (x1 : Int) (x2 : Int) {ex : (kM × Int) ⊕ (kM)} (hX56 : ∀ (σ' : kM) (x3' : Int), ex = (Sum.inl (σ', x3')) → KW x 0 0 Q σ' 56 [none, none, none, some (ki x3')] []) (hX64 : ∀ (σ' : kM), ex = (Sum.inr σ') → KW x 0 0 Q σ' 64 [none, none, none, none] []) (n : Nat) (σ : kM) (x3 : Int) (h : kloop (fun st => mm_hurt_l29 st.1 x1 x2 st.2) n (σ, x3) = some ex) : KW x 0 0 Q σ 29 [some (kr 0), some (ki x1), some (ki x2), some (ki x3)] [] :=
  kloop_ind (P := (fun st : kM × Int => KW x 0 0 Q st.1 29 [some (kr 0), some (ki x1), some (ki x2), some (ki (st.2))] [])) (fun st out hb hc hx => bd_mm_hurt_l29 C st.1 x1 x2 st.2 hb (fun a0 a1 e => hc _ e) (fun a0 a1 e => hX56 _ _ ((hx _ e).symm)) (fun a0 e => hX64 _ ((hx _ e).symm))) n (σ, x3) h
def mm_hurt (σ : kM) (x1 : Int) (x2 : Int) : Option (Int × kM) :=
  klet (kst σ 0 (kup (σ 0) 0 0)) fun σ_1 =>
  (mm_isPerson σ_1 x1).bind fun (r_2, σ_3) =>
  if r_2 = 0 then
    some ((0, σ_3))
  else
    (mm_isPoet σ_3 x2).bind fun (r_4, σ_5) =>
    if r_4 = 0 then
      some ((0, σ_5))
    else
      (mm_tries σ_5).bind fun σ_6 =>
      (kloop (fun st => mm_hurt_l29 st.1 x1 x2 st.2) kFuel (σ_6, 1)).bind fun ex_11 => match ex_11 with
        | (Sum.inl (σ_13, x3_14)) =>
          some ((x3_14, σ_13))
        | (Sum.inr σ_15) =>
          some (((-1), σ_15))
set_option maxHeartbeats 4000000 in
theorem bd_mm_hurt {x : kX} {l0 : Launch} {Q : State → Prop} (C : kCx x prog_14_method_85_code "PoetFinesModel" (some .int) kcl yM 4 l0 R0_mm_hurt) (σ : kM) (x1 : Int) (x2 : Int) {out : Int × kM} (h : mm_hurt σ x1 x2 = some out) (hR : ∀ (r : Int) (τ : kM), out = (r, τ) → Q = kQ x (some (ki r)) τ 0 0) : KW x 0 0 Q σ 0 [some (kr 0), some (ki x1), some (ki x2), none] [] := by
  unfold mm_hurt at h
  refine kw_aload_n C (kdec dc_M_hurt 0 rfl) rfl 1 rfl rfl ?_
  refine kw_iconst C (kdec dc_M_hurt 1 rfl) 2 rfl rfl ⟨by decide, by decide⟩ ?_
  obtain ⟨σ_1, eσ_1, h⟩ := klet_h h
  refine kw_putI C (kdec dc_M_hurt 2 rfl) 5 rfl fp_M_M_99_0 ?_
  refine kw_sig eσ_1 ?_
  refine kw_aload_n C (kdec dc_M_hurt 3 rfl) rfl 6 rfl rfl ?_
  refine kw_iload_n C (kdec dc_M_hurt 4 rfl) rfl 7 rfl rfl ?_
  obtain ⟨⟨r_2, σ_3⟩, hg_18, h⟩ := kbind_h h
  dsimp only at h
  refine kw_callV (As := [ki x1]) C (kdec dc_M_hurt 5 rfl) 10 rfl cv_M_370 rfl rfl (mt_mm_isPerson l0 hg_18) ⟨rfl, rfl⟩ ⟨Nat.le_of_ble_eq_true rfl, Nat.le_of_ble_eq_true rfl⟩ ⟨Nat.zero_le _, Nat.zero_le _⟩ rfl (Nat.le_of_ble_eq_true rfl) ?_
  change KW x 0 0 Q σ_3 10 [some (kr 0), some (ki x1), some (ki x2), none] [ki r_2]
  refine kw_if_eq C (kdec dc_M_hurt 6 rfl) 21 13 (by decide) rfl (fun hc10 => ?_) (fun hc10 => ?_)
  · rw [if_pos hc10] at h
    refine kw_iconst C (kdec dc_M_hurt 11 rfl) 22 rfl rfl ⟨by decide, by decide⟩ ?_
    obtain rfl := Option.some.inj h
    exact kw_Q (hR _ _ rfl) (kw_ireturn C (kdec dc_M_hurt 12 rfl))
  · rw [if_neg hc10] at h
    refine kw_aload_n C (kdec dc_M_hurt 7 rfl) rfl 14 rfl rfl ?_
    refine kw_iload_n C (kdec dc_M_hurt 8 rfl) rfl 15 rfl rfl ?_
    obtain ⟨⟨r_4, σ_5⟩, hg_17, h⟩ := kbind_h h
    dsimp only at h
    refine kw_callV (As := [ki x2]) C (kdec dc_M_hurt 9 rfl) 18 rfl cv_M_367 rfl rfl (mt_mm_isPoet l0 hg_17) ⟨rfl, rfl⟩ ⟨Nat.le_of_ble_eq_true rfl, Nat.le_of_ble_eq_true rfl⟩ ⟨Nat.zero_le _, Nat.zero_le _⟩ rfl (Nat.le_of_ble_eq_true rfl) ?_
    change KW x 0 0 Q σ_5 18 [some (kr 0), some (ki x1), some (ki x2), none] [ki r_4]
    refine kw_if_ne C (kdec dc_M_hurt 10 rfl) 23 21 (by decide) rfl (fun hc18 => ?_) (fun hc18 => ?_)
    · rw [if_neg hc18] at h
      refine kw_aload_n C (kdec dc_M_hurt 13 rfl) rfl 24 rfl rfl ?_
      obtain ⟨σ_6, hg_16, h⟩ := kbind_h h
      refine kw_callV (As := []) C (kdec dc_M_hurt 14 rfl) 27 rfl cv_M_349 rfl rfl (mt_mm_tries l0 hg_16) ⟨rfl, rfl⟩ ⟨Nat.le_of_ble_eq_true rfl, Nat.le_of_ble_eq_true rfl⟩ ⟨Nat.zero_le _, Nat.zero_le _⟩ rfl (Nat.le_of_ble_eq_true rfl) ?_
      change KW x 0 0 Q σ_6 27 [some (kr 0), some (ki x1), some (ki x2), none] []
      refine kw_iconst C (kdec dc_M_hurt 15 rfl) 28 rfl rfl ⟨by decide, by decide⟩ ?_
      refine kw_istore_n (L' := [some (kr 0), some (ki x1), some (ki x2), some (ki 1)]) C (kdec dc_M_hurt 16 rfl) rfl 29 rfl (by decide) rfl rfl ?_
      obtain ⟨ex_11, hl_12, h⟩ := kbind_h h
      refine lp_mm_hurt_l29 C x1 x2 ?_ ?_ kFuel σ_6 1 hl_12
      · intro σ_13 x3_14 e
        subst ex_11
        try dsimp only at h
        refine kw_iload_n C (kdec dc_M_hurt 33 rfl) rfl 57 rfl rfl ?_
        obtain rfl := Option.some.inj h
        exact kw_Q (hR _ _ rfl) (kw_ireturn C (kdec dc_M_hurt 34 rfl))
      · intro σ_15 e
        subst ex_11
        try dsimp only at h
        refine kw_iconst C (kdec dc_M_hurt 37 rfl) 65 rfl rfl ⟨by decide, by decide⟩ ?_
        obtain rfl := Option.some.inj h
        exact kw_Q (hR _ _ rfl) (kw_ireturn C (kdec dc_M_hurt 38 rfl))
    · rw [if_pos hc18] at h
      refine kw_iconst C (kdec dc_M_hurt 11 rfl) 22 rfl rfl ⟨by decide, by decide⟩ ?_
      obtain rfl := Option.some.inj h
      exact kw_Q (hR _ _ rfl) (kw_ireturn C (kdec dc_M_hurt 12 rfl))
theorem mt_mm_hurt (l0 : Launch) {σ : kM} {x1 : Int} {x2 : Int} {r : Int} {τ : kM} (h : mm_hurt σ x1 x2 = some (r, τ)) : kMet l0 ky_M_hurt prog_14_method_85_code 4 (some .int) R0_mm_hurt kcl yM σ [kr 0, ki x1, ki x2] (some (ki r)) τ := kMet.of' [some (kr 0), some (ki x1), some (ki x2), none] (by decide) (Nat.le_of_ble_eq_true rfl) ⟨rfl, rfl, rfl, trivial⟩ (fun x C => bd_mm_hurt C σ x1 x2 h (fun r τ e => by cases e; rfl))

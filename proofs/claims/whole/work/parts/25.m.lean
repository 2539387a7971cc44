def R0_mm_goesTo : Room := ({ frames := 6, cells := 0, slots := 0, locals := 146 } : Room)
def mm_goesTo_l6 (σ : kM) (x1 : Int) (x2 : Int) : Option ((kM × Int) ⊕ ((kM))) :=
  if x1 ≤ x2 then
    some (Sum.inr σ)
  else
    (mm_yearGoes σ 145).bind fun σ_2 =>
    klet (w32 (x2 + 1)) fun x2_3 =>
    some (Sum.inl (σ_2, x2_3))
set_option maxHeartbeats 4000000 in
theorem bd_mm_goesTo_l6 {x : kX} {l0 : Launch} {Q : State → Prop} (C : kCx x prog_14_method_57_code "PoetFinesModel" none kcl yM 3 l0 R0_mm_goesTo) (σ : kM) (x1 : Int) (x2 : Int) {out : (kM × Int) ⊕ ((kM))} (h : mm_goesTo_l6 σ x1 x2 = some out) (hC : ∀ (σ' : kM) (x2' : Int), out = Sum.inl (σ', x2') → KW x 0 0 Q σ' 6 [some (kr 0), some (ki x1), some (ki x2')] []) (hX24 : ∀ (σ' : kM), out = Sum.inr σ' → KW x 0 0 Q σ' 24 [none, none, none] []) : KW x 0 0 Q σ 6 [some (kr 0), some (ki x1), some (ki x2)] [] := by
  unfold mm_goesTo_l6 at h
  refine kw_iload_n C (kdec dc_M_goesTo 4 rfl) rfl 7 rfl rfl ?_
  refine kw_iload_n C (kdec dc_M_goesTo 5 rfl) rfl 8 rfl rfl ?_
  refine kw_icmp_ge C (kdec dc_M_goesTo 6 rfl) 24 11 (by decide) rfl (fun hc8 => ?_) (fun hc8 => ?_)
  · rw [if_pos hc8] at h
    obtain rfl := Option.some.inj h
    exact kw_sub (L' := [none, none, none]) trivial (hX24 _ rfl)
  · rw [if_neg hc8] at h
    refine kw_aload_n C (kdec dc_M_goesTo 7 rfl) rfl 12 rfl rfl ?_
    refine kw_sipush (v := 145) C (kdec dc_M_goesTo 8 rfl) 15 rfl (by decide) ⟨by decide, by decide⟩ ?_
    obtain ⟨σ_2, hg_4, h⟩ := kbind_h h
    refine kw_callV (As := [ki 145]) C (kdec dc_M_goesTo 9 rfl) 18 rfl cv_M_352 rfl rfl (mt_mm_yearGoes l0 hg_4) ⟨rfl, rfl⟩ ⟨Nat.le_of_ble_eq_true rfl, Nat.le_of_ble_eq_true rfl⟩ ⟨Nat.zero_le _, Nat.zero_le _⟩ rfl (Nat.le_of_ble_eq_true rfl) ?_
    change KW x 0 0 Q σ_2 18 [some (kr 0), some (ki x1), some (ki x2)] []
    obtain ⟨x2_3, ex2_3, h⟩ := klet_h h
    refine kw_iinc (L' := [some (kr 0), some (ki x1), some (ki x2_3)]) C (kdec dc_M_goesTo 10 rfl) 21 rfl rfl (by decide) rfl (by rw [ex2_3]; rfl) ?_
    refine kw_goto C (kdec dc_M_goesTo 11 rfl) 6 (by decide) ?_
    obtain rfl := Option.some.inj h
    exact (hC _ _ rfl)
theorem lp_mm_goesTo_l6 {x : kX} {l0 : Launch} {Q : State → Prop} (C : kCx x prog_14_method_57_code "PoetFinesModel" none kcl yM 3 l0 R0_mm_goesTo) (x1 : Int) {ex : (kM)} (hX24 : ∀ (σ' : kM), ex = σ' → KW x 0 0 Q σ' 24 [none, none, none] []) (n : Nat) (σ : kM) (x2 : Int) (h : kloop (fun st => mm_goesTo_l6 st.1 x1 st.2) n (σ, x2) = some ex) : KW x 0 0 Q σ 6 [some (kr 0), some (ki x1), some (ki x2)] [] :=
  kloop_ind (P := (fun st : kM × Int => KW x 0 0 Q st.1 6 [some (kr 0), some (ki x1), some (ki (st.2))] [])) (fun st out hb hc hx => bd_mm_goesTo_l6 C st.1 x1 st.2 hb (fun a0 a1 e => hc _ e) (fun a0 e => hX24 _ ((hx _ e).symm))) n (σ, x2) h
def mm_goesTo (σ : kM) (x1 : Int) : Option (kM) :=
  (mm_tries σ).bind fun σ_1 =>
  (kloop (fun st => mm_goesTo_l6 st.1 x1 st.2) kFuel (σ_1, 0)).bind fun σ_7 =>
  some σ_7
set_option maxHeartbeats 4000000 in
theorem bd_mm_goesTo {x : kX} {l0 : Launch} {Q : State → Prop} (C : kCx x prog_14_method_57_code "PoetFinesModel" none kcl yM 3 l0 R0_mm_goesTo) (σ : kM) (x1 : Int) {out : kM} (h : mm_goesTo σ x1 = some out) (hR : ∀ (τ : kM), out = τ → Q = kQ x none τ 0 0) : KW x 0 0 Q σ 0 [some (kr 0), some (ki x1), none] [] := by
  unfold mm_goesTo at h
  refine kw_aload_n C (kdec dc_M_goesTo 0 rfl) rfl 1 rfl rfl ?_
  obtain ⟨σ_1, hg_8, h⟩ := kbind_h h
  refine kw_callV (As := []) C (kdec dc_M_goesTo 1 rfl) 4 rfl cv_M_349 rfl rfl (mt_mm_tries l0 hg_8) ⟨rfl, rfl⟩ ⟨Nat.le_of_ble_eq_true rfl, Nat.le_of_ble_eq_true rfl⟩ ⟨Nat.zero_le _, Nat.zero_le _⟩ rfl (Nat.le_of_ble_eq_true rfl) ?_
  change KW x 0 0 Q σ_1 4 [some (kr 0), some (ki x1), none] []
  refine kw_iconst C (kdec dc_M_goesTo 2 rfl) 5 rfl rfl ⟨by decide, by decide⟩ ?_
  refine kw_istore_n (L' := [some (kr 0), some (ki x1), some (ki 0)]) C (kdec dc_M_goesTo 3 rfl) rfl 6 rfl (by decide) rfl rfl ?_
  obtain ⟨ex_5, hl_6, h⟩ := kbind_h h
  refine lp_mm_goesTo_l6 C x1 ?_ kFuel σ_1 0 hl_6
  · intro σ_7 e
    subst ex_5
    try dsimp only at h
    obtain rfl := Option.some.inj h
    exact kw_Q (hR _ rfl) (kw_return C (kdec dc_M_goesTo 12 rfl))
theorem mt_mm_goesTo (l0 : Launch) {σ : kM} {x1 : Int} {τ : kM} (h : mm_goesTo σ x1 = some τ) : kMet l0 ky_M_goesTo prog_14_method_57_code 3 none R0_mm_goesTo kcl yM σ [kr 0, ki x1] none τ := kMet.of' [some (kr 0), some (ki x1), none] (by decide) (Nat.le_of_ble_eq_true rfl) ⟨rfl, rfl, trivial⟩ (fun x C => bd_mm_goesTo C σ x1 h (fun τ e => by subst e; rfl))
def R0_mm_sumOf : Room := ({ frames := 0, cells := 0, slots := 0, locals := 0 } : Room)
def mm_sumOf_l6 (σ : kM) (x1 : Int) (x2 : Int) (x3 : Int) (x4 : Int) (x5 : Int) : Option ((Int × Int) ⊕ ((Int))) :=
  if x3 ≤ x5 then
    some (Sum.inr x4)
  else
    kchk (0 ≤ (w32 ((w32 (x1 + x2)) + x5)) ∧ (w32 ((w32 (x1 + x2)) + x5)) < 290) <|
    klet (w32 (x4 + (σ 8 (w32 ((w32 (x1 + x2)) + x5)).toNat))) fun x4_2 =>
    klet (w32 (x5 + 1)) fun x5_3 =>
    some (Sum.inl (x4_2, x5_3))
set_option maxHeartbeats 4000000 in
theorem bd_mm_sumOf_l6 {x : kX} {l0 : Launch} {Q : State → Prop} (C : kCx x prog_14_method_58_code "PoetFinesModel" (some .int) kcl yM 6 l0 R0_mm_sumOf) (σ : kM) (x1 : Int) (x2 : Int) (x3 : Int) (x4 : Int) (x5 : Int) {out : (Int × Int) ⊕ ((Int))} (h : mm_sumOf_l6 σ x1 x2 x3 x4 x5 = some out) (hC : ∀ (x4' : Int) (x5' : Int), out = Sum.inl (x4', x5') → KW x 0 0 Q σ 6 [some (kr 0), some (ki x1), some (ki x2), some (ki x3), some (ki x4'), some (ki x5')] []) (hX34 : ∀ (x4' : Int), out = Sum.inr x4' → KW x 0 0 Q σ 34 [none, none, none, none, some (ki x4'), none] []) : KW x 0 0 Q σ 6 [some (kr 0), some (ki x1), some (ki x2), some (ki x3), some (ki x4), some (ki x5)] [] := by
  unfold mm_sumOf_l6 at h
  refine kw_iload C (kdec dc_M_sumOf 4 rfl) 8 rfl rfl ?_
  refine kw_iload_n C (kdec dc_M_sumOf 5 rfl) rfl 9 rfl rfl ?_
  refine kw_icmp_ge C (kdec dc_M_sumOf 6 rfl) 34 12 (by decide) rfl (fun hc9 => ?_) (fun hc9 => ?_)
  · rw [if_pos hc9] at h
    obtain rfl := Option.some.inj h
    exact kw_sub (L' := [none, none, none, none, some (ki x4), none]) ⟨rfl, trivial⟩ (hX34 _ rfl)
  · rw [if_neg hc9] at h
    refine kw_iload C (kdec dc_M_sumOf 7 rfl) 14 rfl rfl ?_
    refine kw_aload_n C (kdec dc_M_sumOf 8 rfl) rfl 15 rfl rfl ?_
    refine kw_getR C (kdec dc_M_sumOf 9 rfl) 18 rfl fd_M_M_48_0 ?_
    refine kw_iload_n C (kdec dc_M_sumOf 10 rfl) rfl 19 rfl rfl ?_
    refine kw_iload_n C (kdec dc_M_sumOf 11 rfl) rfl 20 rfl rfl ?_
    refine kw_iadd C (kdec dc_M_sumOf 12 rfl) 21 rfl ?_
    refine kw_iload C (kdec dc_M_sumOf 13 rfl) 23 rfl rfl ?_
    refine kw_iadd C (kdec dc_M_sumOf 14 rfl) 24 rfl ?_
    obtain ⟨hc_1, h⟩ := kchk_h h
    refine kw_iald C (kdec dc_M_sumOf 15 rfl) 25 rfl rfl hc_1.1 hc_1.2 ?_
    refine kw_iadd C (kdec dc_M_sumOf 16 rfl) 26 rfl ?_
    obtain ⟨x4_2, ex4_2, h⟩ := klet_h h
    refine kw_top ex4_2 ?_
    refine kw_istore (L' := [some (kr 0), some (ki x1), some (ki x2), some (ki x3), some (ki x4_2), some (ki x5)]) C (kdec dc_M_sumOf 17 rfl) 28 rfl (by decide) rfl rfl ?_
    obtain ⟨x5_3, ex5_3, h⟩ := klet_h h
    refine kw_iinc (L' := [some (kr 0), some (ki x1), some (ki x2), some (ki x3), some (ki x4_2), some (ki x5_3)]) C (kdec dc_M_sumOf 18 rfl) 31 rfl rfl (by decide) rfl (by rw [ex5_3]; rfl) ?_
    refine kw_goto C (kdec dc_M_sumOf 19 rfl) 6 (by decide) ?_
    obtain rfl := Option.some.inj h
    exact (hC _ _ rfl)
theorem lp_mm_sumOf_l6 {x : kX} {l0 : Launch} {Q : State → Prop} (C : kCx x prog_14_method_58_code "PoetFinesModel" (some .int) kcl yM 6 l0 R0_mm_sumOf) (σ : kM) (x1 : Int) (x2 : Int) (x3 : Int) {ex : (Int)} (hX34 : ∀ (x4' : Int), ex = x4' → KW x 0 0 Q σ 34 [none, none, none, none, some (ki x4'), none] []) (n : Nat) (x4 : Int) (x5 : Int) (h : kloop (fun st => mm_sumOf_l6 σ x1 x2 x3 st.1 st.2) n (x4, x5) = some ex) : KW x 0 0 Q σ 6 [some (kr 0), some (ki x1), some (ki x2), some (ki x3), some (ki x4), some (ki x5)] [] :=
  kloop_ind (P := (fun st : Int × Int => KW x 0 0 Q σ 6 [some (kr 0), some (ki x1), some (ki x2), some (ki x3), some (ki (st.1)), some (ki (st.2))] [])) (fun st out hb hc hx => bd_mm_sumOf_l6 C σ x1 x2 x3 st.1 st.2 hb (fun a0 a1 e => hc _ e) (fun a0 e => hX34 _ ((hx _ e).symm))) n (x4, x5) h
def mm_sumOf (σ : kM) (x1 : Int) (x2 : Int) (x3 : Int) : Option (Int) :=
  (kloop (fun st => mm_sumOf_l6 σ x1 x2 x3 st.1 st.2) kFuel (0, 0)).bind fun x4_6 =>
  some x4_6
set_option maxHeartbeats 4000000 in
theorem bd_mm_sumOf {x : kX} {l0 : Launch} {Q : State → Prop} (C : kCx x prog_14_method_58_code "PoetFinesModel" (some .int) kcl yM 6 l0 R0_mm_sumOf) (σ : kM) (x1 : Int) (x2 : Int) (x3 : Int) {out : Int} (h : mm_sumOf σ x1 x2 x3 = some out) (hR : ∀ (r : Int), out = r → Q = kQ x (some (ki r)) σ 0 0) : KW x 0 0 Q σ 0 [some (kr 0), some (ki x1), some (ki x2), some (ki x3), none, none] [] := by
  unfold mm_sumOf at h
  refine kw_iconst C (kdec dc_M_sumOf 0 rfl) 1 rfl rfl ⟨by decide, by decide⟩ ?_
  refine kw_istore (L' := [some (kr 0), some (ki x1), some (ki x2), some (ki x3), some (ki 0), none]) C (kdec dc_M_sumOf 1 rfl) 3 rfl (by decide) rfl rfl ?_
  refine kw_iconst C (kdec dc_M_sumOf 2 rfl) 4 rfl rfl ⟨by decide, by decide⟩ ?_
  refine kw_istore (L' := [some (kr 0), some (ki x1), some (ki x2), some (ki x3), some (ki 0), some (ki 0)]) C (kdec dc_M_sumOf 3 rfl) 6 rfl (by decide) rfl rfl ?_
  obtain ⟨ex_4, hl_5, h⟩ := kbind_h h
  refine lp_mm_sumOf_l6 C σ x1 x2 x3 ?_ kFuel 0 0 hl_5
  · intro x4_6 e
    subst ex_4
    try dsimp only at h
    refine kw_iload C (kdec dc_M_sumOf 20 rfl) 36 rfl rfl ?_
    obtain rfl := Option.some.inj h
    exact kw_Q (hR _ rfl) (kw_ireturn C (kdec dc_M_sumOf 21 rfl))
theorem mt_mm_sumOf (l0 : Launch) {σ : kM} {x1 : Int} {x2 : Int} {x3 : Int} {r : Int} (h : mm_sumOf σ x1 x2 x3 = some r) : kMet l0 ky_M_sumOf prog_14_method_58_code 6 (some .int) R0_mm_sumOf kcl yM σ [kr 0, ki x1, ki x2, ki x3] (some (ki r)) σ := kMet.of' [some (kr 0), some (ki x1), some (ki x2), some (ki x3), none, none] (by decide) (Nat.le_of_ble_eq_true rfl) ⟨rfl, rfl, rfl, rfl, trivial⟩ (fun x C => bd_mm_sumOf C σ x1 x2 x3 h (fun r e => by subst e; rfl))
def R0_mm_wholeOnes : Room := ({ frames := 0, cells := 0, slots := 0, locals := 0 } : Room)
def mm_wholeOnes_l4_j34 (σ : kM) (x1 : Int) (x3 : Int) (s0 : Int) (s1 : Int) : Option ((Int × Int) ⊕ ((Int))) :=
  klet (kor s1 s0) fun x2_2 =>
  klet (w32 (x3 + 1)) fun x3_3 =>
  some (Sum.inl (x2_2, x3_3))
set_option maxHeartbeats 4000000 in
theorem bd_mm_wholeOnes_l4_j34 {x : kX} {l0 : Launch} {Q : State → Prop} (C : kCx x prog_14_method_59_code "PoetFinesModel" (some .int) kcl yM 4 l0 R0_mm_wholeOnes) (σ : kM) (x1 : Int) (x3 : Int) (s0 : Int) (s1 : Int) {out : (Int × Int) ⊕ ((Int))} (h : mm_wholeOnes_l4_j34 σ x1 x3 s0 s1 = some out) (hC : ∀ (x2' : Int) (x3' : Int), out = Sum.inl (x2', x3') → KW x 0 0 Q σ 4 [some (kr 0), some (ki x1), some (ki x2'), some (ki x3')] []) (hX42 : ∀ (x2' : Int), out = Sum.inr x2' → KW x 0 0 Q σ 42 [none, none, some (ki x2'), none] []) : KW x 0 0 Q σ 34 [some (kr 0), some (ki x1), none, some (ki x3)] [ki s0, ki s1] := by
  unfold mm_wholeOnes_l4_j34 at h
  refine kw_ior C (kdec dc_M_wholeOnes 23 rfl) 35 rfl ?_
  obtain ⟨x2_2, ex2_2, h⟩ := klet_h h
  refine kw_top ex2_2 ?_
  refine kw_istore_n (L' := [some (kr 0), some (ki x1), some (ki x2_2), some (ki x3)]) C (kdec dc_M_wholeOnes 24 rfl) rfl 36 rfl (by decide) rfl rfl ?_
  obtain ⟨x3_3, ex3_3, h⟩ := klet_h h
  refine kw_iinc (L' := [some (kr 0), some (ki x1), some (ki x2_2), some (ki x3_3)]) C (kdec dc_M_wholeOnes 25 rfl) 39 rfl rfl (by decide) rfl (by rw [ex3_3]; rfl) ?_
  refine kw_goto C (kdec dc_M_wholeOnes 26 rfl) 4 (by decide) ?_
  obtain rfl := Option.some.inj h
  exact (hC _ _ rfl)
def mm_wholeOnes_l4 (σ : kM) (x1 : Int) (x2 : Int) (x3 : Int) : Option ((Int × Int) ⊕ ((Int))) :=
  if (σ 0 2) ≤ x3 then
    some (Sum.inr x2)
  else
    kchk (0 ≤ (w32 ((w32 (x1 + 9)) + x3)) ∧ (w32 ((w32 (x1 + 9)) + x3)) < 290) <|
    if (σ 8 (w32 ((w32 (x1 + 9)) + x3)).toNat) = 0 then
      mm_wholeOnes_l4_j34 σ x1 x3 (kshl 1 x3) x2
    else
      mm_wholeOnes_l4_j34 σ x1 x3 0 x2
set_option maxHeartbeats 4000000 in
theorem bd_mm_wholeOnes_l4 {x : kX} {l0 : Launch} {Q : State → Prop} (C : kCx x prog_14_method_59_code "PoetFinesModel" (some .int) kcl yM 4 l0 R0_mm_wholeOnes) (σ : kM) (x1 : Int) (x2 : Int) (x3 : Int) {out : (Int × Int) ⊕ ((Int))} (h : mm_wholeOnes_l4 σ x1 x2 x3 = some out) (hC : ∀ (x2' : Int) (x3' : Int), out = Sum.inl (x2', x3') → KW x 0 0 Q σ 4 [some (kr 0), some (ki x1), some (ki x2'), some (ki x3')] []) (hX42 : ∀ (x2' : Int), out = Sum.inr x2' → KW x 0 0 Q σ 42 [none, none, some (ki x2'), none] []) : KW x 0 0 Q σ 4 [some (kr 0), some (ki x1), some (ki x2), some (ki x3)] [] := by
  unfold mm_wholeOnes_l4 at h
  refine kw_iload_n C (kdec dc_M_wholeOnes 4 rfl) rfl 5 rfl rfl ?_
  refine kw_aload_n C (kdec dc_M_wholeOnes 5 rfl) rfl 6 rfl rfl ?_
  refine kw_getI C (kdec dc_M_wholeOnes 6 rfl) 9 rfl fd_M_M_270_0 ?_
  refine kw_icmp_ge C (kdec dc_M_wholeOnes 7 rfl) 42 12 (by decide) rfl (fun hc9 => ?_) (fun hc9 => ?_)
  · rw [if_pos hc9] at h
    obtain rfl := Option.some.inj h
    exact kw_sub (L' := [none, none, some (ki x2), none]) ⟨rfl, trivial⟩ (hX42 _ rfl)
  · rw [if_neg hc9] at h
    refine kw_iload_n C (kdec dc_M_wholeOnes 8 rfl) rfl 13 rfl rfl ?_
    refine kw_aload_n C (kdec dc_M_wholeOnes 9 rfl) rfl 14 rfl rfl ?_
    refine kw_getR C (kdec dc_M_wholeOnes 10 rfl) 17 rfl fd_M_M_48_0 ?_
    refine kw_iload_n C (kdec dc_M_wholeOnes 11 rfl) rfl 18 rfl rfl ?_
    refine kw_bipush (v := 9) C (kdec dc_M_wholeOnes 12 rfl) 20 rfl (by decide) ⟨by decide, by decide⟩ ?_
    refine kw_iadd C (kdec dc_M_wholeOnes 13 rfl) 21 rfl ?_
    refine kw_iload_n C (kdec dc_M_wholeOnes 14 rfl) rfl 22 rfl rfl ?_
    refine kw_iadd C (kdec dc_M_wholeOnes 15 rfl) 23 rfl ?_
    obtain ⟨hc_1, h⟩ := kchk_h h
    refine kw_iald C (kdec dc_M_wholeOnes 16 rfl) 24 rfl rfl hc_1.1 hc_1.2 ?_
    refine kw_if_ne C (kdec dc_M_wholeOnes 17 rfl) 33 27 (by decide) rfl (fun hc24 => ?_) (fun hc24 => ?_)
    · rw [if_neg hc24] at h
      refine kw_iconst C (kdec dc_M_wholeOnes 22 rfl) 34 rfl rfl ⟨by decide, by decide⟩ ?_
      exact kw_sub (L' := [some (kr 0), some (ki x1), none, some (ki x3)]) ⟨rfl, rfl, rfl, trivial⟩ (bd_mm_wholeOnes_l4_j34 C σ x1 x3 0 x2 h hC hX42)
    · rw [if_pos hc24] at h
      refine kw_iconst C (kdec dc_M_wholeOnes 18 rfl) 28 rfl rfl ⟨by decide, by decide⟩ ?_
      refine kw_iload_n C (kdec dc_M_wholeOnes 19 rfl) rfl 29 rfl rfl ?_
      refine kw_ishl C (kdec dc_M_wholeOnes 20 rfl) 30 rfl ?_
      refine kw_goto C (kdec dc_M_wholeOnes 21 rfl) 34 (by decide) ?_
      exact kw_sub (L' := [some (kr 0), some (ki x1), none, some (ki x3)]) ⟨rfl, rfl, rfl, trivial⟩ (bd_mm_wholeOnes_l4_j34 C σ x1 x3 (kshl 1 x3) x2 h hC hX42)
theorem lp_mm_wholeOnes_l4 {x : kX} {l0 : Launch} {Q : State → Prop} (C : kCx x prog_14_method_59_code "PoetFinesModel" (some .int) kcl yM 4 l0 R0_mm_wholeOnes) (σ : kM) (x1 : Int) {ex : (Int)} (hX42 : ∀ (x2' : Int), ex = x2' → KW x 0 0 Q σ 42 [none, none, some (ki x2'), none] []) (n : Nat) (x2 : Int) (x3 : Int) (h : kloop (fun st => mm_wholeOnes_l4 σ x1 st.1 st.2) n (x2, x3) = some ex) : KW x 0 0 Q σ 4 [some (kr 0), some (ki x1), some (ki x2), some (ki x3)] [] :=
  kloop_ind (P := (fun st : Int × Int => KW x 0 0 Q σ 4 [some (kr 0), some (ki x1), some (ki (st.1)), some (ki (st.2))] [])) (fun st out hb hc hx => bd_mm_wholeOnes_l4 C σ x1 st.1 st.2 hb (fun a0 a1 e => hc _ e) (fun a0 e => hX42 _ ((hx _ e).symm))) n (x2, x3) h
def mm_wholeOnes (σ : kM) (x1 : Int) : Option (Int) :=
  (kloop (fun st => mm_wholeOnes_l4 σ x1 st.1 st.2) kFuel (0, 0)).bind fun x2_6 =>
  some x2_6
set_option maxHeartbeats 4000000 in
theorem bd_mm_wholeOnes {x : kX} {l0 : Launch} {Q : State → Prop} (C : kCx x prog_14_method_59_code "PoetFinesModel" (some .int) kcl yM 4 l0 R0_mm_wholeOnes) (σ : kM) (x1 : Int) {out : Int} (h : mm_wholeOnes σ x1 = some out) (hR : ∀ (r : Int), out = r → Q = kQ x (some (ki r)) σ 0 0) : KW x 0 0 Q σ 0 [some (kr 0), some (ki x1), none, none] [] := by
  unfold mm_wholeOnes at h
  refine kw_iconst C (kdec dc_M_wholeOnes 0 rfl) 1 rfl rfl ⟨by decide, by decide⟩ ?_
  refine kw_istore_n (L' := [some (kr 0), some (ki x1), some (ki 0), none]) C (kdec dc_M_wholeOnes 1 rfl) rfl 2 rfl (by decide) rfl rfl ?_
  refine kw_iconst C (kdec dc_M_wholeOnes 2 rfl) 3 rfl rfl ⟨by decide, by decide⟩ ?_
  refine kw_istore_n (L' := [some (kr 0), some (ki x1), some (ki 0), some (ki 0)]) C (kdec dc_M_wholeOnes 3 rfl) rfl 4 rfl (by decide) rfl rfl ?_
  obtain ⟨ex_4, hl_5, h⟩ := kbind_h h
  refine lp_mm_wholeOnes_l4 C σ x1 ?_ kFuel 0 0 hl_5
  · intro x2_6 e
    subst ex_4
    try dsimp only at h
    refine kw_iload_n C (kdec dc_M_wholeOnes 27 rfl) rfl 43 rfl rfl ?_
    obtain rfl := Option.some.inj h
    exact kw_Q (hR _ rfl) (kw_ireturn C (kdec dc_M_wholeOnes 28 rfl))
theorem mt_mm_wholeOnes (l0 : Launch) {σ : kM} {x1 : Int} {r : Int} (h : mm_wholeOnes σ x1 = some r) : kMet l0 ky_M_wholeOnes prog_14_method_59_code 4 (some .int) R0_mm_wholeOnes kcl yM σ [kr 0, ki x1] (some (ki r)) σ := kMet.of' [some (kr 0), some (ki x1), none, none] (by decide) (Nat.le_of_ble_eq_true rfl) ⟨rfl, rfl, trivial⟩ (fun x C => bd_mm_wholeOnes C σ x1 h (fun r e => by subst e; rfl))
def R0_mm_sitting : Room := ({ frames := 0, cells := 0, slots := 0, locals := 0 } : Room)
def mm_sitting_l4_j34 (σ : kM) (x1 : Int) (x3 : Int) (s0 : Int) (s1 : Int) : Option ((Int × Int) ⊕ ((Int))) :=
  klet (kor s1 s0) fun x2_2 =>
  klet (w32 (x3 + 1)) fun x3_3 =>
  some (Sum.inl (x2_2, x3_3))
set_option maxHeartbeats 4000000 in
theorem bd_mm_sitting_l4_j34 {x : kX} {l0 : Launch} {Q : State → Prop} (C : kCx x prog_14_method_60_code "PoetFinesModel" (some .int) kcl yM 4 l0 R0_mm_sitting) (σ : kM) (x1 : Int) (x3 : Int) (s0 : Int) (s1 : Int) {out : (Int × Int) ⊕ ((Int))} (h : mm_sitting_l4_j34 σ x1 x3 s0 s1 = some out) (hC : ∀ (x2' : Int) (x3' : Int), out = Sum.inl (x2', x3') → KW x 0 0 Q σ 4 [some (kr 0), some (ki x1), some (ki x2'), some (ki x3')] []) (hX42 : ∀ (x2' : Int), out = Sum.inr x2' → KW x 0 0 Q σ 42 [none, none, some (ki x2'), none] []) : KW x 0 0 Q σ 34 [some (kr 0), some (ki x1), none, some (ki x3)] [ki s0, ki s1] := by
  unfold mm_sitting_l4_j34 at h
  refine kw_ior C (kdec dc_M_sitting 23 rfl) 35 rfl ?_
  obtain ⟨x2_2, ex2_2, h⟩ := klet_h h
  refine kw_top ex2_2 ?_
  refine kw_istore_n (L' := [some (kr 0), some (ki x1), some (ki x2_2), some (ki x3)]) C (kdec dc_M_sitting 24 rfl) rfl 36 rfl (by decide) rfl rfl ?_
  obtain ⟨x3_3, ex3_3, h⟩ := klet_h h
  refine kw_iinc (L' := [some (kr 0), some (ki x1), some (ki x2_2), some (ki x3_3)]) C (kdec dc_M_sitting 25 rfl) 39 rfl rfl (by decide) rfl (by rw [ex3_3]; rfl) ?_
  refine kw_goto C (kdec dc_M_sitting 26 rfl) 4 (by decide) ?_
  obtain rfl := Option.some.inj h
  exact (hC _ _ rfl)
def mm_sitting_l4 (σ : kM) (x1 : Int) (x2 : Int) (x3 : Int) : Option ((Int × Int) ⊕ ((Int))) :=
  if (σ 0 3) ≤ x3 then
    some (Sum.inr x2)
  else
    kchk (0 ≤ (w32 ((w32 (x1 + 25)) + x3)) ∧ (w32 ((w32 (x1 + 25)) + x3)) < 290) <|
    if (σ 8 (w32 ((w32 (x1 + 25)) + x3)).toNat) ≤ 0 then
      mm_sitting_l4_j34 σ x1 x3 0 x2
    else
      mm_sitting_l4_j34 σ x1 x3 (kshl 1 x3) x2
set_option maxHeartbeats 4000000 in
theorem bd_mm_sitting_l4 {x : kX} {l0 : Launch} {Q : State → Prop} (C : kCx x prog_14_method_60_code "PoetFinesModel" (some .int) kcl yM 4 l0 R0_mm_sitting) (σ : kM) (x1 : Int) (x2 : Int) (x3 : Int) {out : (Int × Int) ⊕ ((Int))} (h : mm_sitting_l4 σ x1 x2 x3 = some out) (hC : ∀ (x2' : Int) (x3' : Int), out = Sum.inl (x2', x3') → KW x 0 0 Q σ 4 [some (kr 0), some (ki x1), some (ki x2'), some (ki x3')] []) (hX42 : ∀ (x2' : Int), out = Sum.inr x2' → KW x 0 0 Q σ 42 [none, none, some (ki x2'), none] []) : KW x 0 0 Q σ 4 [some (kr 0), some (ki x1), some (ki x2), some (ki x3)] [] := by
  unfold mm_sitting_l4 at h
  refine kw_iload_n C (kdec dc_M_sitting 4 rfl) rfl 5 rfl rfl ?_
  refine kw_aload_n C (kdec dc_M_sitting 5 rfl) rfl 6 rfl rfl ?_
  refine kw_getI C (kdec dc_M_sitting 6 rfl) 9 rfl fd_M_M_273_0 ?_
  refine kw_icmp_ge C (kdec dc_M_sitting 7 rfl) 42 12 (by decide) rfl (fun hc9 => ?_) (fun hc9 => ?_)
  · rw [if_pos hc9] at h
    obtain rfl := Option.some.inj h
    exact kw_sub (L' := [none, none, some (ki x2), none]) ⟨rfl, trivial⟩ (hX42 _ rfl)
  · rw [if_neg hc9] at h
    refine kw_iload_n C (kdec dc_M_sitting 8 rfl) rfl 13 rfl rfl ?_
    refine kw_aload_n C (kdec dc_M_sitting 9 rfl) rfl 14 rfl rfl ?_
    refine kw_getR C (kdec dc_M_sitting 10 rfl) 17 rfl fd_M_M_48_0 ?_
    refine kw_iload_n C (kdec dc_M_sitting 11 rfl) rfl 18 rfl rfl ?_
    refine kw_bipush (v := 25) C (kdec dc_M_sitting 12 rfl) 20 rfl (by decide) ⟨by decide, by decide⟩ ?_
    refine kw_iadd C (kdec dc_M_sitting 13 rfl) 21 rfl ?_
    refine kw_iload_n C (kdec dc_M_sitting 14 rfl) rfl 22 rfl rfl ?_
    refine kw_iadd C (kdec dc_M_sitting 15 rfl) 23 rfl ?_
    obtain ⟨hc_1, h⟩ := kchk_h h
    refine kw_iald C (kdec dc_M_sitting 16 rfl) 24 rfl rfl hc_1.1 hc_1.2 ?_
    refine kw_if_le C (kdec dc_M_sitting 17 rfl) 33 27 (by decide) rfl (fun hc24 => ?_) (fun hc24 => ?_)
    · rw [if_pos hc24] at h
      refine kw_iconst C (kdec dc_M_sitting 22 rfl) 34 rfl rfl ⟨by decide, by decide⟩ ?_
      exact kw_sub (L' := [some (kr 0), some (ki x1), none, some (ki x3)]) ⟨rfl, rfl, rfl, trivial⟩ (bd_mm_sitting_l4_j34 C σ x1 x3 0 x2 h hC hX42)
    · rw [if_neg hc24] at h
      refine kw_iconst C (kdec dc_M_sitting 18 rfl) 28 rfl rfl ⟨by decide, by decide⟩ ?_
      refine kw_iload_n C (kdec dc_M_sitting 19 rfl) rfl 29 rfl rfl ?_
      refine kw_ishl C (kdec dc_M_sitting 20 rfl) 30 rfl ?_
      refine kw_goto C (kdec dc_M_sitting 21 rfl) 34 (by decide) ?_
      exact kw_sub (L' := [some (kr 0), some (ki x1), none, some (ki x3)]) ⟨rfl, rfl, rfl, trivial⟩ (bd_mm_sitting_l4_j34 C σ x1 x3 (kshl 1 x3) x2 h hC hX42)
theorem lp_mm_sitting_l4 {x : kX} {l0 : Launch} {Q : State → Prop} (C : kCx x prog_14_method_60_code "PoetFinesModel" (some .int) kcl yM 4 l0 R0_mm_sitting) (σ : kM) (x1 : Int) {ex : (Int)} (hX42 : ∀ (x2' : Int), ex = x2' → KW x 0 0 Q σ 42 [none, none, some (ki x2'), none] []) (n : Nat) (x2 : Int) (x3 : Int) (h : kloop (fun st => mm_sitting_l4 σ x1 st.1 st.2) n (x2, x3) = some ex) : KW x 0 0 Q σ 4 [some (kr 0), some (ki x1), some (ki x2), some (ki x3)] [] :=
  kloop_ind (P := (fun st : Int × Int => KW x 0 0 Q σ 4 [some (kr 0), some (ki x1), some (ki (st.1)), some (ki (st.2))] [])) (fun st out hb hc hx => bd_mm_sitting_l4 C σ x1 st.1 st.2 hb (fun a0 a1 e => hc _ e) (fun a0 e => hX42 _ ((hx _ e).symm))) n (x2, x3) h
def mm_sitting (σ : kM) (x1 : Int) : Option (Int) :=
  (kloop (fun st => mm_sitting_l4 σ x1 st.1 st.2) kFuel (0, 0)).bind fun x2_6 =>
  some x2_6
set_option maxHeartbeats 4000000 in
theorem bd_mm_sitting {x : kX} {l0 : Launch} {Q : State → Prop} (C : kCx x prog_14_method_60_code "PoetFinesModel" (some .int) kcl yM 4 l0 R0_mm_sitting) (σ : kM) (x1 : Int) {out : Int} (h : mm_sitting σ x1 = some out) (hR : ∀ (r : Int), out = r → Q = kQ x (some (ki r)) σ 0 0) : KW x 0 0 Q σ 0 [some (kr 0), some (ki x1), none, none] [] := by
  unfold mm_sitting at h
  refine kw_iconst C (kdec dc_M_sitting 0 rfl) 1 rfl rfl ⟨by decide, by decide⟩ ?_
  refine kw_istore_n (L' := [some (kr 0), some (ki x1), some (ki 0), none]) C (kdec dc_M_sitting 1 rfl) rfl 2 rfl (by decide) rfl rfl ?_
  refine kw_iconst C (kdec dc_M_sitting 2 rfl) 3 rfl rfl ⟨by decide, by decide⟩ ?_
  refine kw_istore_n (L' := [some (kr 0), some (ki x1), some (ki 0), some (ki 0)]) C (kdec dc_M_sitting 3 rfl) rfl 4 rfl (by decide) rfl rfl ?_
  obtain ⟨ex_4, hl_5, h⟩ := kbind_h h
  refine lp_mm_sitting_l4 C σ x1 ?_ kFuel 0 0 hl_5
  · intro x2_6 e
    subst ex_4
    try dsimp only at h
    refine kw_iload_n C (kdec dc_M_sitting 27 rfl) rfl 43 rfl rfl ?_
    obtain rfl := Option.some.inj h
    exact kw_Q (hR _ rfl) (kw_ireturn C (kdec dc_M_sitting 28 rfl))
theorem mt_mm_sitting (l0 : Launch) {σ : kM} {x1 : Int} {r : Int} (h : mm_sitting σ x1 = some r) : kMet l0 ky_M_sitting prog_14_method_60_code 4 (some .int) R0_mm_sitting kcl yM σ [kr 0, ki x1] (some (ki r)) σ := kMet.of' [some (kr 0), some (ki x1), none, none] (by decide) (Nat.le_of_ble_eq_true rfl) ⟨rfl, rfl, trivial⟩ (fun x C => bd_mm_sitting C σ x1 h (fun r e => by subst e; rfl))
def R0_mm_count : Room := ({ frames := 1, cells := 0, slots := 0, locals := 25 } : Room)
def mm_count (σ : kM) (x1 : Int) : Option (Int × kM) :=
  klet (kst σ 0 (kup (σ 0) 0 0)) fun σ_1 =>
  (mm_within σ_1 x1 0 14).bind fun r_2 =>
  (mm_right σ_1 r_2 1).bind fun (r_3, σ_4) =>
  if r_3 = 0 then
    some ((0, σ_4))
  else
    if x1 = 0 then
      some ((σ_4 0 1, σ_4))
    else
      if x1 = 1 then
        some ((σ_4 0 2, σ_4))
      else
        if x1 = 2 then
          some ((σ_4 0 3, σ_4))
        else
          if x1 = 3 then
            some ((σ_4 8 (0 : Int).toNat, σ_4))
          else
            if x1 = 4 then
              (mm_sumOf σ_4 0 1 (σ_4 0 2)).bind fun r_5 =>
              some ((r_5, σ_4))
            else
              if x1 = 5 then
                (mm_sumOf σ_4 0 17 (σ_4 0 3)).bind fun r_7 =>
                some ((r_7, σ_4))
              else
                if x1 = 6 then
                  (mm_sumOf σ_4 0 9 (σ_4 0 2)).bind fun r_9 =>
                  some ((r_9, σ_4))
                else
                  if x1 = 7 then
                    (mm_wholeOnes σ_4 0).bind fun r_11 =>
                    some ((r_11, σ_4))
                  else
                    if x1 = 8 then
                      (mm_sitting σ_4 0).bind fun r_13 =>
                      some ((r_13, σ_4))
                    else
                      if x1 = 9 then
                        some ((σ_4 0 38, σ_4))
                      else
                        if x1 = 10 then
                          some ((σ_4 0 53, σ_4))
                        else
                          if x1 = 11 then
                            some ((σ_4 0 9, σ_4))
                          else
                            kchk (0 ≤ (w32 (x1 - 12)) ∧ (w32 (x1 - 12)) < 3) <|
                            some ((σ_4 3 (w32 (x1 - 12)).toNat, σ_4))
set_option maxHeartbeats 4000000 in
theorem bd_mm_count {x : kX} {l0 : Launch} {Q : State → Prop} (C : kCx x prog_14_method_61_code "PoetFinesModel" (some .int) kcl yM 2 l0 R0_mm_count) (σ : kM) (x1 : Int) {out : Int × kM} (h : mm_count σ x1 = some out) (hR : ∀ (r : Int) (τ : kM), out = (r, τ) → Q = kQ x (some (ki r)) τ 0 0) : KW x 0 0 Q σ 0 [some (kr 0), some (ki x1)] [] := by
  unfold mm_count at h
  refine kw_aload_n C (kdec dc_M_count 0 rfl) rfl 1 rfl rfl ?_
  refine kw_iconst C (kdec dc_M_count 1 rfl) 2 rfl rfl ⟨by decide, by decide⟩ ?_
  obtain ⟨σ_1, eσ_1, h⟩ := klet_h h
  refine kw_putI C (kdec dc_M_count 2 rfl) 5 rfl fp_M_M_99_0 ?_
  refine kw_sig eσ_1 ?_
  refine kw_aload_n C (kdec dc_M_count 3 rfl) rfl 6 rfl rfl ?_
  refine kw_iload_n C (kdec dc_M_count 4 rfl) rfl 7 rfl rfl ?_
  refine kw_iconst C (kdec dc_M_count 5 rfl) 8 rfl rfl ⟨by decide, by decide⟩ ?_
  refine kw_bipush (v := 14) C (kdec dc_M_count 6 rfl) 10 rfl (by decide) ⟨by decide, by decide⟩ ?_
  obtain ⟨r_2, hg_17, h⟩ := kbind_h h
  refine kw_callS (As := [ki x1, ki 0, ki 14]) C (kdec dc_M_count 7 rfl) 13 rfl cs_M_355 (mt_mm_within l0 hg_17) ⟨rfl, rfl⟩ ⟨Nat.le_of_ble_eq_true rfl, Nat.le_of_ble_eq_true rfl⟩ ⟨Nat.zero_le _, Nat.zero_le _⟩ rfl (Nat.le_of_ble_eq_true rfl) ?_
  change KW x 0 0 Q σ_1 13 [some (kr 0), some (ki x1)] [ki r_2, kr 0]
  refine kw_iconst C (kdec dc_M_count 8 rfl) 14 rfl rfl ⟨by decide, by decide⟩ ?_
  obtain ⟨⟨r_3, σ_4⟩, hg_16, h⟩ := kbind_h h
  dsimp only at h
  refine kw_callV (As := [ki r_2, ki 1]) C (kdec dc_M_count 9 rfl) 17 rfl cv_M_263 rfl rfl (mt_mm_right l0 hg_16) ⟨rfl, rfl⟩ ⟨Nat.le_of_ble_eq_true rfl, Nat.le_of_ble_eq_true rfl⟩ ⟨Nat.zero_le _, Nat.zero_le _⟩ rfl (Nat.le_of_ble_eq_true rfl) ?_
  change KW x 0 0 Q σ_4 17 [some (kr 0), some (ki x1)] [ki r_3]
  refine kw_if_ne C (kdec dc_M_count 10 rfl) 22 20 (by decide) rfl (fun hc17 => ?_) (fun hc17 => ?_)
  · rw [if_neg hc17] at h
    refine kw_iload_n C (kdec dc_M_count 13 rfl) rfl 23 rfl rfl ?_
    by_cases hc23_0 : x1 = 0
    · rw [if_pos hc23_0] at h
      refine kw_table C (kdec dc_M_count 14 rfl) 84 (Or.inr ⟨by omega, by omega, _, by rw [hc23_0]; rfl, by decide⟩) ?_
      refine kw_aload_n C (kdec dc_M_count 15 rfl) rfl 85 rfl rfl ?_
      refine kw_getI C (kdec dc_M_count 16 rfl) 88 rfl fd_M_M_7_0 ?_
      obtain rfl := Option.some.inj h
      exact kw_Q (hR _ _ rfl) (kw_ireturn C (kdec dc_M_count 17 rfl))
    · rw [if_neg hc23_0] at h
      by_cases hc23_1 : x1 = 1
      · rw [if_pos hc23_1] at h
        refine kw_table C (kdec dc_M_count 14 rfl) 89 (Or.inr ⟨by omega, by omega, _, by rw [hc23_1]; rfl, by decide⟩) ?_
        refine kw_aload_n C (kdec dc_M_count 18 rfl) rfl 90 rfl rfl ?_
        refine kw_getI C (kdec dc_M_count 19 rfl) 93 rfl fd_M_M_270_0 ?_
        obtain rfl := Option.some.inj h
        exact kw_Q (hR _ _ rfl) (kw_ireturn C (kdec dc_M_count 20 rfl))
      · rw [if_neg hc23_1] at h
        by_cases hc23_2 : x1 = 2
        · rw [if_pos hc23_2] at h
          refine kw_table C (kdec dc_M_count 14 rfl) 94 (Or.inr ⟨by omega, by omega, _, by rw [hc23_2]; rfl, by decide⟩) ?_
          refine kw_aload_n C (kdec dc_M_count 21 rfl) rfl 95 rfl rfl ?_
          refine kw_getI C (kdec dc_M_count 22 rfl) 98 rfl fd_M_M_273_0 ?_
          obtain rfl := Option.some.inj h
          exact kw_Q (hR _ _ rfl) (kw_ireturn C (kdec dc_M_count 23 rfl))
        · rw [if_neg hc23_2] at h
          by_cases hc23_3 : x1 = 3
          · rw [if_pos hc23_3] at h
            refine kw_table C (kdec dc_M_count 14 rfl) 99 (Or.inr ⟨by omega, by omega, _, by rw [hc23_3]; rfl, by decide⟩) ?_
            refine kw_aload_n C (kdec dc_M_count 24 rfl) rfl 100 rfl rfl ?_
            refine kw_getR C (kdec dc_M_count 25 rfl) 103 rfl fd_M_M_48_0 ?_
            refine kw_iconst C (kdec dc_M_count 26 rfl) 104 rfl rfl ⟨by decide, by decide⟩ ?_
            refine kw_iald C (kdec dc_M_count 27 rfl) 105 rfl rfl (by decide) (by decide) ?_
            obtain rfl := Option.some.inj h
            exact kw_Q (hR _ _ rfl) (kw_ireturn C (kdec dc_M_count 28 rfl))
          · rw [if_neg hc23_3] at h
            by_cases hc23_4 : x1 = 4
            · rw [if_pos hc23_4] at h
              refine kw_table C (kdec dc_M_count 14 rfl) 106 (Or.inr ⟨by omega, by omega, _, by rw [hc23_4]; rfl, by decide⟩) ?_
              refine kw_aload_n C (kdec dc_M_count 29 rfl) rfl 107 rfl rfl ?_
              refine kw_iconst C (kdec dc_M_count 30 rfl) 108 rfl rfl ⟨by decide, by decide⟩ ?_
              refine kw_iconst C (kdec dc_M_count 31 rfl) 109 rfl rfl ⟨by decide, by decide⟩ ?_
              refine kw_aload_n C (kdec dc_M_count 32 rfl) rfl 110 rfl rfl ?_
              refine kw_getI C (kdec dc_M_count 33 rfl) 113 rfl fd_M_M_270_0 ?_
              obtain ⟨r_5, hg_6, h⟩ := kbind_h h
              refine kw_callV (As := [ki 0, ki 1, ki (σ_4 0 2)]) C (kdec dc_M_count 34 rfl) 116 rfl cv_M_358 rfl rfl (mt_mm_sumOf l0 hg_6) ⟨rfl, rfl⟩ ⟨Nat.le_of_ble_eq_true rfl, Nat.le_of_ble_eq_true rfl⟩ ⟨Nat.zero_le _, Nat.zero_le _⟩ rfl (Nat.le_of_ble_eq_true rfl) ?_
              change KW x 0 0 Q σ_4 116 [some (kr 0), some (ki x1)] [ki r_5]
              obtain rfl := Option.some.inj h
              exact kw_Q (hR _ _ rfl) (kw_ireturn C (kdec dc_M_count 35 rfl))
            · rw [if_neg hc23_4] at h
              by_cases hc23_5 : x1 = 5
              · rw [if_pos hc23_5] at h
                refine kw_table C (kdec dc_M_count 14 rfl) 117 (Or.inr ⟨by omega, by omega, _, by rw [hc23_5]; rfl, by decide⟩) ?_
                refine kw_aload_n C (kdec dc_M_count 36 rfl) rfl 118 rfl rfl ?_
                refine kw_iconst C (kdec dc_M_count 37 rfl) 119 rfl rfl ⟨by decide, by decide⟩ ?_
                refine kw_bipush (v := 17) C (kdec dc_M_count 38 rfl) 121 rfl (by decide) ⟨by decide, by decide⟩ ?_
                refine kw_aload_n C (kdec dc_M_count 39 rfl) rfl 122 rfl rfl ?_
                refine kw_getI C (kdec dc_M_count 40 rfl) 125 rfl fd_M_M_273_0 ?_
                obtain ⟨r_7, hg_8, h⟩ := kbind_h h
                refine kw_callV (As := [ki 0, ki 17, ki (σ_4 0 3)]) C (kdec dc_M_count 41 rfl) 128 rfl cv_M_358 rfl rfl (mt_mm_sumOf l0 hg_8) ⟨rfl, rfl⟩ ⟨Nat.le_of_ble_eq_true rfl, Nat.le_of_ble_eq_true rfl⟩ ⟨Nat.zero_le _, Nat.zero_le _⟩ rfl (Nat.le_of_ble_eq_true rfl) ?_
                change KW x 0 0 Q σ_4 128 [some (kr 0), some (ki x1)] [ki r_7]
                obtain rfl := Option.some.inj h
                exact kw_Q (hR _ _ rfl) (kw_ireturn C (kdec dc_M_count 42 rfl))
              · rw [if_neg hc23_5] at h
                by_cases hc23_6 : x1 = 6
                · rw [if_pos hc23_6] at h
                  refine kw_table C (kdec dc_M_count 14 rfl) 129 (Or.inr ⟨by omega, by omega, _, by rw [hc23_6]; rfl, by decide⟩) ?_
                  refine kw_aload_n C (kdec dc_M_count 43 rfl) rfl 130 rfl rfl ?_
                  refine kw_iconst C (kdec dc_M_count 44 rfl) 131 rfl rfl ⟨by decide, by decide⟩ ?_
                  refine kw_bipush (v := 9) C (kdec dc_M_count 45 rfl) 133 rfl (by decide) ⟨by decide, by decide⟩ ?_
                  refine kw_aload_n C (kdec dc_M_count 46 rfl) rfl 134 rfl rfl ?_
                  refine kw_getI C (kdec dc_M_count 47 rfl) 137 rfl fd_M_M_270_0 ?_
                  obtain ⟨r_9, hg_10, h⟩ := kbind_h h
                  refine kw_callV (As := [ki 0, ki 9, ki (σ_4 0 2)]) C (kdec dc_M_count 48 rfl) 140 rfl cv_M_358 rfl rfl (mt_mm_sumOf l0 hg_10) ⟨rfl, rfl⟩ ⟨Nat.le_of_ble_eq_true rfl, Nat.le_of_ble_eq_true rfl⟩ ⟨Nat.zero_le _, Nat.zero_le _⟩ rfl (Nat.le_of_ble_eq_true rfl) ?_
                  change KW x 0 0 Q σ_4 140 [some (kr 0), some (ki x1)] [ki r_9]
                  obtain rfl := Option.some.inj h
                  exact kw_Q (hR _ _ rfl) (kw_ireturn C (kdec dc_M_count 49 rfl))
                · rw [if_neg hc23_6] at h
                  by_cases hc23_7 : x1 = 7
                  · rw [if_pos hc23_7] at h
                    refine kw_table C (kdec dc_M_count 14 rfl) 141 (Or.inr ⟨by omega, by omega, _, by rw [hc23_7]; rfl, by decide⟩) ?_
                    refine kw_aload_n C (kdec dc_M_count 50 rfl) rfl 142 rfl rfl ?_
                    refine kw_iconst C (kdec dc_M_count 51 rfl) 143 rfl rfl ⟨by decide, by decide⟩ ?_
                    obtain ⟨r_11, hg_12, h⟩ := kbind_h h
                    refine kw_callV (As := [ki 0]) C (kdec dc_M_count 52 rfl) 146 rfl cv_M_361 rfl rfl (mt_mm_wholeOnes l0 hg_12) ⟨rfl, rfl⟩ ⟨Nat.le_of_ble_eq_true rfl, Nat.le_of_ble_eq_true rfl⟩ ⟨Nat.zero_le _, Nat.zero_le _⟩ rfl (Nat.le_of_ble_eq_true rfl) ?_
                    change KW x 0 0 Q σ_4 146 [some (kr 0), some (ki x1)] [ki r_11]
                    obtain rfl := Option.some.inj h
                    exact kw_Q (hR _ _ rfl) (kw_ireturn C (kdec dc_M_count 53 rfl))
                  · rw [if_neg hc23_7] at h
                    by_cases hc23_8 : x1 = 8
                    · rw [if_pos hc23_8] at h
                      refine kw_table C (kdec dc_M_count 14 rfl) 147 (Or.inr ⟨by omega, by omega, _, by rw [hc23_8]; rfl, by decide⟩) ?_
                      refine kw_aload_n C (kdec dc_M_count 54 rfl) rfl 148 rfl rfl ?_
                      refine kw_iconst C (kdec dc_M_count 55 rfl) 149 rfl rfl ⟨by decide, by decide⟩ ?_
                      obtain ⟨r_13, hg_14, h⟩ := kbind_h h
                      refine kw_callV (As := [ki 0]) C (kdec dc_M_count 56 rfl) 152 rfl cv_M_364 rfl rfl (mt_mm_sitting l0 hg_14) ⟨rfl, rfl⟩ ⟨Nat.le_of_ble_eq_true rfl, Nat.le_of_ble_eq_true rfl⟩ ⟨Nat.zero_le _, Nat.zero_le _⟩ rfl (Nat.le_of_ble_eq_true rfl) ?_
                      change KW x 0 0 Q σ_4 152 [some (kr 0), some (ki x1)] [ki r_13]
                      obtain rfl := Option.some.inj h
                      exact kw_Q (hR _ _ rfl) (kw_ireturn C (kdec dc_M_count 57 rfl))
                    · rw [if_neg hc23_8] at h
                      by_cases hc23_9 : x1 = 9
                      · rw [if_pos hc23_9] at h
                        refine kw_table C (kdec dc_M_count 14 rfl) 153 (Or.inr ⟨by omega, by omega, _, by rw [hc23_9]; rfl, by decide⟩) ?_
                        refine kw_aload_n C (kdec dc_M_count 58 rfl) rfl 154 rfl rfl ?_
                        refine kw_getI C (kdec dc_M_count 59 rfl) 157 rfl fd_M_M_280_0 ?_
                        obtain rfl := Option.some.inj h
                        exact kw_Q (hR _ _ rfl) (kw_ireturn C (kdec dc_M_count 60 rfl))
                      · rw [if_neg hc23_9] at h
                        by_cases hc23_10 : x1 = 10
                        · rw [if_pos hc23_10] at h
                          refine kw_table C (kdec dc_M_count 14 rfl) 158 (Or.inr ⟨by omega, by omega, _, by rw [hc23_10]; rfl, by decide⟩) ?_
                          refine kw_aload_n C (kdec dc_M_count 61 rfl) rfl 159 rfl rfl ?_
                          refine kw_getI C (kdec dc_M_count 62 rfl) 162 rfl fd_M_M_283_0 ?_
                          obtain rfl := Option.some.inj h
                          exact kw_Q (hR _ _ rfl) (kw_ireturn C (kdec dc_M_count 63 rfl))
                        · rw [if_neg hc23_10] at h
                          by_cases hc23_11 : x1 = 11
                          · rw [if_pos hc23_11] at h
                            refine kw_table C (kdec dc_M_count 14 rfl) 163 (Or.inr ⟨by omega, by omega, _, by rw [hc23_11]; rfl, by decide⟩) ?_
                            refine kw_aload_n C (kdec dc_M_count 64 rfl) rfl 164 rfl rfl ?_
                            refine kw_getI C (kdec dc_M_count 65 rfl) 167 rfl fd_M_M_102_0 ?_
                            obtain rfl := Option.some.inj h
                            exact kw_Q (hR _ _ rfl) (kw_ireturn C (kdec dc_M_count 66 rfl))
                          · rw [if_neg hc23_11] at h
                            refine kw_table C (kdec dc_M_count 14 rfl) 168 (Or.inl ⟨by omega, by decide⟩) ?_
                            refine kw_aload_n C (kdec dc_M_count 67 rfl) rfl 169 rfl rfl ?_
                            refine kw_getR C (kdec dc_M_count 68 rfl) 172 rfl fd_M_M_32_0 ?_
                            refine kw_iload_n C (kdec dc_M_count 69 rfl) rfl 173 rfl rfl ?_
                            refine kw_bipush (v := 12) C (kdec dc_M_count 70 rfl) 175 rfl (by decide) ⟨by decide, by decide⟩ ?_
                            refine kw_isub C (kdec dc_M_count 71 rfl) 176 rfl ?_
                            obtain ⟨hc_15, h⟩ := kchk_h h
                            refine kw_iald C (kdec dc_M_count 72 rfl) 177 rfl rfl hc_15.1 hc_15.2 ?_
                            obtain rfl := Option.some.inj h
                            exact kw_Q (hR _ _ rfl) (kw_ireturn C (kdec dc_M_count 73 rfl))
  · rw [if_pos hc17] at h
    refine kw_iconst C (kdec dc_M_count 11 rfl) 21 rfl rfl ⟨by decide, by decide⟩ ?_
    obtain rfl := Option.some.inj h
    exact kw_Q (hR _ _ rfl) (kw_ireturn C (kdec dc_M_count 12 rfl))
theorem mt_mm_count (l0 : Launch) {σ : kM} {x1 : Int} {r : Int} {τ : kM} (h : mm_count σ x1 = some (r, τ)) : kMet l0 ky_M_count prog_14_method_61_code 2 (some .int) R0_mm_count kcl yM σ [kr 0, ki x1] (some (ki r)) τ := kMet.of' [some (kr 0), some (ki x1)] (by decide) (Nat.le_of_ble_eq_true rfl) ⟨rfl, rfl, trivial⟩ (fun x C => bd_mm_count C σ x1 h (fun r τ e => by cases e; rfl))
def R0_mm_isPerson : Room := ({ frames := 1, cells := 0, slots := 0, locals := 22 } : Room)
def mm_isPerson_j18 (σ : kM) (s0 : Int) : Option (Int × kM) :=
  (mm_right σ s0 1).bind fun (r_1, σ_2) =>
  kchk (r_1 = 0 ∨ r_1 = 1) <|
  some ((r_1, σ_2))
set_option maxHeartbeats 4000000 in
theorem bd_mm_isPerson_j18 {x : kX} {l0 : Launch} {Q : State → Prop} (C : kCx x prog_14_method_62_code "PoetFinesModel" (some .boolean) kcl yM 2 l0 R0_mm_isPerson) (σ : kM) (s0 : Int) {out : Int × kM} (h : mm_isPerson_j18 σ s0 = some out) (hR : ∀ (r : Int) (τ : kM), out = (r, τ) → Q = kQ x (some (ki r)) τ 0 0) : KW x 0 0 Q σ 18 [none, none] [ki s0, kr 0] := by
  unfold mm_isPerson_j18 at h
  refine kw_iconst C (kdec dc_M_isPerson 10 rfl) 19 rfl rfl ⟨by decide, by decide⟩ ?_
  obtain ⟨⟨r_1, σ_2⟩, hg_4, h⟩ := kbind_h h
  dsimp only at h
  refine kw_callV (As := [ki s0, ki 1]) C (kdec dc_M_isPerson 11 rfl) 22 rfl cv_M_263 rfl rfl (mt_mm_right l0 hg_4) ⟨rfl, rfl⟩ ⟨Nat.le_of_ble_eq_true rfl, Nat.le_of_ble_eq_true rfl⟩ ⟨Nat.zero_le _, Nat.zero_le _⟩ rfl (Nat.le_of_ble_eq_true rfl) ?_
  change KW x 0 0 Q σ_2 22 [none, none] [ki r_1]
  obtain ⟨hc_3, h⟩ := kchk_h h
  obtain rfl := Option.some.inj h
  exact kw_Q (hR _ _ rfl) (kw_zreturn C (kdec dc_M_isPerson 12 rfl) hc_3)
def mm_isPerson_j17 (σ : kM) : Option (Int × kM) :=
  mm_isPerson_j18 σ 0
set_option maxHeartbeats 4000000 in
theorem bd_mm_isPerson_j17 {x : kX} {l0 : Launch} {Q : State → Prop} (C : kCx x prog_14_method_62_code "PoetFinesModel" (some .boolean) kcl yM 2 l0 R0_mm_isPerson) (σ : kM) {out : Int × kM} (h : mm_isPerson_j17 σ = some out) (hR : ∀ (r : Int) (τ : kM), out = (r, τ) → Q = kQ x (some (ki r)) τ 0 0) : KW x 0 0 Q σ 17 [none, none] [kr 0] := by
  unfold mm_isPerson_j17 at h
  refine kw_iconst C (kdec dc_M_isPerson 9 rfl) 18 rfl rfl ⟨by decide, by decide⟩ ?_
  exact bd_mm_isPerson_j18 C σ 0 h hR
def mm_isPerson (σ : kM) (x1 : Int) : Option (Int × kM) :=
  if x1 < 0 then
    mm_isPerson_j17 σ
  else
    if (σ 0 2) ≤ x1 then
      mm_isPerson_j17 σ
    else
      mm_isPerson_j18 σ 1
set_option maxHeartbeats 4000000 in
theorem bd_mm_isPerson {x : kX} {l0 : Launch} {Q : State → Prop} (C : kCx x prog_14_method_62_code "PoetFinesModel" (some .boolean) kcl yM 2 l0 R0_mm_isPerson) (σ : kM) (x1 : Int) {out : Int × kM} (h : mm_isPerson σ x1 = some out) (hR : ∀ (r : Int) (τ : kM), out = (r, τ) → Q = kQ x (some (ki r)) τ 0 0) : KW x 0 0 Q σ 0 [some (kr 0), some (ki x1)] [] := by
  unfold mm_isPerson at h
  refine kw_aload_n C (kdec dc_M_isPerson 0 rfl) rfl 1 rfl rfl ?_
  refine kw_iload_n C (kdec dc_M_isPerson 1 rfl) rfl 2 rfl rfl ?_
  refine kw_if_lt C (kdec dc_M_isPerson 2 rfl) 17 5 (by decide) rfl (fun hc2 => ?_) (fun hc2 => ?_)
  · rw [if_pos hc2] at h
    exact kw_sub (L' := [none, none]) trivial (bd_mm_isPerson_j17 C σ h hR)
  · rw [if_neg hc2] at h
    refine kw_iload_n C (kdec dc_M_isPerson 3 rfl) rfl 6 rfl rfl ?_
    refine kw_aload_n C (kdec dc_M_isPerson 4 rfl) rfl 7 rfl rfl ?_
    refine kw_getI C (kdec dc_M_isPerson 5 rfl) 10 rfl fd_M_M_270_0 ?_
    refine kw_icmp_ge C (kdec dc_M_isPerson 6 rfl) 17 13 (by decide) rfl (fun hc10 => ?_) (fun hc10 => ?_)
    · rw [if_pos hc10] at h
      exact kw_sub (L' := [none, none]) trivial (bd_mm_isPerson_j17 C σ h hR)
    · rw [if_neg hc10] at h
      refine kw_iconst C (kdec dc_M_isPerson 7 rfl) 14 rfl rfl ⟨by decide, by decide⟩ ?_
      refine kw_goto C (kdec dc_M_isPerson 8 rfl) 18 (by decide) ?_
      exact kw_sub (L' := [none, none]) trivial (bd_mm_isPerson_j18 C σ 1 h hR)
theorem mt_mm_isPerson (l0 : Launch) {σ : kM} {x1 : Int} {r : Int} {τ : kM} (h : mm_isPerson σ x1 = some (r, τ)) : kMet l0 ky_M_isPerson prog_14_method_62_code 2 (some .boolean) R0_mm_isPerson kcl yM σ [kr 0, ki x1] (some (ki r)) τ := kMet.of' [some (kr 0), some (ki x1)] (by decide) (Nat.le_of_ble_eq_true rfl) ⟨rfl, rfl, trivial⟩ (fun x C => bd_mm_isPerson C σ x1 h (fun r τ e => by cases e; rfl))
def R0_mm_isPoet : Room := ({ frames := 1, cells := 0, slots := 0, locals := 22 } : Room)
def mm_isPoet_j18 (σ : kM) (s0 : Int) : Option (Int × kM) :=
  (mm_right σ s0 1).bind fun (r_1, σ_2) =>
  kchk (r_1 = 0 ∨ r_1 = 1) <|
  some ((r_1, σ_2))
set_option maxHeartbeats 4000000 in
theorem bd_mm_isPoet_j18 {x : kX} {l0 : Launch} {Q : State → Prop} (C : kCx x prog_14_method_63_code "PoetFinesModel" (some .boolean) kcl yM 2 l0 R0_mm_isPoet) (σ : kM) (s0 : Int) {out : Int × kM} (h : mm_isPoet_j18 σ s0 = some out) (hR : ∀ (r : Int) (τ : kM), out = (r, τ) → Q = kQ x (some (ki r)) τ 0 0) : KW x 0 0 Q σ 18 [none, none] [ki s0, kr 0] := by
  unfold mm_isPoet_j18 at h
  refine kw_iconst C (kdec dc_M_isPoet 10 rfl) 19 rfl rfl ⟨by decide, by decide⟩ ?_
  obtain ⟨⟨r_1, σ_2⟩, hg_4, h⟩ := kbind_h h
  dsimp only at h
  refine kw_callV (As := [ki s0, ki 1]) C (kdec dc_M_isPoet 11 rfl) 22 rfl cv_M_263 rfl rfl (mt_mm_right l0 hg_4) ⟨rfl, rfl⟩ ⟨Nat.le_of_ble_eq_true rfl, Nat.le_of_ble_eq_true rfl⟩ ⟨Nat.zero_le _, Nat.zero_le _⟩ rfl (Nat.le_of_ble_eq_true rfl) ?_
  change KW x 0 0 Q σ_2 22 [none, none] [ki r_1]
  obtain ⟨hc_3, h⟩ := kchk_h h
  obtain rfl := Option.some.inj h
  exact kw_Q (hR _ _ rfl) (kw_zreturn C (kdec dc_M_isPoet 12 rfl) hc_3)
def mm_isPoet_j17 (σ : kM) : Option (Int × kM) :=
  mm_isPoet_j18 σ 0
set_option maxHeartbeats 4000000 in
theorem bd_mm_isPoet_j17 {x : kX} {l0 : Launch} {Q : State → Prop} (C : kCx x prog_14_method_63_code "PoetFinesModel" (some .boolean) kcl yM 2 l0 R0_mm_isPoet) (σ : kM) {out : Int × kM} (h : mm_isPoet_j17 σ = some out) (hR : ∀ (r : Int) (τ : kM), out = (r, τ) → Q = kQ x (some (ki r)) τ 0 0) : KW x 0 0 Q σ 17 [none, none] [kr 0] := by
  unfold mm_isPoet_j17 at h
  refine kw_iconst C (kdec dc_M_isPoet 9 rfl) 18 rfl rfl ⟨by decide, by decide⟩ ?_
  exact bd_mm_isPoet_j18 C σ 0 h hR
def mm_isPoet (σ : kM) (x1 : Int) : Option (Int × kM) :=
  if x1 < 0 then
    mm_isPoet_j17 σ
  else
    if (σ 0 3) ≤ x1 then
      mm_isPoet_j17 σ
    else
      mm_isPoet_j18 σ 1
set_option maxHeartbeats 4000000 in
theorem bd_mm_isPoet {x : kX} {l0 : Launch} {Q : State → Prop} (C : kCx x prog_14_method_63_code "PoetFinesModel" (some .boolean) kcl yM 2 l0 R0_mm_isPoet) (σ : kM) (x1 : Int) {out : Int × kM} (h : mm_isPoet σ x1 = some out) (hR : ∀ (r : Int) (τ : kM), out = (r, τ) → Q = kQ x (some (ki r)) τ 0 0) : KW x 0 0 Q σ 0 [some (kr 0), some (ki x1)] [] := by
  unfold mm_isPoet at h
  refine kw_aload_n C (kdec dc_M_isPoet 0 rfl) rfl 1 rfl rfl ?_
  refine kw_iload_n C (kdec dc_M_isPoet 1 rfl) rfl 2 rfl rfl ?_
  refine kw_if_lt C (kdec dc_M_isPoet 2 rfl) 17 5 (by decide) rfl (fun hc2 => ?_) (fun hc2 => ?_)
  · rw [if_pos hc2] at h
    exact kw_sub (L' := [none, none]) trivial (bd_mm_isPoet_j17 C σ h hR)
  · rw [if_neg hc2] at h
    refine kw_iload_n C (kdec dc_M_isPoet 3 rfl) rfl 6 rfl rfl ?_
    refine kw_aload_n C (kdec dc_M_isPoet 4 rfl) rfl 7 rfl rfl ?_
    refine kw_getI C (kdec dc_M_isPoet 5 rfl) 10 rfl fd_M_M_273_0 ?_
    refine kw_icmp_ge C (kdec dc_M_isPoet 6 rfl) 17 13 (by decide) rfl (fun hc10 => ?_) (fun hc10 => ?_)
    · rw [if_pos hc10] at h
      exact kw_sub (L' := [none, none]) trivial (bd_mm_isPoet_j17 C σ h hR)
    · rw [if_neg hc10] at h
      refine kw_iconst C (kdec dc_M_isPoet 7 rfl) 14 rfl rfl ⟨by decide, by decide⟩ ?_
      refine kw_goto C (kdec dc_M_isPoet 8 rfl) 18 (by decide) ?_
      exact kw_sub (L' := [none, none]) trivial (bd_mm_isPoet_j18 C σ 1 h hR)
theorem mt_mm_isPoet (l0 : Launch) {σ : kM} {x1 : Int} {r : Int} {τ : kM} (h : mm_isPoet σ x1 = some (r, τ)) : kMet l0 ky_M_isPoet prog_14_method_63_code 2 (some .boolean) R0_mm_isPoet kcl yM σ [kr 0, ki x1] (some (ki r)) τ := kMet.of' [some (kr 0), some (ki x1)] (by decide) (Nat.le_of_ble_eq_true rfl) ⟨rfl, rfl, trivial⟩ (fun x C => bd_mm_isPoet C σ x1 h (fun r τ e => by cases e; rfl))
def R0_mm_isLine : Room := ({ frames := 2, cells := 0, slots := 0, locals := 43 } : Room)
def mm_isLine_j31 (σ : kM) (s0 : Int) : Option (Int × kM) :=
  (mm_right σ s0 1).bind fun (r_3, σ_4) =>
  if r_3 = 0 then
    some ((0, σ_4))
  else
    some ((1, σ_4))
set_option maxHeartbeats 4000000 in
theorem bd_mm_isLine_j31 {x : kX} {l0 : Launch} {Q : State → Prop} (C : kCx x prog_14_method_64_code "PoetFinesModel" (some .boolean) kcl yM 3 l0 R0_mm_isLine) (σ : kM) (s0 : Int) {out : Int × kM} (h : mm_isLine_j31 σ s0 = some out) (hR : ∀ (r : Int) (τ : kM), out = (r, τ) → Q = kQ x (some (ki r)) τ 0 0) : KW x 0 0 Q σ 31 [none, none, none] [ki s0, kr 0] := by
  unfold mm_isLine_j31 at h
  refine kw_iconst C (kdec dc_M_isLine 18 rfl) 32 rfl rfl ⟨by decide, by decide⟩ ?_
  obtain ⟨⟨r_3, σ_4⟩, hg_5, h⟩ := kbind_h h
  dsimp only at h
  refine kw_callV (As := [ki s0, ki 1]) C (kdec dc_M_isLine 19 rfl) 35 rfl cv_M_263 rfl rfl (mt_mm_right l0 hg_5) ⟨rfl, rfl⟩ ⟨Nat.le_of_ble_eq_true rfl, Nat.le_of_ble_eq_true rfl⟩ ⟨Nat.zero_le _, Nat.zero_le _⟩ rfl (Nat.le_of_ble_eq_true rfl) ?_
  change KW x 0 0 Q σ_4 35 [none, none, none] [ki r_3]
  refine kw_if_eq C (kdec dc_M_isLine 20 rfl) 42 38 (by decide) rfl (fun hc35 => ?_) (fun hc35 => ?_)
  · rw [if_pos hc35] at h
    refine kw_iconst C (kdec dc_M_isLine 23 rfl) 43 rfl rfl ⟨by decide, by decide⟩ ?_
    obtain rfl := Option.some.inj h
    exact kw_Q (hR _ _ rfl) (kw_zreturn C (kdec dc_M_isLine 24 rfl) (by decide))
  · rw [if_neg hc35] at h
    refine kw_iconst C (kdec dc_M_isLine 21 rfl) 39 rfl rfl ⟨by decide, by decide⟩ ?_
    refine kw_goto C (kdec dc_M_isLine 22 rfl) 43 (by decide) ?_
    obtain rfl := Option.some.inj h
    exact kw_Q (hR _ _ rfl) (kw_zreturn C (kdec dc_M_isLine 24 rfl) (by decide))
def mm_isLine_j30 (σ : kM) : Option (Int × kM) :=
  mm_isLine_j31 σ 0
set_option maxHeartbeats 4000000 in
theorem bd_mm_isLine_j30 {x : kX} {l0 : Launch} {Q : State → Prop} (C : kCx x prog_14_method_64_code "PoetFinesModel" (some .boolean) kcl yM 3 l0 R0_mm_isLine) (σ : kM) {out : Int × kM} (h : mm_isLine_j30 σ = some out) (hR : ∀ (r : Int) (τ : kM), out = (r, τ) → Q = kQ x (some (ki r)) τ 0 0) : KW x 0 0 Q σ 30 [none, none, none] [kr 0] := by
  unfold mm_isLine_j30 at h
  refine kw_iconst C (kdec dc_M_isLine 17 rfl) 31 rfl rfl ⟨by decide, by decide⟩ ?_
  exact bd_mm_isLine_j31 C σ 0 h hR
def mm_isLine (σ : kM) (x1 : Int) (x2 : Int) : Option (Int × kM) :=
  (mm_isPoet σ x1).bind fun (r_1, σ_2) =>
  if r_1 = 0 then
    some ((0, σ_2))
  else
    if x2 < 0 then
      mm_isLine_j30 σ_2
    else
      kchk (0 ≤ (w32 (61 + x1)) ∧ (w32 (61 + x1)) < 290) <|
      if (σ_2 8 (w32 (61 + x1)).toNat) ≤ x2 then
        mm_isLine_j30 σ_2
      else
        mm_isLine_j31 σ_2 1
set_option maxHeartbeats 4000000 in
theorem bd_mm_isLine {x : kX} {l0 : Launch} {Q : State → Prop} (C : kCx x prog_14_method_64_code "PoetFinesModel" (some .boolean) kcl yM 3 l0 R0_mm_isLine) (σ : kM) (x1 : Int) (x2 : Int) {out : Int × kM} (h : mm_isLine σ x1 x2 = some out) (hR : ∀ (r : Int) (τ : kM), out = (r, τ) → Q = kQ x (some (ki r)) τ 0 0) : KW x 0 0 Q σ 0 [some (kr 0), some (ki x1), some (ki x2)] [] := by
  unfold mm_isLine at h
  refine kw_aload_n C (kdec dc_M_isLine 0 rfl) rfl 1 rfl rfl ?_
  refine kw_iload_n C (kdec dc_M_isLine 1 rfl) rfl 2 rfl rfl ?_
  obtain ⟨⟨r_1, σ_2⟩, hg_7, h⟩ := kbind_h h
  dsimp only at h
  refine kw_callV (As := [ki x1]) C (kdec dc_M_isLine 2 rfl) 5 rfl cv_M_367 rfl rfl (mt_mm_isPoet l0 hg_7) ⟨rfl, rfl⟩ ⟨Nat.le_of_ble_eq_true rfl, Nat.le_of_ble_eq_true rfl⟩ ⟨Nat.zero_le _, Nat.zero_le _⟩ rfl (Nat.le_of_ble_eq_true rfl) ?_
  change KW x 0 0 Q σ_2 5 [some (kr 0), some (ki x1), some (ki x2)] [ki r_1]
  refine kw_if_eq C (kdec dc_M_isLine 3 rfl) 42 8 (by decide) rfl (fun hc5 => ?_) (fun hc5 => ?_)
  · rw [if_pos hc5] at h
    refine kw_iconst C (kdec dc_M_isLine 23 rfl) 43 rfl rfl ⟨by decide, by decide⟩ ?_
    obtain rfl := Option.some.inj h
    exact kw_Q (hR _ _ rfl) (kw_zreturn C (kdec dc_M_isLine 24 rfl) (by decide))
  · rw [if_neg hc5] at h
    refine kw_aload_n C (kdec dc_M_isLine 4 rfl) rfl 9 rfl rfl ?_
    refine kw_iload_n C (kdec dc_M_isLine 5 rfl) rfl 10 rfl rfl ?_
    refine kw_if_lt C (kdec dc_M_isLine 6 rfl) 30 13 (by decide) rfl (fun hc10 => ?_) (fun hc10 => ?_)
    · rw [if_pos hc10] at h
      exact kw_sub (L' := [none, none, none]) trivial (bd_mm_isLine_j30 C σ_2 h hR)
    · rw [if_neg hc10] at h
      refine kw_iload_n C (kdec dc_M_isLine 7 rfl) rfl 14 rfl rfl ?_
      refine kw_aload_n C (kdec dc_M_isLine 8 rfl) rfl 15 rfl rfl ?_
      refine kw_getR C (kdec dc_M_isLine 9 rfl) 18 rfl fd_M_M_48_0 ?_
      refine kw_bipush (v := 61) C (kdec dc_M_isLine 10 rfl) 20 rfl (by decide) ⟨by decide, by decide⟩ ?_
      refine kw_iload_n C (kdec dc_M_isLine 11 rfl) rfl 21 rfl rfl ?_
      refine kw_iadd C (kdec dc_M_isLine 12 rfl) 22 rfl ?_
      obtain ⟨hc_6, h⟩ := kchk_h h
      refine kw_iald C (kdec dc_M_isLine 13 rfl) 23 rfl rfl hc_6.1 hc_6.2 ?_
      refine kw_icmp_ge C (kdec dc_M_isLine 14 rfl) 30 26 (by decide) rfl (fun hc23 => ?_) (fun hc23 => ?_)
      · rw [if_pos hc23] at h
        exact kw_sub (L' := [none, none, none]) trivial (bd_mm_isLine_j30 C σ_2 h hR)
      · rw [if_neg hc23] at h
        refine kw_iconst C (kdec dc_M_isLine 15 rfl) 27 rfl rfl ⟨by decide, by decide⟩ ?_
        refine kw_goto C (kdec dc_M_isLine 16 rfl) 31 (by decide) ?_
        exact kw_sub (L' := [none, none, none]) trivial (bd_mm_isLine_j31 C σ_2 1 h hR)
theorem mt_mm_isLine (l0 : Launch) {σ : kM} {x1 : Int} {x2 : Int} {r : Int} {τ : kM} (h : mm_isLine σ x1 x2 = some (r, τ)) : kMet l0 ky_M_isLine prog_14_method_64_code 3 (some .boolean) R0_mm_isLine kcl yM σ [kr 0, ki x1, ki x2] (some (ki r)) τ := kMet.of' [some (kr 0), some (ki x1), some (ki x2)] (by decide) (Nat.le_of_ble_eq_true rfl) ⟨rfl, rfl, rfl, trivial⟩ (fun x C => bd_mm_isLine C σ x1 x2 h (fun r τ e => by cases e; rfl))
def R0_mm_isWhat : Room := ({ frames := 1, cells := 0, slots := 0, locals := 22 } : Room)
def mm_isWhat (σ : kM) (x1 : Int) (x2 : Int) : Option (Int × kM) :=
  (mm_within σ x1 0 x2).bind fun r_1 =>
  (mm_right σ r_1 1).bind fun (r_2, σ_3) =>
  kchk (r_2 = 0 ∨ r_2 = 1) <|
  some ((r_2, σ_3))
set_option maxHeartbeats 4000000 in
theorem bd_mm_isWhat {x : kX} {l0 : Launch} {Q : State → Prop} (C : kCx x prog_14_method_65_code "PoetFinesModel" (some .boolean) kcl yM 3 l0 R0_mm_isWhat) (σ : kM) (x1 : Int) (x2 : Int) {out : Int × kM} (h : mm_isWhat σ x1 x2 = some out) (hR : ∀ (r : Int) (τ : kM), out = (r, τ) → Q = kQ x (some (ki r)) τ 0 0) : KW x 0 0 Q σ 0 [some (kr 0), some (ki x1), some (ki x2)] [] := by
  unfold mm_isWhat at h
  refine kw_aload_n C (kdec dc_M_isWhat 0 rfl) rfl 1 rfl rfl ?_
  refine kw_iload_n C (kdec dc_M_isWhat 1 rfl) rfl 2 rfl rfl ?_
  refine kw_iconst C (kdec dc_M_isWhat 2 rfl) 3 rfl rfl ⟨by decide, by decide⟩ ?_
  refine kw_iload_n C (kdec dc_M_isWhat 3 rfl) rfl 4 rfl rfl ?_
  obtain ⟨r_1, hg_6, h⟩ := kbind_h h
  refine kw_callS (As := [ki x1, ki 0, ki x2]) C (kdec dc_M_isWhat 4 rfl) 7 rfl cs_M_355 (mt_mm_within l0 hg_6) ⟨rfl, rfl⟩ ⟨Nat.le_of_ble_eq_true rfl, Nat.le_of_ble_eq_true rfl⟩ ⟨Nat.zero_le _, Nat.zero_le _⟩ rfl (Nat.le_of_ble_eq_true rfl) ?_
  change KW x 0 0 Q σ 7 [some (kr 0), some (ki x1), some (ki x2)] [ki r_1, kr 0]
  refine kw_iconst C (kdec dc_M_isWhat 5 rfl) 8 rfl rfl ⟨by decide, by decide⟩ ?_
  obtain ⟨⟨r_2, σ_3⟩, hg_5, h⟩ := kbind_h h
  dsimp only at h
  refine kw_callV (As := [ki r_1, ki 1]) C (kdec dc_M_isWhat 6 rfl) 11 rfl cv_M_263 rfl rfl (mt_mm_right l0 hg_5) ⟨rfl, rfl⟩ ⟨Nat.le_of_ble_eq_true rfl, Nat.le_of_ble_eq_true rfl⟩ ⟨Nat.zero_le _, Nat.zero_le _⟩ rfl (Nat.le_of_ble_eq_true rfl) ?_
  change KW x 0 0 Q σ_3 11 [some (kr 0), some (ki x1), some (ki x2)] [ki r_2]
  obtain ⟨hc_4, h⟩ := kchk_h h
  obtain rfl := Option.some.inj h
  exact kw_Q (hR _ _ rfl) (kw_zreturn C (kdec dc_M_isWhat 7 rfl) hc_4)
theorem mt_mm_isWhat (l0 : Launch) {σ : kM} {x1 : Int} {x2 : Int} {r : Int} {τ : kM} (h : mm_isWhat σ x1 x2 = some (r, τ)) : kMet l0 ky_M_isWhat prog_14_method_65_code 3 (some .boolean) R0_mm_isWhat kcl yM σ [kr 0, ki x1, ki x2] (some (ki r)) τ := kMet.of' [some (kr 0), some (ki x1), some (ki x2)] (by decide) (Nat.le_of_ble_eq_true rfl) ⟨rfl, rfl, rfl, trivial⟩ (fun x C => bd_mm_isWhat C σ x1 x2 h (fun r τ e => by cases e; rfl))
def R0_mm_isSoon : Room := ({ frames := 1, cells := 0, slots := 0, locals := 22 } : Room)
def mm_isSoon (σ : kM) (x1 : Int) (x2 : Int) (x3 : Int) : Option (Int × kM) :=
  (mm_within σ x1 x2 60).bind fun r_1 =>
  (mm_right σ r_1 x3).bind fun (r_2, σ_3) =>
  kchk (r_2 = 0 ∨ r_2 = 1) <|
  some ((r_2, σ_3))
set_option maxHeartbeats 4000000 in
theorem bd_mm_isSoon {x : kX} {l0 : Launch} {Q : State → Prop} (C : kCx x prog_14_method_66_code "PoetFinesModel" (some .boolean) kcl yM 4 l0 R0_mm_isSoon) (σ : kM) (x1 : Int) (x2 : Int) (x3 : Int) {out : Int × kM} (h : mm_isSoon σ x1 x2 x3 = some out) (hR : ∀ (r : Int) (τ : kM), out = (r, τ) → Q = kQ x (some (ki r)) τ 0 0) : KW x 0 0 Q σ 0 [some (kr 0), some (ki x1), some (ki x2), some (ki x3)] [] := by
  unfold mm_isSoon at h
  refine kw_aload_n C (kdec dc_M_isSoon 0 rfl) rfl 1 rfl rfl ?_
  refine kw_iload_n C (kdec dc_M_isSoon 1 rfl) rfl 2 rfl rfl ?_
  refine kw_iload_n C (kdec dc_M_isSoon 2 rfl) rfl 3 rfl rfl ?_
  refine kw_bipush (v := 60) C (kdec dc_M_isSoon 3 rfl) 5 rfl (by decide) ⟨by decide, by decide⟩ ?_
  obtain ⟨r_1, hg_6, h⟩ := kbind_h h
  refine kw_callS (As := [ki x1, ki x2, ki 60]) C (kdec dc_M_isSoon 4 rfl) 8 rfl cs_M_355 (mt_mm_within l0 hg_6) ⟨rfl, rfl⟩ ⟨Nat.le_of_ble_eq_true rfl, Nat.le_of_ble_eq_true rfl⟩ ⟨Nat.zero_le _, Nat.zero_le _⟩ rfl (Nat.le_of_ble_eq_true rfl) ?_
  change KW x 0 0 Q σ 8 [some (kr 0), some (ki x1), some (ki x2), some (ki x3)] [ki r_1, kr 0]
  refine kw_iload_n C (kdec dc_M_isSoon 5 rfl) rfl 9 rfl rfl ?_
  obtain ⟨⟨r_2, σ_3⟩, hg_5, h⟩ := kbind_h h
  dsimp only at h
  refine kw_callV (As := [ki r_1, ki x3]) C (kdec dc_M_isSoon 6 rfl) 12 rfl cv_M_263 rfl rfl (mt_mm_right l0 hg_5) ⟨rfl, rfl⟩ ⟨Nat.le_of_ble_eq_true rfl, Nat.le_of_ble_eq_true rfl⟩ ⟨Nat.zero_le _, Nat.zero_le _⟩ rfl (Nat.le_of_ble_eq_true rfl) ?_
  change KW x 0 0 Q σ_3 12 [some (kr 0), some (ki x1), some (ki x2), some (ki x3)] [ki r_2]
  obtain ⟨hc_4, h⟩ := kchk_h h
  obtain rfl := Option.some.inj h
  exact kw_Q (hR _ _ rfl) (kw_zreturn C (kdec dc_M_isSoon 7 rfl) hc_4)
theorem mt_mm_isSoon (l0 : Launch) {σ : kM} {x1 : Int} {x2 : Int} {x3 : Int} {r : Int} {τ : kM} (h : mm_isSoon σ x1 x2 x3 = some (r, τ)) : kMet l0 ky_M_isSoon prog_14_method_66_code 4 (some .boolean) R0_mm_isSoon kcl yM σ [kr 0, ki x1, ki x2, ki x3] (some (ki r)) τ := kMet.of' [some (kr 0), some (ki x1), some (ki x2), some (ki x3)] (by decide) (Nat.le_of_ble_eq_true rfl) ⟨rfl, rfl, rfl, rfl, trivial⟩ (fun x C => bd_mm_isSoon C σ x1 x2 x3 h (fun r τ e => by cases e; rfl))
def R0_mm_hitsOf : Room := ({ frames := 0, cells := 0, slots := 0, locals := 0 } : Room)
def mm_hitsOf_l5 (σ : kM) (x1 : Int) (x2 : Int) (x3 : Int) (x4 : Int) : Option ((Int × Int) ⊕ ((Int))) :=
  if (σ 0 3) ≤ x4 then
    some (Sum.inr x3)
  else
    kchk (0 ≤ (w32 ((w32 ((w32 (x1 + 29)) + (w32 (8 * x4)))) + x2)) ∧ (w32 ((w32 ((w32 (x1 + 29)) + (w32 (8 * x4)))) + x2)) < 290) <|
    klet (w32 (x3 + (σ 8 (w32 ((w32 ((w32 (x1 + 29)) + (w32 (8 * x4)))) + x2)).toNat))) fun x3_2 =>
    klet (w32 (x4 + 1)) fun x4_3 =>
    some (Sum.inl (x3_2, x4_3))
set_option maxHeartbeats 4000000 in
theorem bd_mm_hitsOf_l5 {x : kX} {l0 : Launch} {Q : State → Prop} (C : kCx x prog_14_method_67_code "PoetFinesModel" (some .int) kcl yM 5 l0 R0_mm_hitsOf) (σ : kM) (x1 : Int) (x2 : Int) (x3 : Int) (x4 : Int) {out : (Int × Int) ⊕ ((Int))} (h : mm_hitsOf_l5 σ x1 x2 x3 x4 = some out) (hC : ∀ (x3' : Int) (x4' : Int), out = Sum.inl (x3', x4') → KW x 0 0 Q σ 5 [some (kr 0), some (ki x1), some (ki x2), some (ki x3'), some (ki x4')] []) (hX40 : ∀ (x3' : Int), out = Sum.inr x3' → KW x 0 0 Q σ 40 [none, none, none, some (ki x3'), none] []) : KW x 0 0 Q σ 5 [some (kr 0), some (ki x1), some (ki x2), some (ki x3), some (ki x4)] [] := by
  unfold mm_hitsOf_l5 at h
  refine kw_iload C (kdec dc_M_hitsOf 4 rfl) 7 rfl rfl ?_
  refine kw_aload_n C (kdec dc_M_hitsOf 5 rfl) rfl 8 rfl rfl ?_
  refine kw_getI C (kdec dc_M_hitsOf 6 rfl) 11 rfl fd_M_M_273_0 ?_
  refine kw_icmp_ge C (kdec dc_M_hitsOf 7 rfl) 40 14 (by decide) rfl (fun hc11 => ?_) (fun hc11 => ?_)
  · rw [if_pos hc11] at h
    obtain rfl := Option.some.inj h
    exact kw_sub (L' := [none, none, none, some (ki x3), none]) ⟨rfl, trivial⟩ (hX40 _ rfl)
  · rw [if_neg hc11] at h
    refine kw_iload_n C (kdec dc_M_hitsOf 8 rfl) rfl 15 rfl rfl ?_
    refine kw_aload_n C (kdec dc_M_hitsOf 9 rfl) rfl 16 rfl rfl ?_
    refine kw_getR C (kdec dc_M_hitsOf 10 rfl) 19 rfl fd_M_M_48_0 ?_
    refine kw_iload_n C (kdec dc_M_hitsOf 11 rfl) rfl 20 rfl rfl ?_
    refine kw_bipush (v := 29) C (kdec dc_M_hitsOf 12 rfl) 22 rfl (by decide) ⟨by decide, by decide⟩ ?_
    refine kw_iadd C (kdec dc_M_hitsOf 13 rfl) 23 rfl ?_
    refine kw_bipush (v := 8) C (kdec dc_M_hitsOf 14 rfl) 25 rfl (by decide) ⟨by decide, by decide⟩ ?_
    refine kw_iload C (kdec dc_M_hitsOf 15 rfl) 27 rfl rfl ?_
    refine kw_imul C (kdec dc_M_hitsOf 16 rfl) 28 rfl ?_
    refine kw_iadd C (kdec dc_M_hitsOf 17 rfl) 29 rfl ?_
    refine kw_iload_n C (kdec dc_M_hitsOf 18 rfl) rfl 30 rfl rfl ?_
    refine kw_iadd C (kdec dc_M_hitsOf 19 rfl) 31 rfl ?_
    obtain ⟨hc_1, h⟩ := kchk_h h
    refine kw_iald C (kdec dc_M_hitsOf 20 rfl) 32 rfl rfl hc_1.1 hc_1.2 ?_
    refine kw_iadd C (kdec dc_M_hitsOf 21 rfl) 33 rfl ?_
    obtain ⟨x3_2, ex3_2, h⟩ := klet_h h
    refine kw_top ex3_2 ?_
    refine kw_istore_n (L' := [some (kr 0), some (ki x1), some (ki x2), some (ki x3_2), some (ki x4)]) C (kdec dc_M_hitsOf 22 rfl) rfl 34 rfl (by decide) rfl rfl ?_
    obtain ⟨x4_3, ex4_3, h⟩ := klet_h h
    refine kw_iinc (L' := [some (kr 0), some (ki x1), some (ki x2), some (ki x3_2), some (ki x4_3)]) C (kdec dc_M_hitsOf 23 rfl) 37 rfl rfl (by decide) rfl (by rw [ex4_3]; rfl) ?_
    refine kw_goto C (kdec dc_M_hitsOf 24 rfl) 5 (by decide) ?_
    obtain rfl := Option.some.inj h
    exact (hC _ _ rfl)
theorem lp_mm_hitsOf_l5 {x : kX} {l0 : Launch} {Q : State → Prop} (C : kCx x prog_14_method_67_code "PoetFinesModel" (some .int) kcl yM 5 l0 R0_mm_hitsOf) (σ : kM) (x1 : Int) (x2 : Int) {ex : (Int)} (hX40 : ∀ (x3' : Int), ex = x3' → KW x 0 0 Q σ 40 [none, none, none, some (ki x3'), none] []) (n : Nat) (x3 : Int) (x4 : Int) (h : kloop (fun st => mm_hitsOf_l5 σ x1 x2 st.1 st.2) n (x3, x4) = some ex) : KW x 0 0 Q σ 5 [some (kr 0), some (ki x1), some (ki x2), some (ki x3), some (ki x4)] [] :=
  kloop_ind (P := (fun st : Int × Int => KW x 0 0 Q σ 5 [some (kr 0), some (ki x1), some (ki x2), some (ki (st.1)), some (ki (st.2))] [])) (fun st out hb hc hx => bd_mm_hitsOf_l5 C σ x1 x2 st.1 st.2 hb (fun a0 a1 e => hc _ e) (fun a0 e => hX40 _ ((hx _ e).symm))) n (x3, x4) h
def mm_hitsOf (σ : kM) (x1 : Int) (x2 : Int) : Option (Int) :=
  (kloop (fun st => mm_hitsOf_l5 σ x1 x2 st.1 st.2) kFuel (0, 0)).bind fun x3_6 =>
  some x3_6
set_option maxHeartbeats 4000000 in
theorem bd_mm_hitsOf {x : kX} {l0 : Launch} {Q : State → Prop} (C : kCx x prog_14_method_67_code "PoetFinesModel" (some .int) kcl yM 5 l0 R0_mm_hitsOf) (σ : kM) (x1 : Int) (x2 : Int) {out : Int} (h : mm_hitsOf σ x1 x2 = some out) (hR : ∀ (r : Int), out = r → Q = kQ x (some (ki r)) σ 0 0) : KW x 0 0 Q σ 0 [some (kr 0), some (ki x1), some (ki x2), none, none] [] := by
  unfold mm_hitsOf at h
  refine kw_iconst C (kdec dc_M_hitsOf 0 rfl) 1 rfl rfl ⟨by decide, by decide⟩ ?_
  refine kw_istore_n (L' := [some (kr 0), some (ki x1), some (ki x2), some (ki 0), none]) C (kdec dc_M_hitsOf 1 rfl) rfl 2 rfl (by decide) rfl rfl ?_
  refine kw_iconst C (kdec dc_M_hitsOf 2 rfl) 3 rfl rfl ⟨by decide, by decide⟩ ?_
  refine kw_istore (L' := [some (kr 0), some (ki x1), some (ki x2), some (ki 0), some (ki 0)]) C (kdec dc_M_hitsOf 3 rfl) 5 rfl (by decide) rfl rfl ?_
  obtain ⟨ex_4, hl_5, h⟩ := kbind_h h
  refine lp_mm_hitsOf_l5 C σ x1 x2 ?_ kFuel 0 0 hl_5
  · intro x3_6 e
    subst ex_4
    try dsimp only at h
    refine kw_iload_n C (kdec dc_M_hitsOf 25 rfl) rfl 41 rfl rfl ?_
    obtain rfl := Option.some.inj h
    exact kw_Q (hR _ rfl) (kw_ireturn C (kdec dc_M_hitsOf 26 rfl))
theorem mt_mm_hitsOf (l0 : Launch) {σ : kM} {x1 : Int} {x2 : Int} {r : Int} (h : mm_hitsOf σ x1 x2 = some r) : kMet l0 ky_M_hitsOf prog_14_method_67_code 5 (some .int) R0_mm_hitsOf kcl yM σ [kr 0, ki x1, ki x2] (some (ki r)) σ := kMet.of' [some (kr 0), some (ki x1), some (ki x2), none, none] (by decide) (Nat.le_of_ble_eq_true rfl) ⟨rfl, rfl, rfl, trivial⟩ (fun x C => bd_mm_hitsOf C σ x1 x2 h (fun r e => by subst e; rfl))
def R0_mm_person : Room := ({ frames := 2, cells := 0, slots := 0, locals := 43 } : Room)
def mm_person_j44 (σ : kM) (x1 : Int) (x2 : Int) (s0 : Int) : Option (Int × kM) :=
  (mm_right σ s0 1).bind fun (r_5, σ_6) =>
  if r_5 = 0 then
    some ((0, σ_6))
  else
    if x2 = 0 then
      kchk (0 ≤ (w32 (1 + x1)) ∧ (w32 (1 + x1)) < 290) <|
      some ((σ_6 8 (w32 (1 + x1)).toNat, σ_6))
    else
      if x2 = 1 then
        kchk (0 ≤ (w32 (9 + x1)) ∧ (w32 (9 + x1)) < 290) <|
        some ((σ_6 8 (w32 (9 + x1)).toNat, σ_6))
      else
        if x2 = 2 then
          (mm_hitsOf σ_6 0 x1).bind fun r_8 =>
          some ((r_8, σ_6))
        else
          kchk (0 ≤ (w32 ((w32 ((w32 (113 + (w32 (4 * x1)))) + x2)) - 10)) ∧ (w32 ((w32 ((w32 (113 + (w32 (4 * x1)))) + x2)) - 10)) < 290) <|
          some ((σ_6 8 (w32 ((w32 ((w32 (113 + (w32 (4 * x1)))) + x2)) - 10)).toNat, σ_6))
set_option maxHeartbeats 4000000 in
theorem bd_mm_person_j44 {x : kX} {l0 : Launch} {Q : State → Prop} (C : kCx x prog_14_method_68_code "PoetFinesModel" (some .int) kcl yM 3 l0 R0_mm_person) (σ : kM) (x1 : Int) (x2 : Int) (s0 : Int) {out : Int × kM} (h : mm_person_j44 σ x1 x2 s0 = some out) (hR : ∀ (r : Int) (τ : kM), out = (r, τ) → Q = kQ x (some (ki r)) τ 0 0) : KW x 0 0 Q σ 44 [some (kr 0), some (ki x1), some (ki x2)] [ki s0, kr 0] := by
  unfold mm_person_j44 at h
  refine kw_iconst C (kdec dc_M_person 24 rfl) 45 rfl rfl ⟨by decide, by decide⟩ ?_
  obtain ⟨⟨r_5, σ_6⟩, hg_12, h⟩ := kbind_h h
  dsimp only at h
  refine kw_callV (As := [ki s0, ki 1]) C (kdec dc_M_person 25 rfl) 48 rfl cv_M_263 rfl rfl (mt_mm_right l0 hg_12) ⟨rfl, rfl⟩ ⟨Nat.le_of_ble_eq_true rfl, Nat.le_of_ble_eq_true rfl⟩ ⟨Nat.zero_le _, Nat.zero_le _⟩ rfl (Nat.le_of_ble_eq_true rfl) ?_
  change KW x 0 0 Q σ_6 48 [some (kr 0), some (ki x1), some (ki x2)] [ki r_5]
  refine kw_if_ne C (kdec dc_M_person 26 rfl) 53 51 (by decide) rfl (fun hc48 => ?_) (fun hc48 => ?_)
  · rw [if_neg hc48] at h
    refine kw_iload_n C (kdec dc_M_person 29 rfl) rfl 54 rfl rfl ?_
    refine kw_if_ne C (kdec dc_M_person 30 rfl) 68 57 (by decide) rfl (fun hc54 => ?_) (fun hc54 => ?_)
    · rw [if_neg hc54] at h
      refine kw_iload_n C (kdec dc_M_person 38 rfl) rfl 69 rfl rfl ?_
      refine kw_iconst C (kdec dc_M_person 39 rfl) 70 rfl rfl ⟨by decide, by decide⟩ ?_
      refine kw_icmp_ne C (kdec dc_M_person 40 rfl) 85 73 (by decide) rfl (fun hc70 => ?_) (fun hc70 => ?_)
      · rw [if_neg hc70] at h
        refine kw_iload_n C (kdec dc_M_person 48 rfl) rfl 86 rfl rfl ?_
        refine kw_iconst C (kdec dc_M_person 49 rfl) 87 rfl rfl ⟨by decide, by decide⟩ ?_
        refine kw_icmp_ne C (kdec dc_M_person 50 rfl) 99 90 (by decide) rfl (fun hc87 => ?_) (fun hc87 => ?_)
        · rw [if_neg hc87] at h
          refine kw_aload_n C (kdec dc_M_person 56 rfl) rfl 100 rfl rfl ?_
          refine kw_getR C (kdec dc_M_person 57 rfl) 103 rfl fd_M_M_48_0 ?_
          refine kw_bipush (v := 113) C (kdec dc_M_person 58 rfl) 105 rfl (by decide) ⟨by decide, by decide⟩ ?_
          refine kw_iconst C (kdec dc_M_person 59 rfl) 106 rfl rfl ⟨by decide, by decide⟩ ?_
          refine kw_iload_n C (kdec dc_M_person 60 rfl) rfl 107 rfl rfl ?_
          refine kw_imul C (kdec dc_M_person 61 rfl) 108 rfl ?_
          refine kw_iadd C (kdec dc_M_person 62 rfl) 109 rfl ?_
          refine kw_iload_n C (kdec dc_M_person 63 rfl) rfl 110 rfl rfl ?_
          refine kw_iadd C (kdec dc_M_person 64 rfl) 111 rfl ?_
          refine kw_bipush (v := 10) C (kdec dc_M_person 65 rfl) 113 rfl (by decide) ⟨by decide, by decide⟩ ?_
          refine kw_isub C (kdec dc_M_person 66 rfl) 114 rfl ?_
          obtain ⟨hc_7, h⟩ := kchk_h h
          refine kw_iald C (kdec dc_M_person 67 rfl) 115 rfl rfl hc_7.1 hc_7.2 ?_
          obtain rfl := Option.some.inj h
          exact kw_Q (hR _ _ rfl) (kw_ireturn C (kdec dc_M_person 68 rfl))
        · rw [if_pos hc87] at h
          refine kw_aload_n C (kdec dc_M_person 51 rfl) rfl 91 rfl rfl ?_
          refine kw_iconst C (kdec dc_M_person 52 rfl) 92 rfl rfl ⟨by decide, by decide⟩ ?_
          refine kw_iload_n C (kdec dc_M_person 53 rfl) rfl 93 rfl rfl ?_
          obtain ⟨r_8, hg_9, h⟩ := kbind_h h
          refine kw_callV (As := [ki 0, ki x1]) C (kdec dc_M_person 54 rfl) 96 rfl cv_M_373 rfl rfl (mt_mm_hitsOf l0 hg_9) ⟨rfl, rfl⟩ ⟨Nat.le_of_ble_eq_true rfl, Nat.le_of_ble_eq_true rfl⟩ ⟨Nat.zero_le _, Nat.zero_le _⟩ rfl (Nat.le_of_ble_eq_true rfl) ?_
          change KW x 0 0 Q σ_6 96 [some (kr 0), some (ki x1), some (ki x2)] [ki r_8]
          refine kw_goto C (kdec dc_M_person 55 rfl) 115 (by decide) ?_
          obtain rfl := Option.some.inj h
          exact kw_Q (hR _ _ rfl) (kw_ireturn C (kdec dc_M_person 68 rfl))
      · rw [if_pos hc70] at h
        refine kw_aload_n C (kdec dc_M_person 41 rfl) rfl 74 rfl rfl ?_
        refine kw_getR C (kdec dc_M_person 42 rfl) 77 rfl fd_M_M_48_0 ?_
        refine kw_bipush (v := 9) C (kdec dc_M_person 43 rfl) 79 rfl (by decide) ⟨by decide, by decide⟩ ?_
        refine kw_iload_n C (kdec dc_M_person 44 rfl) rfl 80 rfl rfl ?_
        refine kw_iadd C (kdec dc_M_person 45 rfl) 81 rfl ?_
        obtain ⟨hc_10, h⟩ := kchk_h h
        refine kw_iald C (kdec dc_M_person 46 rfl) 82 rfl rfl hc_10.1 hc_10.2 ?_
        refine kw_goto C (kdec dc_M_person 47 rfl) 115 (by decide) ?_
        obtain rfl := Option.some.inj h
        exact kw_Q (hR _ _ rfl) (kw_ireturn C (kdec dc_M_person 68 rfl))
    · rw [if_pos hc54] at h
      refine kw_aload_n C (kdec dc_M_person 31 rfl) rfl 58 rfl rfl ?_
      refine kw_getR C (kdec dc_M_person 32 rfl) 61 rfl fd_M_M_48_0 ?_
      refine kw_iconst C (kdec dc_M_person 33 rfl) 62 rfl rfl ⟨by decide, by decide⟩ ?_
      refine kw_iload_n C (kdec dc_M_person 34 rfl) rfl 63 rfl rfl ?_
      refine kw_iadd C (kdec dc_M_person 35 rfl) 64 rfl ?_
      obtain ⟨hc_11, h⟩ := kchk_h h
      refine kw_iald C (kdec dc_M_person 36 rfl) 65 rfl rfl hc_11.1 hc_11.2 ?_
      refine kw_goto C (kdec dc_M_person 37 rfl) 115 (by decide) ?_
      obtain rfl := Option.some.inj h
      exact kw_Q (hR _ _ rfl) (kw_ireturn C (kdec dc_M_person 68 rfl))
  · rw [if_pos hc48] at h
    refine kw_iconst C (kdec dc_M_person 27 rfl) 52 rfl rfl ⟨by decide, by decide⟩ ?_
    obtain rfl := Option.some.inj h
    exact kw_Q (hR _ _ rfl) (kw_ireturn C (kdec dc_M_person 28 rfl))
def mm_person_j39 (σ : kM) (x1 : Int) (x2 : Int) : Option (Int × kM) :=
  mm_person_j44 σ x1 x2 1
set_option maxHeartbeats 4000000 in
theorem bd_mm_person_j39 {x : kX} {l0 : Launch} {Q : State → Prop} (C : kCx x prog_14_method_68_code "PoetFinesModel" (some .int) kcl yM 3 l0 R0_mm_person) (σ : kM) (x1 : Int) (x2 : Int) {out : Int × kM} (h : mm_person_j39 σ x1 x2 = some out) (hR : ∀ (r : Int) (τ : kM), out = (r, τ) → Q = kQ x (some (ki r)) τ 0 0) : KW x 0 0 Q σ 39 [some (kr 0), some (ki x1), some (ki x2)] [kr 0] := by
  unfold mm_person_j39 at h
  refine kw_iconst C (kdec dc_M_person 21 rfl) 40 rfl rfl ⟨by decide, by decide⟩ ?_
  refine kw_goto C (kdec dc_M_person 22 rfl) 44 (by decide) ?_
  exact bd_mm_person_j44 C σ x1 x2 1 h hR
def mm_person (σ : kM) (x1 : Int) (x2 : Int) : Option (Int × kM) :=
  klet (kst σ 0 (kup (σ 0) 0 0)) fun σ_1 =>
  (mm_isPerson σ_1 x1).bind fun (r_2, σ_3) =>
  if r_2 = 0 then
    some ((0, σ_3))
  else
    (mm_within σ_3 x2 0 2).bind fun r_4 =>
    if r_4 = 0 then
      (mm_within σ_3 x2 10 (w32 (9 + (σ_3 0 1)))).bind fun r_13 =>
      if r_13 = 0 then
        mm_person_j44 σ_3 x1 x2 0
      else
        mm_person_j39 σ_3 x1 x2
    else
      mm_person_j39 σ_3 x1 x2
set_option maxHeartbeats 4000000 in
theorem bd_mm_person {x : kX} {l0 : Launch} {Q : State → Prop} (C : kCx x prog_14_method_68_code "PoetFinesModel" (some .int) kcl yM 3 l0 R0_mm_person) (σ : kM) (x1 : Int) (x2 : Int) {out : Int × kM} (h : mm_person σ x1 x2 = some out) (hR : ∀ (r : Int) (τ : kM), out = (r, τ) → Q = kQ x (some (ki r)) τ 0 0) : KW x 0 0 Q σ 0 [some (kr 0), some (ki x1), some (ki x2)] [] := by
  unfold mm_person at h
  refine kw_aload_n C (kdec dc_M_person 0 rfl) rfl 1 rfl rfl ?_
  refine kw_iconst C (kdec dc_M_person 1 rfl) 2 rfl rfl ⟨by decide, by decide⟩ ?_
  obtain ⟨σ_1, eσ_1, h⟩ := klet_h h
  refine kw_putI C (kdec dc_M_person 2 rfl) 5 rfl fp_M_M_99_0 ?_
  refine kw_sig eσ_1 ?_
  refine kw_aload_n C (kdec dc_M_person 3 rfl) rfl 6 rfl rfl ?_
  refine kw_iload_n C (kdec dc_M_person 4 rfl) rfl 7 rfl rfl ?_
  obtain ⟨⟨r_2, σ_3⟩, hg_16, h⟩ := kbind_h h
  dsimp only at h
  refine kw_callV (As := [ki x1]) C (kdec dc_M_person 5 rfl) 10 rfl cv_M_370 rfl rfl (mt_mm_isPerson l0 hg_16) ⟨rfl, rfl⟩ ⟨Nat.le_of_ble_eq_true rfl, Nat.le_of_ble_eq_true rfl⟩ ⟨Nat.zero_le _, Nat.zero_le _⟩ rfl (Nat.le_of_ble_eq_true rfl) ?_
  change KW x 0 0 Q σ_3 10 [some (kr 0), some (ki x1), some (ki x2)] [ki r_2]
  refine kw_if_eq C (kdec dc_M_person 6 rfl) 51 13 (by decide) rfl (fun hc10 => ?_) (fun hc10 => ?_)
  · rw [if_pos hc10] at h
    refine kw_iconst C (kdec dc_M_person 27 rfl) 52 rfl rfl ⟨by decide, by decide⟩ ?_
    obtain rfl := Option.some.inj h
    exact kw_Q (hR _ _ rfl) (kw_ireturn C (kdec dc_M_person 28 rfl))
  · rw [if_neg hc10] at h
    refine kw_aload_n C (kdec dc_M_person 7 rfl) rfl 14 rfl rfl ?_
    refine kw_iload_n C (kdec dc_M_person 8 rfl) rfl 15 rfl rfl ?_
    refine kw_iconst C (kdec dc_M_person 9 rfl) 16 rfl rfl ⟨by decide, by decide⟩ ?_
    refine kw_iconst C (kdec dc_M_person 10 rfl) 17 rfl rfl ⟨by decide, by decide⟩ ?_
    obtain ⟨r_4, hg_15, h⟩ := kbind_h h
    refine kw_callS (As := [ki x2, ki 0, ki 2]) C (kdec dc_M_person 11 rfl) 20 rfl cs_M_355 (mt_mm_within l0 hg_15) ⟨rfl, rfl⟩ ⟨Nat.le_of_ble_eq_true rfl, Nat.le_of_ble_eq_true rfl⟩ ⟨Nat.zero_le _, Nat.zero_le _⟩ rfl (Nat.le_of_ble_eq_true rfl) ?_
    change KW x 0 0 Q σ_3 20 [some (kr 0), some (ki x1), some (ki x2)] [ki r_4, kr 0]
    refine kw_if_ne C (kdec dc_M_person 12 rfl) 39 23 (by decide) rfl (fun hc20 => ?_) (fun hc20 => ?_)
    · rw [if_neg hc20] at h
      exact bd_mm_person_j39 C σ_3 x1 x2 h hR
    · rw [if_pos hc20] at h
      refine kw_iload_n C (kdec dc_M_person 13 rfl) rfl 24 rfl rfl ?_
      refine kw_bipush (v := 10) C (kdec dc_M_person 14 rfl) 26 rfl (by decide) ⟨by decide, by decide⟩ ?_
      refine kw_bipush (v := 9) C (kdec dc_M_person 15 rfl) 28 rfl (by decide) ⟨by decide, by decide⟩ ?_
      refine kw_aload_n C (kdec dc_M_person 16 rfl) rfl 29 rfl rfl ?_
      refine kw_getI C (kdec dc_M_person 17 rfl) 32 rfl fd_M_M_7_0 ?_
      refine kw_iadd C (kdec dc_M_person 18 rfl) 33 rfl ?_
      obtain ⟨r_13, hg_14, h⟩ := kbind_h h
      refine kw_callS (As := [ki x2, ki 10, ki (w32 (9 + (σ_3 0 1)))]) C (kdec dc_M_person 19 rfl) 36 rfl cs_M_355 (mt_mm_within l0 hg_14) ⟨rfl, rfl⟩ ⟨Nat.le_of_ble_eq_true rfl, Nat.le_of_ble_eq_true rfl⟩ ⟨Nat.zero_le _, Nat.zero_le _⟩ rfl (Nat.le_of_ble_eq_true rfl) ?_
      change KW x 0 0 Q σ_3 36 [some (kr 0), some (ki x1), some (ki x2)] [ki r_13, kr 0]
      refine kw_if_eq C (kdec dc_M_person 20 rfl) 43 39 (by decide) rfl (fun hc36 => ?_) (fun hc36 => ?_)
      · rw [if_pos hc36] at h
        refine kw_iconst C (kdec dc_M_person 23 rfl) 44 rfl rfl ⟨by decide, by decide⟩ ?_
        exact bd_mm_person_j44 C σ_3 x1 x2 0 h hR
      · rw [if_neg hc36] at h
        exact bd_mm_person_j39 C σ_3 x1 x2 h hR
theorem mt_mm_person (l0 : Launch) {σ : kM} {x1 : Int} {x2 : Int} {r : Int} {τ : kM} (h : mm_person σ x1 x2 = some (r, τ)) : kMet l0 ky_M_person prog_14_method_68_code 3 (some .int) R0_mm_person kcl yM σ [kr 0, ki x1, ki x2] (some (ki r)) τ := kMet.of' [some (kr 0), some (ki x1), some (ki x2)] (by decide) (Nat.le_of_ble_eq_true rfl) ⟨rfl, rfl, rfl, trivial⟩ (fun x C => bd_mm_person C σ x1 x2 h (fun r τ e => by cases e; rfl))
def R0_mm_hitByNext : Room := ({ frames := 4, cells := 0, slots := 0, locals := 96 } : Room)
def mm_hitByNext_l4_j39 (σ : kM) (x1 : Int) (x3 : Int) (s0 : Int) (s1 : Int) : Option ((kM × Int × Int) ⊕ ((kM × Int))) :=
  klet (kor s1 s0) fun x2_4 =>
  klet (w32 (x3 + 1)) fun x3_5 =>
  some (Sum.inl (σ, x2_4, x3_5))
set_option maxHeartbeats 4000000 in
theorem bd_mm_hitByNext_l4_j39 {x : kX} {l0 : Launch} {Q : State → Prop} (C : kCx x prog_14_method_69_code "PoetFinesModel" (some .int) kcl yM 4 l0 R0_mm_hitByNext) (σ : kM) (x1 : Int) (x3 : Int) (s0 : Int) (s1 : Int) {out : (kM × Int × Int) ⊕ ((kM × Int))} (h : mm_hitByNext_l4_j39 σ x1 x3 s0 s1 = some out) (hC : ∀ (σ' : kM) (x2' : Int) (x3' : Int), out = Sum.inl (σ', x2', x3') → KW x 0 0 Q σ' 4 [some (kr 0), some (ki x1), some (ki x2'), some (ki x3')] []) (hX47 : ∀ (σ' : kM) (x2' : Int), out = Sum.inr (σ', x2') → KW x 0 0 Q σ' 47 [none, none, some (ki x2'), none] []) : KW x 0 0 Q σ 39 [some (kr 0), some (ki x1), none, some (ki x3)] [ki s0, ki s1] := by
  unfold mm_hitByNext_l4_j39 at h
  refine kw_ior C (kdec dc_M_hitByNext 26 rfl) 40 rfl ?_
  obtain ⟨x2_4, ex2_4, h⟩ := klet_h h
  refine kw_top ex2_4 ?_
  refine kw_istore_n (L' := [some (kr 0), some (ki x1), some (ki x2_4), some (ki x3)]) C (kdec dc_M_hitByNext 27 rfl) rfl 41 rfl (by decide) rfl rfl ?_
  obtain ⟨x3_5, ex3_5, h⟩ := klet_h h
  refine kw_iinc (L' := [some (kr 0), some (ki x1), some (ki x2_4), some (ki x3_5)]) C (kdec dc_M_hitByNext 28 rfl) 44 rfl rfl (by decide) rfl (by rw [ex3_5]; rfl) ?_
  refine kw_goto C (kdec dc_M_hitByNext 29 rfl) 4 (by decide) ?_
  obtain rfl := Option.some.inj h
  exact (hC _ _ _ rfl)
def mm_hitByNext_l4 (σ : kM) (x1 : Int) (x2 : Int) (x3 : Int) : Option ((kM × Int × Int) ⊕ ((kM × Int))) :=
  if (σ 0 2) ≤ x3 then
    some (Sum.inr (σ, x2))
  else
    kchk (0 ≤ (w32 (21 + x1)) ∧ (w32 (21 + x1)) < 290) <|
    (mm_inchesOf σ 0 x1 x3 (σ 8 (w32 (21 + x1)).toNat)).bind fun (r_2, σ_3) =>
    if r_2 ≤ 0 then
      mm_hitByNext_l4_j39 σ_3 x1 x3 0 x2
    else
      mm_hitByNext_l4_j39 σ_3 x1 x3 (kshl 1 x3) x2
set_option maxHeartbeats 4000000 in
theorem bd_mm_hitByNext_l4 {x : kX} {l0 : Launch} {Q : State → Prop} (C : kCx x prog_14_method_69_code "PoetFinesModel" (some .int) kcl yM 4 l0 R0_mm_hitByNext) (σ : kM) (x1 : Int) (x2 : Int) (x3 : Int) {out : (kM × Int × Int) ⊕ ((kM × Int))} (h : mm_hitByNext_l4 σ x1 x2 x3 = some out) (hC : ∀ (σ' : kM) (x2' : Int) (x3' : Int), out = Sum.inl (σ', x2', x3') → KW x 0 0 Q σ' 4 [some (kr 0), some (ki x1), some (ki x2'), some (ki x3')] []) (hX47 : ∀ (σ' : kM) (x2' : Int), out = Sum.inr (σ', x2') → KW x 0 0 Q σ' 47 [none, none, some (ki x2'), none] []) : KW x 0 0 Q σ 4 [some (kr 0), some (ki x1), some (ki x2), some (ki x3)] [] := by
  unfold mm_hitByNext_l4 at h
  refine kw_iload_n C (kdec dc_M_hitByNext 4 rfl) rfl 5 rfl rfl ?_
  refine kw_aload_n C (kdec dc_M_hitByNext 5 rfl) rfl 6 rfl rfl ?_
  refine kw_getI C (kdec dc_M_hitByNext 6 rfl) 9 rfl fd_M_M_270_0 ?_
  refine kw_icmp_ge C (kdec dc_M_hitByNext 7 rfl) 47 12 (by decide) rfl (fun hc9 => ?_) (fun hc9 => ?_)
  · rw [if_pos hc9] at h
    obtain rfl := Option.some.inj h
    exact kw_sub (L' := [none, none, some (ki x2), none]) ⟨rfl, trivial⟩ (hX47 _ _ rfl)
  · rw [if_neg hc9] at h
    refine kw_iload_n C (kdec dc_M_hitByNext 8 rfl) rfl 13 rfl rfl ?_
    refine kw_aload_n C (kdec dc_M_hitByNext 9 rfl) rfl 14 rfl rfl ?_
    refine kw_iconst C (kdec dc_M_hitByNext 10 rfl) 15 rfl rfl ⟨by decide, by decide⟩ ?_
    refine kw_iload_n C (kdec dc_M_hitByNext 11 rfl) rfl 16 rfl rfl ?_
    refine kw_iload_n C (kdec dc_M_hitByNext 12 rfl) rfl 17 rfl rfl ?_
    refine kw_aload_n C (kdec dc_M_hitByNext 13 rfl) rfl 18 rfl rfl ?_
    refine kw_getR C (kdec dc_M_hitByNext 14 rfl) 21 rfl fd_M_M_48_0 ?_
    refine kw_bipush (v := 21) C (kdec dc_M_hitByNext 15 rfl) 23 rfl (by decide) ⟨by decide, by decide⟩ ?_
    refine kw_iload_n C (kdec dc_M_hitByNext 16 rfl) rfl 24 rfl rfl ?_
    refine kw_iadd C (kdec dc_M_hitByNext 17 rfl) 25 rfl ?_
    obtain ⟨hc_1, h⟩ := kchk_h h
    refine kw_iald C (kdec dc_M_hitByNext 18 rfl) 26 rfl rfl hc_1.1 hc_1.2 ?_
    obtain ⟨⟨r_2, σ_3⟩, hg_6, h⟩ := kbind_h h
    dsimp only at h
    refine kw_callV (As := [ki 0, ki x1, ki x3, ki (σ 8 (w32 (21 + x1)).toNat)]) C (kdec dc_M_hitByNext 19 rfl) 29 rfl cv_M_330 rfl rfl (mt_mm_inchesOf l0 hg_6) ⟨rfl, rfl⟩ ⟨Nat.le_of_ble_eq_true rfl, Nat.le_of_ble_eq_true rfl⟩ ⟨Nat.zero_le _, Nat.zero_le _⟩ rfl (Nat.le_of_ble_eq_true rfl) ?_
    change KW x 0 0 Q σ_3 29 [some (kr 0), some (ki x1), some (ki x2), some (ki x3)] [ki r_2, ki x2]
    refine kw_if_le C (kdec dc_M_hitByNext 20 rfl) 38 32 (by decide) rfl (fun hc29 => ?_) (fun hc29 => ?_)
    · rw [if_pos hc29] at h
      refine kw_iconst C (kdec dc_M_hitByNext 25 rfl) 39 rfl rfl ⟨by decide, by decide⟩ ?_
      exact kw_sub (L' := [some (kr 0), some (ki x1), none, some (ki x3)]) ⟨rfl, rfl, rfl, trivial⟩ (bd_mm_hitByNext_l4_j39 C σ_3 x1 x3 0 x2 h hC hX47)
    · rw [if_neg hc29] at h
      refine kw_iconst C (kdec dc_M_hitByNext 21 rfl) 33 rfl rfl ⟨by decide, by decide⟩ ?_
      refine kw_iload_n C (kdec dc_M_hitByNext 22 rfl) rfl 34 rfl rfl ?_
      refine kw_ishl C (kdec dc_M_hitByNext 23 rfl) 35 rfl ?_
      refine kw_goto C (kdec dc_M_hitByNext 24 rfl) 39 (by decide) ?_
      exact kw_sub (L' := [some (kr 0), some (ki x1), none, some (ki x3)]) ⟨rfl, rfl, rfl, trivial⟩ (bd_mm_hitByNext_l4_j39 C σ_3 x1 x3 (kshl 1 x3) x2 h hC hX47)
theorem lp_mm_hitByNext_l4 {x : kX} {l0 : Launch} {Q : State → Prop} (C : kCx x prog_14_method_69_code "PoetFinesModel" (some .int) kcl yM 4 l0 R0_mm_hitByNext) (x1 : Int) {ex : (kM × Int)} (hX47 : ∀ (σ' : kM) (x2' : Int), ex = (σ', x2') → KW x 0 0 Q σ' 47 [none, none, some (ki x2'), none] []) (n : Nat) (σ : kM) (x2 : Int) (x3 : Int) (h : kloop (fun st => mm_hitByNext_l4 st.1 x1 st.2.1 st.2.2) n (σ, x2, x3) = some ex) : KW x 0 0 Q σ 4 [some (kr 0), some (ki x1), some (ki x2), some (ki x3)] [] :=
  kloop_ind (P := (fun st : kM × Int × Int => KW x 0 0 Q st.1 4 [some (kr 0), some (ki x1), some (ki (st.2.1)), some (ki (st.2.2))] [])) (fun st out hb hc hx => bd_mm_hitByNext_l4 C st.1 x1 st.2.1 st.2.2 hb (fun a0 a1 a2 e => hc _ e) (fun a0 a1 e => hX47 _ _ ((hx _ e).symm))) n (σ, x2, x3) h
def mm_hitByNext (σ : kM) (x1 : Int) : Option (Int × kM) :=
  (kloop (fun st => mm_hitByNext_l4 st.1 x1 st.2.1 st.2.2) kFuel (σ, 0, 0)).bind fun (σ_9, x2_10) =>
  some ((x2_10, σ_9))
set_option maxHeartbeats 4000000 in
theorem bd_mm_hitByNext {x : kX} {l0 : Launch} {Q : State → Prop} (C : kCx x prog_14_method_69_code "PoetFinesModel" (some .int) kcl yM 4 l0 R0_mm_hitByNext) (σ : kM) (x1 : Int) {out : Int × kM} (h : mm_hitByNext σ x1 = some out) (hR : ∀ (r : Int) (τ : kM), out = (r, τ) → Q = kQ x (some (ki r)) τ 0 0) : KW x 0 0 Q σ 0 [some (kr 0), some (ki x1), none, none] [] := by
  unfold mm_hitByNext at h
  refine kw_iconst C (kdec dc_M_hitByNext 0 rfl) 1 rfl rfl ⟨by decide, by decide⟩ ?_
  refine kw_istore_n (L' := [some (kr 0), some (ki x1), some (ki 0), none]) C (kdec dc_M_hitByNext 1 rfl) rfl 2 rfl (by decide) rfl rfl ?_
  refine kw_iconst C (kdec dc_M_hitByNext 2 rfl) 3 rfl rfl ⟨by decide, by decide⟩ ?_
  refine kw_istore_n (L' := [some (kr 0), some (ki x1), some (ki 0), some (ki 0)]) C (kdec dc_M_hitByNext 3 rfl) rfl 4 rfl (by decide) rfl rfl ?_
  obtain ⟨ex_7, hl_8, h⟩ := kbind_h h
  refine lp_mm_hitByNext_l4 C x1 ?_ kFuel σ 0 0 hl_8
  · intro σ_9 x2_10 e
    subst ex_7
    try dsimp only at h
    refine kw_iload_n C (kdec dc_M_hitByNext 30 rfl) rfl 48 rfl rfl ?_
    obtain rfl := Option.some.inj h
    exact kw_Q (hR _ _ rfl) (kw_ireturn C (kdec dc_M_hitByNext 31 rfl))
theorem mt_mm_hitByNext (l0 : Launch) {σ : kM} {x1 : Int} {r : Int} {τ : kM} (h : mm_hitByNext σ x1 = some (r, τ)) : kMet l0 ky_M_hitByNext prog_14_method_69_code 4 (some .int) R0_mm_hitByNext kcl yM σ [kr 0, ki x1] (some (ki r)) τ := kMet.of' [some (kr 0), some (ki x1), none, none] (by decide) (Nat.le_of_ble_eq_true rfl) ⟨rfl, rfl, trivial⟩ (fun x C => bd_mm_hitByNext C σ x1 h (fun r τ e => by cases e; rfl))
def R0_mm_poet : Room := ({ frames := 5, cells := 0, slots := 0, locals := 119 } : Room)
def mm_poet (σ : kM) (x1 : Int) (x2 : Int) : Option (Int × kM) :=
  klet (kst σ 0 (kup (σ 0) 0 0)) fun σ_1 =>
  (mm_isPoet σ_1 x1).bind fun (r_2, σ_3) =>
  if r_2 = 0 then
    some ((0, σ_3))
  else
    (mm_isWhat σ_3 x2 4).bind fun (r_4, σ_5) =>
    if r_4 = 0 then
      some ((0, σ_5))
    else
      if x2 = 0 then
        kchk (0 ≤ (w32 (17 + x1)) ∧ (w32 (17 + x1)) < 290) <|
        some ((σ_5 8 (w32 (17 + x1)).toNat, σ_5))
      else
        if x2 = 1 then
          kchk (0 ≤ (w32 (61 + x1)) ∧ (w32 (61 + x1)) < 290) <|
          some ((σ_5 8 (w32 (61 + x1)).toNat, σ_5))
        else
          if x2 = 2 then
            kchk (0 ≤ (w32 (21 + x1)) ∧ (w32 (21 + x1)) < 290) <|
            some ((σ_5 8 (w32 (21 + x1)).toNat, σ_5))
          else
            if x2 = 3 then
              kchk (0 ≤ (w32 (25 + x1)) ∧ (w32 (25 + x1)) < 290) <|
              some ((σ_5 8 (w32 (25 + x1)).toNat, σ_5))
            else
              (mm_hitByNext σ_5 x1).bind fun (r_10, σ_11) =>
              some ((r_10, σ_11))
set_option maxHeartbeats 4000000 in
theorem bd_mm_poet {x : kX} {l0 : Launch} {Q : State → Prop} (C : kCx x prog_14_method_70_code "PoetFinesModel" (some .int) kcl yM 3 l0 R0_mm_poet) (σ : kM) (x1 : Int) (x2 : Int) {out : Int × kM} (h : mm_poet σ x1 x2 = some out) (hR : ∀ (r : Int) (τ : kM), out = (r, τ) → Q = kQ x (some (ki r)) τ 0 0) : KW x 0 0 Q σ 0 [some (kr 0), some (ki x1), some (ki x2)] [] := by
  unfold mm_poet at h
  refine kw_aload_n C (kdec dc_M_poet 0 rfl) rfl 1 rfl rfl ?_
  refine kw_iconst C (kdec dc_M_poet 1 rfl) 2 rfl rfl ⟨by decide, by decide⟩ ?_
  obtain ⟨σ_1, eσ_1, h⟩ := klet_h h
  refine kw_putI C (kdec dc_M_poet 2 rfl) 5 rfl fp_M_M_99_0 ?_
  refine kw_sig eσ_1 ?_
  refine kw_aload_n C (kdec dc_M_poet 3 rfl) rfl 6 rfl rfl ?_
  refine kw_iload_n C (kdec dc_M_poet 4 rfl) rfl 7 rfl rfl ?_
  obtain ⟨⟨r_2, σ_3⟩, hg_14, h⟩ := kbind_h h
  dsimp only at h
  refine kw_callV (As := [ki x1]) C (kdec dc_M_poet 5 rfl) 10 rfl cv_M_367 rfl rfl (mt_mm_isPoet l0 hg_14) ⟨rfl, rfl⟩ ⟨Nat.le_of_ble_eq_true rfl, Nat.le_of_ble_eq_true rfl⟩ ⟨Nat.zero_le _, Nat.zero_le _⟩ rfl (Nat.le_of_ble_eq_true rfl) ?_
  change KW x 0 0 Q σ_3 10 [some (kr 0), some (ki x1), some (ki x2)] [ki r_2]
  refine kw_if_eq C (kdec dc_M_poet 6 rfl) 22 13 (by decide) rfl (fun hc10 => ?_) (fun hc10 => ?_)
  · rw [if_pos hc10] at h
    refine kw_iconst C (kdec dc_M_poet 12 rfl) 23 rfl rfl ⟨by decide, by decide⟩ ?_
    obtain rfl := Option.some.inj h
    exact kw_Q (hR _ _ rfl) (kw_ireturn C (kdec dc_M_poet 13 rfl))
  · rw [if_neg hc10] at h
    refine kw_aload_n C (kdec dc_M_poet 7 rfl) rfl 14 rfl rfl ?_
    refine kw_iload_n C (kdec dc_M_poet 8 rfl) rfl 15 rfl rfl ?_
    refine kw_iconst C (kdec dc_M_poet 9 rfl) 16 rfl rfl ⟨by decide, by decide⟩ ?_
    obtain ⟨⟨r_4, σ_5⟩, hg_13, h⟩ := kbind_h h
    dsimp only at h
    refine kw_callV (As := [ki x2, ki 4]) C (kdec dc_M_poet 10 rfl) 19 rfl cv_M_376 rfl rfl (mt_mm_isWhat l0 hg_13) ⟨rfl, rfl⟩ ⟨Nat.le_of_ble_eq_true rfl, Nat.le_of_ble_eq_true rfl⟩ ⟨Nat.zero_le _, Nat.zero_le _⟩ rfl (Nat.le_of_ble_eq_true rfl) ?_
    change KW x 0 0 Q σ_5 19 [some (kr 0), some (ki x1), some (ki x2)] [ki r_4]
    refine kw_if_ne C (kdec dc_M_poet 11 rfl) 24 22 (by decide) rfl (fun hc19 => ?_) (fun hc19 => ?_)
    · rw [if_neg hc19] at h
      refine kw_iload_n C (kdec dc_M_poet 14 rfl) rfl 25 rfl rfl ?_
      by_cases hc25_0 : x2 = 0
      · rw [if_pos hc25_0] at h
        refine kw_table C (kdec dc_M_poet 15 rfl) 56 (Or.inr ⟨by omega, by omega, _, by rw [hc25_0]; rfl, by decide⟩) ?_
        refine kw_aload_n C (kdec dc_M_poet 16 rfl) rfl 57 rfl rfl ?_
        refine kw_getR C (kdec dc_M_poet 17 rfl) 60 rfl fd_M_M_48_0 ?_
        refine kw_bipush (v := 17) C (kdec dc_M_poet 18 rfl) 62 rfl (by decide) ⟨by decide, by decide⟩ ?_
        refine kw_iload_n C (kdec dc_M_poet 19 rfl) rfl 63 rfl rfl ?_
        refine kw_iadd C (kdec dc_M_poet 20 rfl) 64 rfl ?_
        obtain ⟨hc_6, h⟩ := kchk_h h
        refine kw_iald C (kdec dc_M_poet 21 rfl) 65 rfl rfl hc_6.1 hc_6.2 ?_
        obtain rfl := Option.some.inj h
        exact kw_Q (hR _ _ rfl) (kw_ireturn C (kdec dc_M_poet 22 rfl))
      · rw [if_neg hc25_0] at h
        by_cases hc25_1 : x2 = 1
        · rw [if_pos hc25_1] at h
          refine kw_table C (kdec dc_M_poet 15 rfl) 66 (Or.inr ⟨by omega, by omega, _, by rw [hc25_1]; rfl, by decide⟩) ?_
          refine kw_aload_n C (kdec dc_M_poet 23 rfl) rfl 67 rfl rfl ?_
          refine kw_getR C (kdec dc_M_poet 24 rfl) 70 rfl fd_M_M_48_0 ?_
          refine kw_bipush (v := 61) C (kdec dc_M_poet 25 rfl) 72 rfl (by decide) ⟨by decide, by decide⟩ ?_
          refine kw_iload_n C (kdec dc_M_poet 26 rfl) rfl 73 rfl rfl ?_
          refine kw_iadd C (kdec dc_M_poet 27 rfl) 74 rfl ?_
          obtain ⟨hc_7, h⟩ := kchk_h h
          refine kw_iald C (kdec dc_M_poet 28 rfl) 75 rfl rfl hc_7.1 hc_7.2 ?_
          obtain rfl := Option.some.inj h
          exact kw_Q (hR _ _ rfl) (kw_ireturn C (kdec dc_M_poet 29 rfl))
        · rw [if_neg hc25_1] at h
          by_cases hc25_2 : x2 = 2
          · rw [if_pos hc25_2] at h
            refine kw_table C (kdec dc_M_poet 15 rfl) 76 (Or.inr ⟨by omega, by omega, _, by rw [hc25_2]; rfl, by decide⟩) ?_
            refine kw_aload_n C (kdec dc_M_poet 30 rfl) rfl 77 rfl rfl ?_
            refine kw_getR C (kdec dc_M_poet 31 rfl) 80 rfl fd_M_M_48_0 ?_
            refine kw_bipush (v := 21) C (kdec dc_M_poet 32 rfl) 82 rfl (by decide) ⟨by decide, by decide⟩ ?_
            refine kw_iload_n C (kdec dc_M_poet 33 rfl) rfl 83 rfl rfl ?_
            refine kw_iadd C (kdec dc_M_poet 34 rfl) 84 rfl ?_
            obtain ⟨hc_8, h⟩ := kchk_h h
            refine kw_iald C (kdec dc_M_poet 35 rfl) 85 rfl rfl hc_8.1 hc_8.2 ?_
            obtain rfl := Option.some.inj h
            exact kw_Q (hR _ _ rfl) (kw_ireturn C (kdec dc_M_poet 36 rfl))
          · rw [if_neg hc25_2] at h
            by_cases hc25_3 : x2 = 3
            · rw [if_pos hc25_3] at h
              refine kw_table C (kdec dc_M_poet 15 rfl) 86 (Or.inr ⟨by omega, by omega, _, by rw [hc25_3]; rfl, by decide⟩) ?_
              refine kw_aload_n C (kdec dc_M_poet 37 rfl) rfl 87 rfl rfl ?_
              refine kw_getR C (kdec dc_M_poet 38 rfl) 90 rfl fd_M_M_48_0 ?_
              refine kw_bipush (v := 25) C (kdec dc_M_poet 39 rfl) 92 rfl (by decide) ⟨by decide, by decide⟩ ?_
              refine kw_iload_n C (kdec dc_M_poet 40 rfl) rfl 93 rfl rfl ?_
              refine kw_iadd C (kdec dc_M_poet 41 rfl) 94 rfl ?_
              obtain ⟨hc_9, h⟩ := kchk_h h
              refine kw_iald C (kdec dc_M_poet 42 rfl) 95 rfl rfl hc_9.1 hc_9.2 ?_
              obtain rfl := Option.some.inj h
              exact kw_Q (hR _ _ rfl) (kw_ireturn C (kdec dc_M_poet 43 rfl))
            · rw [if_neg hc25_3] at h
              refine kw_table C (kdec dc_M_poet 15 rfl) 96 (Or.inl ⟨by omega, by decide⟩) ?_
              refine kw_aload_n C (kdec dc_M_poet 44 rfl) rfl 97 rfl rfl ?_
              refine kw_iload_n C (kdec dc_M_poet 45 rfl) rfl 98 rfl rfl ?_
              obtain ⟨⟨r_10, σ_11⟩, hg_12, h⟩ := kbind_h h
              dsimp only at h
              refine kw_callV (As := [ki x1]) C (kdec dc_M_poet 46 rfl) 101 rfl cv_M_380 rfl rfl (mt_mm_hitByNext l0 hg_12) ⟨rfl, rfl⟩ ⟨Nat.le_of_ble_eq_true rfl, Nat.le_of_ble_eq_true rfl⟩ ⟨Nat.zero_le _, Nat.zero_le _⟩ rfl (Nat.le_of_ble_eq_true rfl) ?_
              change KW x 0 0 Q σ_11 101 [some (kr 0), some (ki x1), some (ki x2)] [ki r_10]
              obtain rfl := Option.some.inj h
              exact kw_Q (hR _ _ rfl) (kw_ireturn C (kdec dc_M_poet 47 rfl))
    · rw [if_pos hc19] at h
      refine kw_iconst C (kdec dc_M_poet 12 rfl) 23 rfl rfl ⟨by decide, by decide⟩ ?_
      obtain rfl := Option.some.inj h
      exact kw_Q (hR _ _ rfl) (kw_ireturn C (kdec dc_M_poet 13 rfl))
theorem mt_mm_poet (l0 : Launch) {σ : kM} {x1 : Int} {x2 : Int} {r : Int} {τ : kM} (h : mm_poet σ x1 x2 = some (r, τ)) : kMet l0 ky_M_poet prog_14_method_70_code 3 (some .int) R0_mm_poet kcl yM σ [kr 0, ki x1, ki x2] (some (ki r)) τ := kMet.of' [some (kr 0), some (ki x1), some (ki x2)] (by decide) (Nat.le_of_ble_eq_true rfl) ⟨rfl, rfl, rfl, trivial⟩ (fun x C => bd_mm_poet C σ x1 x2 h (fun r τ e => by cases e; rfl))

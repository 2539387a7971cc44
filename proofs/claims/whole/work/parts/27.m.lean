def R0_mm_later : Room := ({ frames := 6, cells := 0, slots := 0, locals := 146 } : Room)
def mm_later_l35 (σ : kM) (x1 : Int) (x2 : Int) (x3 : Int) (x4 : Int) : Option ((kM × Int × Int) ⊕ ((kM × Int))) :=
  if x1 ≤ x4 then
    some (Sum.inr (σ, x3))
  else
    (mm_yearGoes σ 145).bind fun σ_7 =>
    klet (kor x3 (σ_7 0 49)) fun x3_8 =>
    klet (w32 (x4 + 1)) fun x4_9 =>
    some (Sum.inl (σ_7, x3_8, x4_9))
set_option maxHeartbeats 4000000 in
theorem bd_mm_later_l35 {x : kX} {l0 : Launch} {Q : State → Prop} (C : kCx x prog_14_method_86_code "PoetFinesModel" (some .int) kcl yM 7 l0 R0_mm_later) (σ : kM) (x1 : Int) (x2 : Int) (x3 : Int) (x4 : Int) {out : (kM × Int × Int) ⊕ ((kM × Int))} (h : mm_later_l35 σ x1 x2 x3 x4 = some out) (hC : ∀ (σ' : kM) (x3' : Int) (x4' : Int), out = Sum.inl (σ', x3', x4') → KW x 0 0 Q σ' 35 [some (kr 0), some (ki x1), some (ki x2), some (ki x3'), some (ki x4'), none, none] []) (hX61 : ∀ (σ' : kM) (x3' : Int), out = Sum.inr (σ', x3') → KW x 0 0 Q σ' 61 [some (kr 0), none, some (ki x2), some (ki x3'), none, none, none] []) : KW x 0 0 Q σ 35 [some (kr 0), some (ki x1), some (ki x2), some (ki x3), some (ki x4), none, none] [] := by
  unfold mm_later_l35 at h
  refine kw_iload C (kdec dc_M_later 22 rfl) 37 rfl rfl ?_
  refine kw_iload_n C (kdec dc_M_later 23 rfl) rfl 38 rfl rfl ?_
  refine kw_icmp_ge C (kdec dc_M_later 24 rfl) 61 41 (by decide) rfl (fun hc38 => ?_) (fun hc38 => ?_)
  · rw [if_pos hc38] at h
    obtain rfl := Option.some.inj h
    exact kw_sub (L' := [some (kr 0), none, some (ki x2), some (ki x3), none, none, none]) ⟨rfl, rfl, rfl, trivial⟩ (hX61 _ _ rfl)
  · rw [if_neg hc38] at h
    refine kw_aload_n C (kdec dc_M_later 25 rfl) rfl 42 rfl rfl ?_
    refine kw_sipush (v := 145) C (kdec dc_M_later 26 rfl) 45 rfl (by decide) ⟨by decide, by decide⟩ ?_
    obtain ⟨σ_7, hg_10, h⟩ := kbind_h h
    refine kw_callV (As := [ki 145]) C (kdec dc_M_later 27 rfl) 48 rfl cv_M_352 rfl rfl (mt_mm_yearGoes l0 hg_10) ⟨rfl, rfl⟩ ⟨Nat.le_of_ble_eq_true rfl, Nat.le_of_ble_eq_true rfl⟩ ⟨Nat.zero_le _, Nat.zero_le _⟩ rfl (Nat.le_of_ble_eq_true rfl) ?_
    change KW x 0 0 Q σ_7 48 [some (kr 0), some (ki x1), some (ki x2), some (ki x3), some (ki x4), none, none] []
    refine kw_iload_n C (kdec dc_M_later 28 rfl) rfl 49 rfl rfl ?_
    refine kw_aload_n C (kdec dc_M_later 29 rfl) rfl 50 rfl rfl ?_
    refine kw_getI C (kdec dc_M_later 30 rfl) 53 rfl fd_M_M_337_0 ?_
    refine kw_ior C (kdec dc_M_later 31 rfl) 54 rfl ?_
    obtain ⟨x3_8, ex3_8, h⟩ := klet_h h
    refine kw_top ex3_8 ?_
    refine kw_istore_n (L' := [some (kr 0), some (ki x1), some (ki x2), some (ki x3_8), some (ki x4), none, none]) C (kdec dc_M_later 32 rfl) rfl 55 rfl (by decide) rfl rfl ?_
    obtain ⟨x4_9, ex4_9, h⟩ := klet_h h
    refine kw_iinc (L' := [some (kr 0), some (ki x1), some (ki x2), some (ki x3_8), some (ki x4_9), none, none]) C (kdec dc_M_later 33 rfl) 58 rfl rfl (by decide) rfl (by rw [ex4_9]; rfl) ?_
    refine kw_goto C (kdec dc_M_later 34 rfl) 35 (by decide) ?_
    obtain rfl := Option.some.inj h
    exact (hC _ _ _ rfl)
theorem lp_mm_later_l35 {x : kX} {l0 : Launch} {Q : State → Prop} (C : kCx x prog_14_method_86_code "PoetFinesModel" (some .int) kcl yM 7 l0 R0_mm_later) (x1 : Int) (x2 : Int) {ex : (kM × Int)} (hX61 : ∀ (σ' : kM) (x3' : Int), ex = (σ', x3') → KW x 0 0 Q σ' 61 [some (kr 0), none, some (ki x2), some (ki x3'), none, none, none] []) (n : Nat) (σ : kM) (x3 : Int) (x4 : Int) (h : kloop (fun st => mm_later_l35 st.1 x1 x2 st.2.1 st.2.2) n (σ, x3, x4) = some ex) : KW x 0 0 Q σ 35 [some (kr 0), some (ki x1), some (ki x2), some (ki x3), some (ki x4), none, none] [] :=
  kloop_ind (P := (fun st : kM × Int × Int => KW x 0 0 Q st.1 35 [some (kr 0), some (ki x1), some (ki x2), some (ki (st.2.1)), some (ki (st.2.2)), none, none] [])) (fun st out hb hc hx => bd_mm_later_l35 C st.1 x1 x2 st.2.1 st.2.2 hb (fun a0 a1 a2 e => hc _ e) (fun a0 a1 e => hX61 _ _ ((hx _ e).symm))) n (σ, x3, x4) h
def mm_later_l70_j114 (σ : kM) (x2 : Int) (x3 : Int) (x4 : Int) (x5 : Int) (x6 : Int) : Option ((Int × Int) ⊕ ((Int))) :=
  klet (w32 (x6 + 1)) fun x6_17 =>
  some (Sum.inl (x4, x6_17))
set_option maxHeartbeats 4000000 in
theorem bd_mm_later_l70_j114 {x : kX} {l0 : Launch} {Q : State → Prop} (C : kCx x prog_14_method_86_code "PoetFinesModel" (some .int) kcl yM 7 l0 R0_mm_later) (σ : kM) (x2 : Int) (x3 : Int) (x4 : Int) (x5 : Int) (x6 : Int) {out : (Int × Int) ⊕ ((Int))} (h : mm_later_l70_j114 σ x2 x3 x4 x5 x6 = some out) (hC : ∀ (x4' : Int) (x6' : Int), out = Sum.inl (x4', x6') → KW x 0 0 Q σ 70 [some (kr 0), none, some (ki x2), some (ki x3), some (ki x4'), some (ki x5), some (ki x6')] []) (hX120 : ∀ (x4' : Int), out = Sum.inr x4' → KW x 0 0 Q σ 120 [some (kr 0), none, some (ki x2), some (ki x3), some (ki x4'), some (ki x5), none] []) : KW x 0 0 Q σ 114 [some (kr 0), none, some (ki x2), some (ki x3), some (ki x4), some (ki x5), some (ki x6)] [] := by
  unfold mm_later_l70_j114 at h
  obtain ⟨x6_17, ex6_17, h⟩ := klet_h h
  refine kw_iinc (L' := [some (kr 0), none, some (ki x2), some (ki x3), some (ki x4), some (ki x5), some (ki x6_17)]) C (kdec dc_M_later 63 rfl) 117 rfl rfl (by decide) rfl (by rw [ex6_17]; rfl) ?_
  refine kw_goto C (kdec dc_M_later 64 rfl) 70 (by decide) ?_
  obtain rfl := Option.some.inj h
  exact (hC _ _ rfl)
def mm_later_l70_j110 (σ : kM) (x2 : Int) (x3 : Int) (x5 : Int) (x6 : Int) : Option ((Int × Int) ⊕ ((Int))) :=
  mm_later_l70_j114 σ x2 x3 x6 x5 x6
set_option maxHeartbeats 4000000 in
theorem bd_mm_later_l70_j110 {x : kX} {l0 : Launch} {Q : State → Prop} (C : kCx x prog_14_method_86_code "PoetFinesModel" (some .int) kcl yM 7 l0 R0_mm_later) (σ : kM) (x2 : Int) (x3 : Int) (x5 : Int) (x6 : Int) {out : (Int × Int) ⊕ ((Int))} (h : mm_later_l70_j110 σ x2 x3 x5 x6 = some out) (hC : ∀ (x4' : Int) (x6' : Int), out = Sum.inl (x4', x6') → KW x 0 0 Q σ 70 [some (kr 0), none, some (ki x2), some (ki x3), some (ki x4'), some (ki x5), some (ki x6')] []) (hX120 : ∀ (x4' : Int), out = Sum.inr x4' → KW x 0 0 Q σ 120 [some (kr 0), none, some (ki x2), some (ki x3), some (ki x4'), some (ki x5), none] []) : KW x 0 0 Q σ 110 [some (kr 0), none, some (ki x2), some (ki x3), none, some (ki x5), some (ki x6)] [] := by
  unfold mm_later_l70_j110 at h
  refine kw_iload C (kdec dc_M_later 61 rfl) 112 rfl rfl ?_
  refine kw_istore (L' := [some (kr 0), none, some (ki x2), some (ki x3), some (ki x6), some (ki x5), some (ki x6)]) C (kdec dc_M_later 62 rfl) 114 rfl (by decide) rfl rfl ?_
  exact bd_mm_later_l70_j114 C σ x2 x3 x6 x5 x6 h hC hX120
def mm_later_l70 (σ : kM) (x2 : Int) (x3 : Int) (x4 : Int) (x5 : Int) (x6 : Int) : Option ((Int × Int) ⊕ ((Int))) :=
  if (σ 0 2) ≤ x6 then
    some (Sum.inr x4)
  else
    if x4 = ((-1)) then
      mm_later_l70_j110 σ x2 x3 x5 x6
    else
      kchk (0 ≤ (w32 (146 + x6)) ∧ (w32 (146 + x6)) < 290) <|
      kchk (0 ≤ (w32 (146 + x4)) ∧ (w32 (146 + x4)) < 290) <|
      if (σ 8 (w32 (146 + x6)).toNat) ≤ (σ 8 (w32 (146 + x4)).toNat) then
        mm_later_l70_j114 σ x2 x3 x4 x5 x6
      else
        mm_later_l70_j110 σ x2 x3 x5 x6
set_option maxHeartbeats 4000000 in
theorem bd_mm_later_l70 {x : kX} {l0 : Launch} {Q : State → Prop} (C : kCx x prog_14_method_86_code "PoetFinesModel" (some .int) kcl yM 7 l0 R0_mm_later) (σ : kM) (x2 : Int) (x3 : Int) (x4 : Int) (x5 : Int) (x6 : Int) {out : (Int × Int) ⊕ ((Int))} (h : mm_later_l70 σ x2 x3 x4 x5 x6 = some out) (hC : ∀ (x4' : Int) (x6' : Int), out = Sum.inl (x4', x6') → KW x 0 0 Q σ 70 [some (kr 0), none, some (ki x2), some (ki x3), some (ki x4'), some (ki x5), some (ki x6')] []) (hX120 : ∀ (x4' : Int), out = Sum.inr x4' → KW x 0 0 Q σ 120 [some (kr 0), none, some (ki x2), some (ki x3), some (ki x4'), some (ki x5), none] []) : KW x 0 0 Q σ 70 [some (kr 0), none, some (ki x2), some (ki x3), some (ki x4), some (ki x5), some (ki x6)] [] := by
  unfold mm_later_l70 at h
  refine kw_iload C (kdec dc_M_later 41 rfl) 72 rfl rfl ?_
  refine kw_aload_n C (kdec dc_M_later 42 rfl) rfl 73 rfl rfl ?_
  refine kw_getI C (kdec dc_M_later 43 rfl) 76 rfl fd_M_M_270_0 ?_
  refine kw_icmp_ge C (kdec dc_M_later 44 rfl) 120 79 (by decide) rfl (fun hc76 => ?_) (fun hc76 => ?_)
  · rw [if_pos hc76] at h
    obtain rfl := Option.some.inj h
    exact kw_sub (L' := [some (kr 0), none, some (ki x2), some (ki x3), some (ki x4), some (ki x5), none]) ⟨rfl, rfl, rfl, rfl, rfl, trivial⟩ (hX120 _ rfl)
  · rw [if_neg hc76] at h
    refine kw_iload C (kdec dc_M_later 45 rfl) 81 rfl rfl ?_
    refine kw_iconst C (kdec dc_M_later 46 rfl) 82 rfl rfl ⟨by decide, by decide⟩ ?_
    refine kw_icmp_eq C (kdec dc_M_later 47 rfl) 110 85 (by decide) rfl (fun hc82 => ?_) (fun hc82 => ?_)
    · rw [if_pos hc82] at h
      exact kw_sub (L' := [some (kr 0), none, some (ki x2), some (ki x3), none, some (ki x5), some (ki x6)]) ⟨rfl, rfl, rfl, rfl, rfl, trivial⟩ (bd_mm_later_l70_j110 C σ x2 x3 x5 x6 h hC hX120)
    · rw [if_neg hc82] at h
      refine kw_aload_n C (kdec dc_M_later 48 rfl) rfl 86 rfl rfl ?_
      refine kw_getR C (kdec dc_M_later 49 rfl) 89 rfl fd_M_M_48_0 ?_
      refine kw_sipush (v := 146) C (kdec dc_M_later 50 rfl) 92 rfl (by decide) ⟨by decide, by decide⟩ ?_
      refine kw_iload C (kdec dc_M_later 51 rfl) 94 rfl rfl ?_
      refine kw_iadd C (kdec dc_M_later 52 rfl) 95 rfl ?_
      obtain ⟨hc_18, h⟩ := kchk_h h
      refine kw_iald C (kdec dc_M_later 53 rfl) 96 rfl rfl hc_18.1 hc_18.2 ?_
      refine kw_aload_n C (kdec dc_M_later 54 rfl) rfl 97 rfl rfl ?_
      refine kw_getR C (kdec dc_M_later 55 rfl) 100 rfl fd_M_M_48_0 ?_
      refine kw_sipush (v := 146) C (kdec dc_M_later 56 rfl) 103 rfl (by decide) ⟨by decide, by decide⟩ ?_
      refine kw_iload C (kdec dc_M_later 57 rfl) 105 rfl rfl ?_
      refine kw_iadd C (kdec dc_M_later 58 rfl) 106 rfl ?_
      obtain ⟨hc_19, h⟩ := kchk_h h
      refine kw_iald C (kdec dc_M_later 59 rfl) 107 rfl rfl hc_19.1 hc_19.2 ?_
      refine kw_icmp_le C (kdec dc_M_later 60 rfl) 114 110 (by decide) rfl (fun hc107 => ?_) (fun hc107 => ?_)
      · rw [if_pos hc107] at h
        exact bd_mm_later_l70_j114 C σ x2 x3 x4 x5 x6 h hC hX120
      · rw [if_neg hc107] at h
        exact kw_sub (L' := [some (kr 0), none, some (ki x2), some (ki x3), none, some (ki x5), some (ki x6)]) ⟨rfl, rfl, rfl, rfl, rfl, trivial⟩ (bd_mm_later_l70_j110 C σ x2 x3 x5 x6 h hC hX120)
theorem lp_mm_later_l70 {x : kX} {l0 : Launch} {Q : State → Prop} (C : kCx x prog_14_method_86_code "PoetFinesModel" (some .int) kcl yM 7 l0 R0_mm_later) (σ : kM) (x2 : Int) (x3 : Int) (x5 : Int) {ex : (Int)} (hX120 : ∀ (x4' : Int), ex = x4' → KW x 0 0 Q σ 120 [some (kr 0), none, some (ki x2), some (ki x3), some (ki x4'), some (ki x5), none] []) (n : Nat) (x4 : Int) (x6 : Int) (h : kloop (fun st => mm_later_l70 σ x2 x3 st.1 x5 st.2) n (x4, x6) = some ex) : KW x 0 0 Q σ 70 [some (kr 0), none, some (ki x2), some (ki x3), some (ki x4), some (ki x5), some (ki x6)] [] :=
  kloop_ind (P := (fun st : Int × Int => KW x 0 0 Q σ 70 [some (kr 0), none, some (ki x2), some (ki x3), some (ki (st.1)), some (ki x5), some (ki (st.2))] [])) (fun st out hb hc hx => bd_mm_later_l70 C σ x2 x3 st.1 x5 st.2 hb (fun a0 a1 e => hc _ e) (fun a0 e => hX120 _ ((hx _ e).symm))) n (x4, x6) h
def mm_later_l123_j167 (σ : kM) (x2 : Int) (x3 : Int) (x4 : Int) (x5 : Int) (x6 : Int) : Option ((Int × Int) ⊕ ((Int))) :=
  klet (w32 (x6 + 1)) fun x6_23 =>
  some (Sum.inl (x5, x6_23))
set_option maxHeartbeats 4000000 in
theorem bd_mm_later_l123_j167 {x : kX} {l0 : Launch} {Q : State → Prop} (C : kCx x prog_14_method_86_code "PoetFinesModel" (some .int) kcl yM 7 l0 R0_mm_later) (σ : kM) (x2 : Int) (x3 : Int) (x4 : Int) (x5 : Int) (x6 : Int) {out : (Int × Int) ⊕ ((Int))} (h : mm_later_l123_j167 σ x2 x3 x4 x5 x6 = some out) (hC : ∀ (x5' : Int) (x6' : Int), out = Sum.inl (x5', x6') → KW x 0 0 Q σ 123 [some (kr 0), none, some (ki x2), some (ki x3), some (ki x4), some (ki x5'), some (ki x6')] []) (hX173 : ∀ (x5' : Int), out = Sum.inr x5' → KW x 0 0 Q σ 173 [some (kr 0), none, some (ki x2), some (ki x3), some (ki x4), some (ki x5'), none] []) : KW x 0 0 Q σ 167 [some (kr 0), none, some (ki x2), some (ki x3), some (ki x4), some (ki x5), some (ki x6)] [] := by
  unfold mm_later_l123_j167 at h
  obtain ⟨x6_23, ex6_23, h⟩ := klet_h h
  refine kw_iinc (L' := [some (kr 0), none, some (ki x2), some (ki x3), some (ki x4), some (ki x5), some (ki x6_23)]) C (kdec dc_M_later 89 rfl) 170 rfl rfl (by decide) rfl (by rw [ex6_23]; rfl) ?_
  refine kw_goto C (kdec dc_M_later 90 rfl) 123 (by decide) ?_
  obtain rfl := Option.some.inj h
  exact (hC _ _ rfl)
def mm_later_l123_j163 (σ : kM) (x2 : Int) (x3 : Int) (x4 : Int) (x6 : Int) : Option ((Int × Int) ⊕ ((Int))) :=
  mm_later_l123_j167 σ x2 x3 x4 x6 x6
set_option maxHeartbeats 4000000 in
theorem bd_mm_later_l123_j163 {x : kX} {l0 : Launch} {Q : State → Prop} (C : kCx x prog_14_method_86_code "PoetFinesModel" (some .int) kcl yM 7 l0 R0_mm_later) (σ : kM) (x2 : Int) (x3 : Int) (x4 : Int) (x6 : Int) {out : (Int × Int) ⊕ ((Int))} (h : mm_later_l123_j163 σ x2 x3 x4 x6 = some out) (hC : ∀ (x5' : Int) (x6' : Int), out = Sum.inl (x5', x6') → KW x 0 0 Q σ 123 [some (kr 0), none, some (ki x2), some (ki x3), some (ki x4), some (ki x5'), some (ki x6')] []) (hX173 : ∀ (x5' : Int), out = Sum.inr x5' → KW x 0 0 Q σ 173 [some (kr 0), none, some (ki x2), some (ki x3), some (ki x4), some (ki x5'), none] []) : KW x 0 0 Q σ 163 [some (kr 0), none, some (ki x2), some (ki x3), some (ki x4), none, some (ki x6)] [] := by
  unfold mm_later_l123_j163 at h
  refine kw_iload C (kdec dc_M_later 87 rfl) 165 rfl rfl ?_
  refine kw_istore (L' := [some (kr 0), none, some (ki x2), some (ki x3), some (ki x4), some (ki x6), some (ki x6)]) C (kdec dc_M_later 88 rfl) 167 rfl (by decide) rfl rfl ?_
  exact bd_mm_later_l123_j167 C σ x2 x3 x4 x6 x6 h hC hX173
def mm_later_l123 (σ : kM) (x2 : Int) (x3 : Int) (x4 : Int) (x5 : Int) (x6 : Int) : Option ((Int × Int) ⊕ ((Int))) :=
  if (σ 0 3) ≤ x6 then
    some (Sum.inr x5)
  else
    if x5 = ((-1)) then
      mm_later_l123_j163 σ x2 x3 x4 x6
    else
      kchk (0 ≤ (w32 (162 + x6)) ∧ (w32 (162 + x6)) < 290) <|
      kchk (0 ≤ (w32 (162 + x5)) ∧ (w32 (162 + x5)) < 290) <|
      if (σ 8 (w32 (162 + x5)).toNat) ≤ (σ 8 (w32 (162 + x6)).toNat) then
        mm_later_l123_j167 σ x2 x3 x4 x5 x6
      else
        mm_later_l123_j163 σ x2 x3 x4 x6
set_option maxHeartbeats 4000000 in
theorem bd_mm_later_l123 {x : kX} {l0 : Launch} {Q : State → Prop} (C : kCx x prog_14_method_86_code "PoetFinesModel" (some .int) kcl yM 7 l0 R0_mm_later) (σ : kM) (x2 : Int) (x3 : Int) (x4 : Int) (x5 : Int) (x6 : Int) {out : (Int × Int) ⊕ ((Int))} (h : mm_later_l123 σ x2 x3 x4 x5 x6 = some out) (hC : ∀ (x5' : Int) (x6' : Int), out = Sum.inl (x5', x6') → KW x 0 0 Q σ 123 [some (kr 0), none, some (ki x2), some (ki x3), some (ki x4), some (ki x5'), some (ki x6')] []) (hX173 : ∀ (x5' : Int), out = Sum.inr x5' → KW x 0 0 Q σ 173 [some (kr 0), none, some (ki x2), some (ki x3), some (ki x4), some (ki x5'), none] []) : KW x 0 0 Q σ 123 [some (kr 0), none, some (ki x2), some (ki x3), some (ki x4), some (ki x5), some (ki x6)] [] := by
  unfold mm_later_l123 at h
  refine kw_iload C (kdec dc_M_later 67 rfl) 125 rfl rfl ?_
  refine kw_aload_n C (kdec dc_M_later 68 rfl) rfl 126 rfl rfl ?_
  refine kw_getI C (kdec dc_M_later 69 rfl) 129 rfl fd_M_M_273_0 ?_
  refine kw_icmp_ge C (kdec dc_M_later 70 rfl) 173 132 (by decide) rfl (fun hc129 => ?_) (fun hc129 => ?_)
  · rw [if_pos hc129] at h
    obtain rfl := Option.some.inj h
    exact kw_sub (L' := [some (kr 0), none, some (ki x2), some (ki x3), some (ki x4), some (ki x5), none]) ⟨rfl, rfl, rfl, rfl, rfl, trivial⟩ (hX173 _ rfl)
  · rw [if_neg hc129] at h
    refine kw_iload C (kdec dc_M_later 71 rfl) 134 rfl rfl ?_
    refine kw_iconst C (kdec dc_M_later 72 rfl) 135 rfl rfl ⟨by decide, by decide⟩ ?_
    refine kw_icmp_eq C (kdec dc_M_later 73 rfl) 163 138 (by decide) rfl (fun hc135 => ?_) (fun hc135 => ?_)
    · rw [if_pos hc135] at h
      exact kw_sub (L' := [some (kr 0), none, some (ki x2), some (ki x3), some (ki x4), none, some (ki x6)]) ⟨rfl, rfl, rfl, rfl, rfl, trivial⟩ (bd_mm_later_l123_j163 C σ x2 x3 x4 x6 h hC hX173)
    · rw [if_neg hc135] at h
      refine kw_aload_n C (kdec dc_M_later 74 rfl) rfl 139 rfl rfl ?_
      refine kw_getR C (kdec dc_M_later 75 rfl) 142 rfl fd_M_M_48_0 ?_
      refine kw_sipush (v := 162) C (kdec dc_M_later 76 rfl) 145 rfl (by decide) ⟨by decide, by decide⟩ ?_
      refine kw_iload C (kdec dc_M_later 77 rfl) 147 rfl rfl ?_
      refine kw_iadd C (kdec dc_M_later 78 rfl) 148 rfl ?_
      obtain ⟨hc_24, h⟩ := kchk_h h
      refine kw_iald C (kdec dc_M_later 79 rfl) 149 rfl rfl hc_24.1 hc_24.2 ?_
      refine kw_aload_n C (kdec dc_M_later 80 rfl) rfl 150 rfl rfl ?_
      refine kw_getR C (kdec dc_M_later 81 rfl) 153 rfl fd_M_M_48_0 ?_
      refine kw_sipush (v := 162) C (kdec dc_M_later 82 rfl) 156 rfl (by decide) ⟨by decide, by decide⟩ ?_
      refine kw_iload C (kdec dc_M_later 83 rfl) 158 rfl rfl ?_
      refine kw_iadd C (kdec dc_M_later 84 rfl) 159 rfl ?_
      obtain ⟨hc_25, h⟩ := kchk_h h
      refine kw_iald C (kdec dc_M_later 85 rfl) 160 rfl rfl hc_25.1 hc_25.2 ?_
      refine kw_icmp_ge C (kdec dc_M_later 86 rfl) 167 163 (by decide) rfl (fun hc160 => ?_) (fun hc160 => ?_)
      · rw [if_pos hc160] at h
        exact bd_mm_later_l123_j167 C σ x2 x3 x4 x5 x6 h hC hX173
      · rw [if_neg hc160] at h
        exact kw_sub (L' := [some (kr 0), none, some (ki x2), some (ki x3), some (ki x4), none, some (ki x6)]) ⟨rfl, rfl, rfl, rfl, rfl, trivial⟩ (bd_mm_later_l123_j163 C σ x2 x3 x4 x6 h hC hX173)
theorem lp_mm_later_l123 {x : kX} {l0 : Launch} {Q : State → Prop} (C : kCx x prog_14_method_86_code "PoetFinesModel" (some .int) kcl yM 7 l0 R0_mm_later) (σ : kM) (x2 : Int) (x3 : Int) (x4 : Int) {ex : (Int)} (hX173 : ∀ (x5' : Int), ex = x5' → KW x 0 0 Q σ 173 [some (kr 0), none, some (ki x2), some (ki x3), some (ki x4), some (ki x5'), none] []) (n : Nat) (x5 : Int) (x6 : Int) (h : kloop (fun st => mm_later_l123 σ x2 x3 x4 st.1 st.2) n (x5, x6) = some ex) : KW x 0 0 Q σ 123 [some (kr 0), none, some (ki x2), some (ki x3), some (ki x4), some (ki x5), some (ki x6)] [] :=
  kloop_ind (P := (fun st : Int × Int => KW x 0 0 Q σ 123 [some (kr 0), none, some (ki x2), some (ki x3), some (ki x4), some (ki (st.1)), some (ki (st.2))] [])) (fun st out hb hc hx => bd_mm_later_l123 C σ x2 x3 x4 st.1 st.2 hb (fun a0 a1 e => hc _ e) (fun a0 e => hX173 _ ((hx _ e).symm))) n (x5, x6) h
def mm_later (σ : kM) (x1 : Int) (x2 : Int) : Option (Int × kM) :=
  klet (kst σ 0 (kup (σ 0) 0 0)) fun σ_1 =>
  (mm_isWhat σ_1 x2 4).bind fun (r_2, σ_3) =>
  if r_2 = 0 then
    some ((0, σ_3))
  else
    (mm_isSoon σ_3 x1 0 2).bind fun (r_4, σ_5) =>
    if r_4 = 0 then
      some ((0, σ_5))
    else
      (mm_tries σ_5).bind fun σ_6 =>
      (kloop (fun st => mm_later_l35 st.1 x1 x2 st.2.1 st.2.2) kFuel (σ_6, 0, 0)).bind fun (σ_13, x3_14) =>
      klet ((-1)) fun x4_15 =>
      klet ((-1)) fun x5_16 =>
      (kloop (fun st => mm_later_l70 σ_13 x2 x3_14 st.1 x5_16 st.2) kFuel (x4_15, 0)).bind fun x4_22 =>
      (kloop (fun st => mm_later_l123 σ_13 x2 x3_14 x4_22 st.1 st.2) kFuel (x5_16, 0)).bind fun x5_28 =>
      if x2 = 0 then
        some ((x4_22, σ_13))
      else
        if x2 = 1 then
          some ((x5_28, σ_13))
        else
          if x2 = 2 then
            (mm_sitting σ_13 145).bind fun r_31 =>
            some ((r_31, σ_13))
          else
            if x2 = 3 then
              (mm_wholeOnes σ_13 145).bind fun r_29 =>
              some ((r_29, σ_13))
            else
              some ((x3_14, σ_13))
set_option maxHeartbeats 4000000 in
theorem bd_mm_later {x : kX} {l0 : Launch} {Q : State → Prop} (C : kCx x prog_14_method_86_code "PoetFinesModel" (some .int) kcl yM 7 l0 R0_mm_later) (σ : kM) (x1 : Int) (x2 : Int) {out : Int × kM} (h : mm_later σ x1 x2 = some out) (hR : ∀ (r : Int) (τ : kM), out = (r, τ) → Q = kQ x (some (ki r)) τ 0 0) : KW x 0 0 Q σ 0 [some (kr 0), some (ki x1), some (ki x2), none, none, none, none] [] := by
  unfold mm_later at h
  refine kw_aload_n C (kdec dc_M_later 0 rfl) rfl 1 rfl rfl ?_
  refine kw_iconst C (kdec dc_M_later 1 rfl) 2 rfl rfl ⟨by decide, by decide⟩ ?_
  obtain ⟨σ_1, eσ_1, h⟩ := klet_h h
  refine kw_putI C (kdec dc_M_later 2 rfl) 5 rfl fp_M_M_99_0 ?_
  refine kw_sig eσ_1 ?_
  refine kw_aload_n C (kdec dc_M_later 3 rfl) rfl 6 rfl rfl ?_
  refine kw_iload_n C (kdec dc_M_later 4 rfl) rfl 7 rfl rfl ?_
  refine kw_iconst C (kdec dc_M_later 5 rfl) 8 rfl rfl ⟨by decide, by decide⟩ ?_
  obtain ⟨⟨r_2, σ_3⟩, hg_35, h⟩ := kbind_h h
  dsimp only at h
  refine kw_callV (As := [ki x2, ki 4]) C (kdec dc_M_later 6 rfl) 11 rfl cv_M_376 rfl rfl (mt_mm_isWhat l0 hg_35) ⟨rfl, rfl⟩ ⟨Nat.le_of_ble_eq_true rfl, Nat.le_of_ble_eq_true rfl⟩ ⟨Nat.zero_le _, Nat.zero_le _⟩ rfl (Nat.le_of_ble_eq_true rfl) ?_
  change KW x 0 0 Q σ_3 11 [some (kr 0), some (ki x1), some (ki x2), none, none, none, none] [ki r_2]
  refine kw_if_eq C (kdec dc_M_later 7 rfl) 24 14 (by decide) rfl (fun hc11 => ?_) (fun hc11 => ?_)
  · rw [if_pos hc11] at h
    refine kw_iconst C (kdec dc_M_later 14 rfl) 25 rfl rfl ⟨by decide, by decide⟩ ?_
    obtain rfl := Option.some.inj h
    exact kw_Q (hR _ _ rfl) (kw_ireturn C (kdec dc_M_later 15 rfl))
  · rw [if_neg hc11] at h
    refine kw_aload_n C (kdec dc_M_later 8 rfl) rfl 15 rfl rfl ?_
    refine kw_iload_n C (kdec dc_M_later 9 rfl) rfl 16 rfl rfl ?_
    refine kw_iconst C (kdec dc_M_later 10 rfl) 17 rfl rfl ⟨by decide, by decide⟩ ?_
    refine kw_iconst C (kdec dc_M_later 11 rfl) 18 rfl rfl ⟨by decide, by decide⟩ ?_
    obtain ⟨⟨r_4, σ_5⟩, hg_34, h⟩ := kbind_h h
    dsimp only at h
    refine kw_callV (As := [ki x1, ki 0, ki 2]) C (kdec dc_M_later 12 rfl) 21 rfl cv_M_407 rfl rfl (mt_mm_isSoon l0 hg_34) ⟨rfl, rfl⟩ ⟨Nat.le_of_ble_eq_true rfl, Nat.le_of_ble_eq_true rfl⟩ ⟨Nat.zero_le _, Nat.zero_le _⟩ rfl (Nat.le_of_ble_eq_true rfl) ?_
    change KW x 0 0 Q σ_5 21 [some (kr 0), some (ki x1), some (ki x2), none, none, none, none] [ki r_4]
    refine kw_if_ne C (kdec dc_M_later 13 rfl) 26 24 (by decide) rfl (fun hc21 => ?_) (fun hc21 => ?_)
    · rw [if_neg hc21] at h
      refine kw_iconst C (kdec dc_M_later 16 rfl) 27 rfl rfl ⟨by decide, by decide⟩ ?_
      refine kw_istore_n (L' := [some (kr 0), some (ki x1), some (ki x2), some (ki 0), none, none, none]) C (kdec dc_M_later 17 rfl) rfl 28 rfl (by decide) rfl rfl ?_
      refine kw_aload_n C (kdec dc_M_later 18 rfl) rfl 29 rfl rfl ?_
      obtain ⟨σ_6, hg_33, h⟩ := kbind_h h
      refine kw_callV (As := []) C (kdec dc_M_later 19 rfl) 32 rfl cv_M_349 rfl rfl (mt_mm_tries l0 hg_33) ⟨rfl, rfl⟩ ⟨Nat.le_of_ble_eq_true rfl, Nat.le_of_ble_eq_true rfl⟩ ⟨Nat.zero_le _, Nat.zero_le _⟩ rfl (Nat.le_of_ble_eq_true rfl) ?_
      change KW x 0 0 Q σ_6 32 [some (kr 0), some (ki x1), some (ki x2), some (ki 0), none, none, none] []
      refine kw_iconst C (kdec dc_M_later 20 rfl) 33 rfl rfl ⟨by decide, by decide⟩ ?_
      refine kw_istore (L' := [some (kr 0), some (ki x1), some (ki x2), some (ki 0), some (ki 0), none, none]) C (kdec dc_M_later 21 rfl) 35 rfl (by decide) rfl rfl ?_
      obtain ⟨ex_11, hl_12, h⟩ := kbind_h h
      refine lp_mm_later_l35 C x1 x2 ?_ kFuel σ_6 0 0 hl_12
      · intro σ_13 x3_14 e
        subst ex_11
        try dsimp only at h
        refine kw_iconst C (kdec dc_M_later 35 rfl) 62 rfl rfl ⟨by decide, by decide⟩ ?_
        obtain ⟨x4_15, ex4_15, h⟩ := klet_h h
        refine kw_top ex4_15 ?_
        refine kw_istore (L' := [some (kr 0), none, some (ki x2), some (ki x3_14), some (ki x4_15), none, none]) C (kdec dc_M_later 36 rfl) 64 rfl (by decide) rfl rfl ?_
        refine kw_iconst C (kdec dc_M_later 37 rfl) 65 rfl rfl ⟨by decide, by decide⟩ ?_
        obtain ⟨x5_16, ex5_16, h⟩ := klet_h h
        refine kw_top ex5_16 ?_
        refine kw_istore (L' := [some (kr 0), none, some (ki x2), some (ki x3_14), some (ki x4_15), some (ki x5_16), none]) C (kdec dc_M_later 38 rfl) 67 rfl (by decide) rfl rfl ?_
        refine kw_iconst C (kdec dc_M_later 39 rfl) 68 rfl rfl ⟨by decide, by decide⟩ ?_
        refine kw_istore (L' := [some (kr 0), none, some (ki x2), some (ki x3_14), some (ki x4_15), some (ki x5_16), some (ki 0)]) C (kdec dc_M_later 40 rfl) 70 rfl (by decide) rfl rfl ?_
        obtain ⟨ex_20, hl_21, h⟩ := kbind_h h
        refine lp_mm_later_l70 C σ_13 x2 x3_14 x5_16 ?_ kFuel x4_15 0 hl_21
        · intro x4_22 e
          subst ex_20
          try dsimp only at h
          refine kw_iconst C (kdec dc_M_later 65 rfl) 121 rfl rfl ⟨by decide, by decide⟩ ?_
          refine kw_istore (L' := [some (kr 0), none, some (ki x2), some (ki x3_14), some (ki x4_22), some (ki x5_16), some (ki 0)]) C (kdec dc_M_later 66 rfl) 123 rfl (by decide) rfl rfl ?_
          obtain ⟨ex_26, hl_27, h⟩ := kbind_h h
          refine lp_mm_later_l123 C σ_13 x2 x3_14 x4_22 ?_ kFuel x5_16 0 hl_27
          · intro x5_28 e
            subst ex_26
            try dsimp only at h
            refine kw_iload_n C (kdec dc_M_later 91 rfl) rfl 174 rfl rfl ?_
            refine kw_if_ne C (kdec dc_M_later 92 rfl) 182 177 (by decide) rfl (fun hc174 => ?_) (fun hc174 => ?_)
            · rw [if_neg hc174] at h
              refine kw_iload_n C (kdec dc_M_later 95 rfl) rfl 183 rfl rfl ?_
              refine kw_iconst C (kdec dc_M_later 96 rfl) 184 rfl rfl ⟨by decide, by decide⟩ ?_
              refine kw_icmp_ne C (kdec dc_M_later 97 rfl) 192 187 (by decide) rfl (fun hc184 => ?_) (fun hc184 => ?_)
              · rw [if_neg hc184] at h
                refine kw_iload_n C (kdec dc_M_later 100 rfl) rfl 193 rfl rfl ?_
                refine kw_iconst C (kdec dc_M_later 101 rfl) 194 rfl rfl ⟨by decide, by decide⟩ ?_
                refine kw_icmp_ne C (kdec dc_M_later 102 rfl) 207 197 (by decide) rfl (fun hc194 => ?_) (fun hc194 => ?_)
                · rw [if_neg hc194] at h
                  refine kw_iload_n C (kdec dc_M_later 107 rfl) rfl 208 rfl rfl ?_
                  refine kw_iconst C (kdec dc_M_later 108 rfl) 209 rfl rfl ⟨by decide, by decide⟩ ?_
                  refine kw_icmp_ne C (kdec dc_M_later 109 rfl) 222 212 (by decide) rfl (fun hc209 => ?_) (fun hc209 => ?_)
                  · rw [if_neg hc209] at h
                    refine kw_iload_n C (kdec dc_M_later 114 rfl) rfl 223 rfl rfl ?_
                    obtain rfl := Option.some.inj h
                    exact kw_Q (hR _ _ rfl) (kw_ireturn C (kdec dc_M_later 115 rfl))
                  · rw [if_pos hc209] at h
                    refine kw_aload_n C (kdec dc_M_later 110 rfl) rfl 213 rfl rfl ?_
                    refine kw_sipush (v := 145) C (kdec dc_M_later 111 rfl) 216 rfl (by decide) ⟨by decide, by decide⟩ ?_
                    obtain ⟨r_29, hg_30, h⟩ := kbind_h h
                    refine kw_callV (As := [ki 145]) C (kdec dc_M_later 112 rfl) 219 rfl cv_M_361 rfl rfl (mt_mm_wholeOnes l0 hg_30) ⟨rfl, rfl⟩ ⟨Nat.le_of_ble_eq_true rfl, Nat.le_of_ble_eq_true rfl⟩ ⟨Nat.zero_le _, Nat.zero_le _⟩ rfl (Nat.le_of_ble_eq_true rfl) ?_
                    change KW x 0 0 Q σ_13 219 [some (kr 0), none, some (ki x2), some (ki x3_14), some (ki x4_22), some (ki x5_28), none] [ki r_29]
                    refine kw_goto C (kdec dc_M_later 113 rfl) 223 (by decide) ?_
                    obtain rfl := Option.some.inj h
                    exact kw_Q (hR _ _ rfl) (kw_ireturn C (kdec dc_M_later 115 rfl))
                · rw [if_pos hc194] at h
                  refine kw_aload_n C (kdec dc_M_later 103 rfl) rfl 198 rfl rfl ?_
                  refine kw_sipush (v := 145) C (kdec dc_M_later 104 rfl) 201 rfl (by decide) ⟨by decide, by decide⟩ ?_
                  obtain ⟨r_31, hg_32, h⟩ := kbind_h h
                  refine kw_callV (As := [ki 145]) C (kdec dc_M_later 105 rfl) 204 rfl cv_M_364 rfl rfl (mt_mm_sitting l0 hg_32) ⟨rfl, rfl⟩ ⟨Nat.le_of_ble_eq_true rfl, Nat.le_of_ble_eq_true rfl⟩ ⟨Nat.zero_le _, Nat.zero_le _⟩ rfl (Nat.le_of_ble_eq_true rfl) ?_
                  change KW x 0 0 Q σ_13 204 [some (kr 0), none, some (ki x2), some (ki x3_14), some (ki x4_22), some (ki x5_28), none] [ki r_31]
                  refine kw_goto C (kdec dc_M_later 106 rfl) 223 (by decide) ?_
                  obtain rfl := Option.some.inj h
                  exact kw_Q (hR _ _ rfl) (kw_ireturn C (kdec dc_M_later 115 rfl))
              · rw [if_pos hc184] at h
                refine kw_iload C (kdec dc_M_later 98 rfl) 189 rfl rfl ?_
                refine kw_goto C (kdec dc_M_later 99 rfl) 223 (by decide) ?_
                obtain rfl := Option.some.inj h
                exact kw_Q (hR _ _ rfl) (kw_ireturn C (kdec dc_M_later 115 rfl))
            · rw [if_pos hc174] at h
              refine kw_iload C (kdec dc_M_later 93 rfl) 179 rfl rfl ?_
              refine kw_goto C (kdec dc_M_later 94 rfl) 223 (by decide) ?_
              obtain rfl := Option.some.inj h
              exact kw_Q (hR _ _ rfl) (kw_ireturn C (kdec dc_M_later 115 rfl))
    · rw [if_pos hc21] at h
      refine kw_iconst C (kdec dc_M_later 14 rfl) 25 rfl rfl ⟨by decide, by decide⟩ ?_
      obtain rfl := Option.some.inj h
      exact kw_Q (hR _ _ rfl) (kw_ireturn C (kdec dc_M_later 15 rfl))
theorem mt_mm_later (l0 : Launch) {σ : kM} {x1 : Int} {x2 : Int} {r : Int} {τ : kM} (h : mm_later σ x1 x2 = some (r, τ)) : kMet l0 ky_M_later prog_14_method_86_code 7 (some .int) R0_mm_later kcl yM σ [kr 0, ki x1, ki x2] (some (ki r)) τ := kMet.of' [some (kr 0), some (ki x1), some (ki x2), none, none, none, none] (by decide) (Nat.le_of_ble_eq_true rfl) ⟨rfl, rfl, rfl, trivial⟩ (fun x C => bd_mm_later C σ x1 x2 h (fun r τ e => by cases e; rfl))
def R0_mm_worst : Room := ({ frames := 6, cells := 0, slots := 0, locals := 146 } : Room)
def mm_worst_l35_j61 (σ : kM) (x1 : Int) (x2 : Int) (x4 : Int) (s0 : Int) (s1 : Int) : Option ((kM × Int × Int) ⊕ ((kM × Int))) :=
  klet (w32 (s1 + s0)) fun x3_8 =>
  klet (w32 (x4 + 1)) fun x4_9 =>
  some (Sum.inl (σ, x3_8, x4_9))
set_option maxHeartbeats 4000000 in
theorem bd_mm_worst_l35_j61 {x : kX} {l0 : Launch} {Q : State → Prop} (C : kCx x prog_14_method_87_code "PoetFinesModel" (some .int) kcl yM 5 l0 R0_mm_worst) (σ : kM) (x1 : Int) (x2 : Int) (x4 : Int) (s0 : Int) (s1 : Int) {out : (kM × Int × Int) ⊕ ((kM × Int))} (h : mm_worst_l35_j61 σ x1 x2 x4 s0 s1 = some out) (hC : ∀ (σ' : kM) (x3' : Int) (x4' : Int), out = Sum.inl (σ', x3', x4') → KW x 0 0 Q σ' 35 [some (kr 0), some (ki x1), some (ki x2), some (ki x3'), some (ki x4')] []) (hX69 : ∀ (σ' : kM) (x3' : Int), out = Sum.inr (σ', x3') → KW x 0 0 Q σ' 69 [some (kr 0), none, some (ki x2), some (ki x3'), none] []) : KW x 0 0 Q σ 61 [some (kr 0), some (ki x1), some (ki x2), none, some (ki x4)] [ki s0, ki s1] := by
  unfold mm_worst_l35_j61 at h
  refine kw_iadd C (kdec dc_M_worst 35 rfl) 62 rfl ?_
  obtain ⟨x3_8, ex3_8, h⟩ := klet_h h
  refine kw_top ex3_8 ?_
  refine kw_istore_n (L' := [some (kr 0), some (ki x1), some (ki x2), some (ki x3_8), some (ki x4)]) C (kdec dc_M_worst 36 rfl) rfl 63 rfl (by decide) rfl rfl ?_
  obtain ⟨x4_9, ex4_9, h⟩ := klet_h h
  refine kw_iinc (L' := [some (kr 0), some (ki x1), some (ki x2), some (ki x3_8), some (ki x4_9)]) C (kdec dc_M_worst 37 rfl) 66 rfl rfl (by decide) rfl (by rw [ex4_9]; rfl) ?_
  refine kw_goto C (kdec dc_M_worst 38 rfl) 35 (by decide) ?_
  obtain rfl := Option.some.inj h
  exact (hC _ _ _ rfl)
def mm_worst_l35 (σ : kM) (x1 : Int) (x2 : Int) (x3 : Int) (x4 : Int) : Option ((kM × Int × Int) ⊕ ((kM × Int))) :=
  if x1 ≤ x4 then
    some (Sum.inr (σ, x3))
  else
    (mm_yearGoes σ 145).bind fun σ_7 =>
    if (σ_7 0 50) = 0 then
      mm_worst_l35_j61 σ_7 x1 x2 x4 1 x3
    else
      mm_worst_l35_j61 σ_7 x1 x2 x4 0 x3
set_option maxHeartbeats 4000000 in
theorem bd_mm_worst_l35 {x : kX} {l0 : Launch} {Q : State → Prop} (C : kCx x prog_14_method_87_code "PoetFinesModel" (some .int) kcl yM 5 l0 R0_mm_worst) (σ : kM) (x1 : Int) (x2 : Int) (x3 : Int) (x4 : Int) {out : (kM × Int × Int) ⊕ ((kM × Int))} (h : mm_worst_l35 σ x1 x2 x3 x4 = some out) (hC : ∀ (σ' : kM) (x3' : Int) (x4' : Int), out = Sum.inl (σ', x3', x4') → KW x 0 0 Q σ' 35 [some (kr 0), some (ki x1), some (ki x2), some (ki x3'), some (ki x4')] []) (hX69 : ∀ (σ' : kM) (x3' : Int), out = Sum.inr (σ', x3') → KW x 0 0 Q σ' 69 [some (kr 0), none, some (ki x2), some (ki x3'), none] []) : KW x 0 0 Q σ 35 [some (kr 0), some (ki x1), some (ki x2), some (ki x3), some (ki x4)] [] := by
  unfold mm_worst_l35 at h
  refine kw_iload C (kdec dc_M_worst 22 rfl) 37 rfl rfl ?_
  refine kw_iload_n C (kdec dc_M_worst 23 rfl) rfl 38 rfl rfl ?_
  refine kw_icmp_ge C (kdec dc_M_worst 24 rfl) 69 41 (by decide) rfl (fun hc38 => ?_) (fun hc38 => ?_)
  · rw [if_pos hc38] at h
    obtain rfl := Option.some.inj h
    exact kw_sub (L' := [some (kr 0), none, some (ki x2), some (ki x3), none]) ⟨rfl, rfl, rfl, trivial⟩ (hX69 _ _ rfl)
  · rw [if_neg hc38] at h
    refine kw_aload_n C (kdec dc_M_worst 25 rfl) rfl 42 rfl rfl ?_
    refine kw_sipush (v := 145) C (kdec dc_M_worst 26 rfl) 45 rfl (by decide) ⟨by decide, by decide⟩ ?_
    obtain ⟨σ_7, hg_10, h⟩ := kbind_h h
    refine kw_callV (As := [ki 145]) C (kdec dc_M_worst 27 rfl) 48 rfl cv_M_352 rfl rfl (mt_mm_yearGoes l0 hg_10) ⟨rfl, rfl⟩ ⟨Nat.le_of_ble_eq_true rfl, Nat.le_of_ble_eq_true rfl⟩ ⟨Nat.zero_le _, Nat.zero_le _⟩ rfl (Nat.le_of_ble_eq_true rfl) ?_
    change KW x 0 0 Q σ_7 48 [some (kr 0), some (ki x1), some (ki x2), some (ki x3), some (ki x4)] []
    refine kw_iload_n C (kdec dc_M_worst 28 rfl) rfl 49 rfl rfl ?_
    refine kw_aload_n C (kdec dc_M_worst 29 rfl) rfl 50 rfl rfl ?_
    refine kw_getI C (kdec dc_M_worst 30 rfl) 53 rfl fd_M_M_340_0 ?_
    refine kw_if_ne C (kdec dc_M_worst 31 rfl) 60 56 (by decide) rfl (fun hc53 => ?_) (fun hc53 => ?_)
    · rw [if_neg hc53] at h
      refine kw_iconst C (kdec dc_M_worst 34 rfl) 61 rfl rfl ⟨by decide, by decide⟩ ?_
      exact kw_sub (L' := [some (kr 0), some (ki x1), some (ki x2), none, some (ki x4)]) ⟨rfl, rfl, rfl, rfl, trivial⟩ (bd_mm_worst_l35_j61 C σ_7 x1 x2 x4 0 x3 h hC hX69)
    · rw [if_pos hc53] at h
      refine kw_iconst C (kdec dc_M_worst 32 rfl) 57 rfl rfl ⟨by decide, by decide⟩ ?_
      refine kw_goto C (kdec dc_M_worst 33 rfl) 61 (by decide) ?_
      exact kw_sub (L' := [some (kr 0), some (ki x1), some (ki x2), none, some (ki x4)]) ⟨rfl, rfl, rfl, rfl, trivial⟩ (bd_mm_worst_l35_j61 C σ_7 x1 x2 x4 1 x3 h hC hX69)
theorem lp_mm_worst_l35 {x : kX} {l0 : Launch} {Q : State → Prop} (C : kCx x prog_14_method_87_code "PoetFinesModel" (some .int) kcl yM 5 l0 R0_mm_worst) (x1 : Int) (x2 : Int) {ex : (kM × Int)} (hX69 : ∀ (σ' : kM) (x3' : Int), ex = (σ', x3') → KW x 0 0 Q σ' 69 [some (kr 0), none, some (ki x2), some (ki x3'), none] []) (n : Nat) (σ : kM) (x3 : Int) (x4 : Int) (h : kloop (fun st => mm_worst_l35 st.1 x1 x2 st.2.1 st.2.2) n (σ, x3, x4) = some ex) : KW x 0 0 Q σ 35 [some (kr 0), some (ki x1), some (ki x2), some (ki x3), some (ki x4)] [] :=
  kloop_ind (P := (fun st : kM × Int × Int => KW x 0 0 Q st.1 35 [some (kr 0), some (ki x1), some (ki x2), some (ki (st.2.1)), some (ki (st.2.2))] [])) (fun st out hb hc hx => bd_mm_worst_l35 C st.1 x1 x2 st.2.1 st.2.2 hb (fun a0 a1 a2 e => hc _ e) (fun a0 a1 e => hX69 _ _ ((hx _ e).symm))) n (σ, x3, x4) h
def mm_worst (σ : kM) (x1 : Int) (x2 : Int) : Option (Int × kM) :=
  klet (kst σ 0 (kup (σ 0) 0 0)) fun σ_1 =>
  (mm_isWhat σ_1 x2 1).bind fun (r_2, σ_3) =>
  if r_2 = 0 then
    some ((0, σ_3))
  else
    (mm_isSoon σ_3 x1 1 2).bind fun (r_4, σ_5) =>
    if r_4 = 0 then
      some ((0, σ_5))
    else
      (mm_tries σ_5).bind fun σ_6 =>
      (kloop (fun st => mm_worst_l35 st.1 x1 x2 st.2.1 st.2.2) kFuel (σ_6, 0, 0)).bind fun (σ_13, x3_14) =>
      if x2 = 0 then
        some ((σ_13 0 45, σ_13))
      else
        some ((x3_14, σ_13))
set_option maxHeartbeats 4000000 in
theorem bd_mm_worst {x : kX} {l0 : Launch} {Q : State → Prop} (C : kCx x prog_14_method_87_code "PoetFinesModel" (some .int) kcl yM 5 l0 R0_mm_worst) (σ : kM) (x1 : Int) (x2 : Int) {out : Int × kM} (h : mm_worst σ x1 x2 = some out) (hR : ∀ (r : Int) (τ : kM), out = (r, τ) → Q = kQ x (some (ki r)) τ 0 0) : KW x 0 0 Q σ 0 [some (kr 0), some (ki x1), some (ki x2), none, none] [] := by
  unfold mm_worst at h
  refine kw_aload_n C (kdec dc_M_worst 0 rfl) rfl 1 rfl rfl ?_
  refine kw_iconst C (kdec dc_M_worst 1 rfl) 2 rfl rfl ⟨by decide, by decide⟩ ?_
  obtain ⟨σ_1, eσ_1, h⟩ := klet_h h
  refine kw_putI C (kdec dc_M_worst 2 rfl) 5 rfl fp_M_M_99_0 ?_
  refine kw_sig eσ_1 ?_
  refine kw_aload_n C (kdec dc_M_worst 3 rfl) rfl 6 rfl rfl ?_
  refine kw_iload_n C (kdec dc_M_worst 4 rfl) rfl 7 rfl rfl ?_
  refine kw_iconst C (kdec dc_M_worst 5 rfl) 8 rfl rfl ⟨by decide, by decide⟩ ?_
  obtain ⟨⟨r_2, σ_3⟩, hg_17, h⟩ := kbind_h h
  dsimp only at h
  refine kw_callV (As := [ki x2, ki 1]) C (kdec dc_M_worst 6 rfl) 11 rfl cv_M_376 rfl rfl (mt_mm_isWhat l0 hg_17) ⟨rfl, rfl⟩ ⟨Nat.le_of_ble_eq_true rfl, Nat.le_of_ble_eq_true rfl⟩ ⟨Nat.zero_le _, Nat.zero_le _⟩ rfl (Nat.le_of_ble_eq_true rfl) ?_
  change KW x 0 0 Q σ_3 11 [some (kr 0), some (ki x1), some (ki x2), none, none] [ki r_2]
  refine kw_if_eq C (kdec dc_M_worst 7 rfl) 24 14 (by decide) rfl (fun hc11 => ?_) (fun hc11 => ?_)
  · rw [if_pos hc11] at h
    refine kw_iconst C (kdec dc_M_worst 14 rfl) 25 rfl rfl ⟨by decide, by decide⟩ ?_
    obtain rfl := Option.some.inj h
    exact kw_Q (hR _ _ rfl) (kw_ireturn C (kdec dc_M_worst 15 rfl))
  · rw [if_neg hc11] at h
    refine kw_aload_n C (kdec dc_M_worst 8 rfl) rfl 15 rfl rfl ?_
    refine kw_iload_n C (kdec dc_M_worst 9 rfl) rfl 16 rfl rfl ?_
    refine kw_iconst C (kdec dc_M_worst 10 rfl) 17 rfl rfl ⟨by decide, by decide⟩ ?_
    refine kw_iconst C (kdec dc_M_worst 11 rfl) 18 rfl rfl ⟨by decide, by decide⟩ ?_
    obtain ⟨⟨r_4, σ_5⟩, hg_16, h⟩ := kbind_h h
    dsimp only at h
    refine kw_callV (As := [ki x1, ki 1, ki 2]) C (kdec dc_M_worst 12 rfl) 21 rfl cv_M_407 rfl rfl (mt_mm_isSoon l0 hg_16) ⟨rfl, rfl⟩ ⟨Nat.le_of_ble_eq_true rfl, Nat.le_of_ble_eq_true rfl⟩ ⟨Nat.zero_le _, Nat.zero_le _⟩ rfl (Nat.le_of_ble_eq_true rfl) ?_
    change KW x 0 0 Q σ_5 21 [some (kr 0), some (ki x1), some (ki x2), none, none] [ki r_4]
    refine kw_if_ne C (kdec dc_M_worst 13 rfl) 26 24 (by decide) rfl (fun hc21 => ?_) (fun hc21 => ?_)
    · rw [if_neg hc21] at h
      refine kw_iconst C (kdec dc_M_worst 16 rfl) 27 rfl rfl ⟨by decide, by decide⟩ ?_
      refine kw_istore_n (L' := [some (kr 0), some (ki x1), some (ki x2), some (ki 0), none]) C (kdec dc_M_worst 17 rfl) rfl 28 rfl (by decide) rfl rfl ?_
      refine kw_aload_n C (kdec dc_M_worst 18 rfl) rfl 29 rfl rfl ?_
      obtain ⟨σ_6, hg_15, h⟩ := kbind_h h
      refine kw_callV (As := []) C (kdec dc_M_worst 19 rfl) 32 rfl cv_M_349 rfl rfl (mt_mm_tries l0 hg_15) ⟨rfl, rfl⟩ ⟨Nat.le_of_ble_eq_true rfl, Nat.le_of_ble_eq_true rfl⟩ ⟨Nat.zero_le _, Nat.zero_le _⟩ rfl (Nat.le_of_ble_eq_true rfl) ?_
      change KW x 0 0 Q σ_6 32 [some (kr 0), some (ki x1), some (ki x2), some (ki 0), none] []
      refine kw_iconst C (kdec dc_M_worst 20 rfl) 33 rfl rfl ⟨by decide, by decide⟩ ?_
      refine kw_istore (L' := [some (kr 0), some (ki x1), some (ki x2), some (ki 0), some (ki 0)]) C (kdec dc_M_worst 21 rfl) 35 rfl (by decide) rfl rfl ?_
      obtain ⟨ex_11, hl_12, h⟩ := kbind_h h
      refine lp_mm_worst_l35 C x1 x2 ?_ kFuel σ_6 0 0 hl_12
      · intro σ_13 x3_14 e
        subst ex_11
        try dsimp only at h
        refine kw_iload_n C (kdec dc_M_worst 39 rfl) rfl 70 rfl rfl ?_
        refine kw_if_ne C (kdec dc_M_worst 40 rfl) 80 73 (by decide) rfl (fun hc70 => ?_) (fun hc70 => ?_)
        · rw [if_neg hc70] at h
          refine kw_iload_n C (kdec dc_M_worst 44 rfl) rfl 81 rfl rfl ?_
          obtain rfl := Option.some.inj h
          exact kw_Q (hR _ _ rfl) (kw_ireturn C (kdec dc_M_worst 45 rfl))
        · rw [if_pos hc70] at h
          refine kw_aload_n C (kdec dc_M_worst 41 rfl) rfl 74 rfl rfl ?_
          refine kw_getI C (kdec dc_M_worst 42 rfl) 77 rfl fd_M_M_293_0 ?_
          refine kw_goto C (kdec dc_M_worst 43 rfl) 81 (by decide) ?_
          obtain rfl := Option.some.inj h
          exact kw_Q (hR _ _ rfl) (kw_ireturn C (kdec dc_M_worst 45 rfl))
    · rw [if_pos hc21] at h
      refine kw_iconst C (kdec dc_M_worst 14 rfl) 25 rfl rfl ⟨by decide, by decide⟩ ?_
      obtain rfl := Option.some.inj h
      exact kw_Q (hR _ _ rfl) (kw_ireturn C (kdec dc_M_worst 15 rfl))
theorem mt_mm_worst (l0 : Launch) {σ : kM} {x1 : Int} {x2 : Int} {r : Int} {τ : kM} (h : mm_worst σ x1 x2 = some (r, τ)) : kMet l0 ky_M_worst prog_14_method_87_code 5 (some .int) R0_mm_worst kcl yM σ [kr 0, ki x1, ki x2] (some (ki r)) τ := kMet.of' [some (kr 0), some (ki x1), some (ki x2), none, none] (by decide) (Nat.le_of_ble_eq_true rfl) ⟨rfl, rfl, rfl, trivial⟩ (fun x C => bd_mm_worst C σ x1 x2 h (fun r τ e => by cases e; rfl))
def R0_mm_jailed : Room := ({ frames := 7, cells := 0, slots := 0, locals := 168 } : Room)
def mm_jailed (σ : kM) (x1 : Int) (x2 : Int) : Option (Int × kM) :=
  klet (kst σ 0 (kup (σ 0) 0 0)) fun σ_1 =>
  (mm_isPoet σ_1 x1).bind fun (r_2, σ_3) =>
  if r_2 = 0 then
    some ((0, σ_3))
  else
    (mm_isSoon σ_3 x2 0 2).bind fun (r_4, σ_5) =>
    if r_4 = 0 then
      some ((0, σ_5))
    else
      (mm_goesTo σ_5 x2).bind fun σ_6 =>
      kchk (0 ≤ x1 ∧ x1 < 4) <|
      some ((σ_6 13 x1.toNat, σ_6))
set_option maxHeartbeats 4000000 in
theorem bd_mm_jailed {x : kX} {l0 : Launch} {Q : State → Prop} (C : kCx x prog_14_method_88_code "PoetFinesModel" (some .int) kcl yM 3 l0 R0_mm_jailed) (σ : kM) (x1 : Int) (x2 : Int) {out : Int × kM} (h : mm_jailed σ x1 x2 = some out) (hR : ∀ (r : Int) (τ : kM), out = (r, τ) → Q = kQ x (some (ki r)) τ 0 0) : KW x 0 0 Q σ 0 [some (kr 0), some (ki x1), some (ki x2)] [] := by
  unfold mm_jailed at h
  refine kw_aload_n C (kdec dc_M_jailed 0 rfl) rfl 1 rfl rfl ?_
  refine kw_iconst C (kdec dc_M_jailed 1 rfl) 2 rfl rfl ⟨by decide, by decide⟩ ?_
  obtain ⟨σ_1, eσ_1, h⟩ := klet_h h
  refine kw_putI C (kdec dc_M_jailed 2 rfl) 5 rfl fp_M_M_99_0 ?_
  refine kw_sig eσ_1 ?_
  refine kw_aload_n C (kdec dc_M_jailed 3 rfl) rfl 6 rfl rfl ?_
  refine kw_iload_n C (kdec dc_M_jailed 4 rfl) rfl 7 rfl rfl ?_
  obtain ⟨⟨r_2, σ_3⟩, hg_10, h⟩ := kbind_h h
  dsimp only at h
  refine kw_callV (As := [ki x1]) C (kdec dc_M_jailed 5 rfl) 10 rfl cv_M_367 rfl rfl (mt_mm_isPoet l0 hg_10) ⟨rfl, rfl⟩ ⟨Nat.le_of_ble_eq_true rfl, Nat.le_of_ble_eq_true rfl⟩ ⟨Nat.zero_le _, Nat.zero_le _⟩ rfl (Nat.le_of_ble_eq_true rfl) ?_
  change KW x 0 0 Q σ_3 10 [some (kr 0), some (ki x1), some (ki x2)] [ki r_2]
  refine kw_if_eq C (kdec dc_M_jailed 6 rfl) 23 13 (by decide) rfl (fun hc10 => ?_) (fun hc10 => ?_)
  · rw [if_pos hc10] at h
    refine kw_iconst C (kdec dc_M_jailed 13 rfl) 24 rfl rfl ⟨by decide, by decide⟩ ?_
    obtain rfl := Option.some.inj h
    exact kw_Q (hR _ _ rfl) (kw_ireturn C (kdec dc_M_jailed 14 rfl))
  · rw [if_neg hc10] at h
    refine kw_aload_n C (kdec dc_M_jailed 7 rfl) rfl 14 rfl rfl ?_
    refine kw_iload_n C (kdec dc_M_jailed 8 rfl) rfl 15 rfl rfl ?_
    refine kw_iconst C (kdec dc_M_jailed 9 rfl) 16 rfl rfl ⟨by decide, by decide⟩ ?_
    refine kw_iconst C (kdec dc_M_jailed 10 rfl) 17 rfl rfl ⟨by decide, by decide⟩ ?_
    obtain ⟨⟨r_4, σ_5⟩, hg_9, h⟩ := kbind_h h
    dsimp only at h
    refine kw_callV (As := [ki x2, ki 0, ki 2]) C (kdec dc_M_jailed 11 rfl) 20 rfl cv_M_407 rfl rfl (mt_mm_isSoon l0 hg_9) ⟨rfl, rfl⟩ ⟨Nat.le_of_ble_eq_true rfl, Nat.le_of_ble_eq_true rfl⟩ ⟨Nat.zero_le _, Nat.zero_le _⟩ rfl (Nat.le_of_ble_eq_true rfl) ?_
    change KW x 0 0 Q σ_5 20 [some (kr 0), some (ki x1), some (ki x2)] [ki r_4]
    refine kw_if_ne C (kdec dc_M_jailed 12 rfl) 25 23 (by decide) rfl (fun hc20 => ?_) (fun hc20 => ?_)
    · rw [if_neg hc20] at h
      refine kw_aload_n C (kdec dc_M_jailed 15 rfl) rfl 26 rfl rfl ?_
      refine kw_iload_n C (kdec dc_M_jailed 16 rfl) rfl 27 rfl rfl ?_
      obtain ⟨σ_6, hg_8, h⟩ := kbind_h h
      refine kw_callV (As := [ki x2]) C (kdec dc_M_jailed 17 rfl) 30 rfl cv_M_410 rfl rfl (mt_mm_goesTo l0 hg_8) ⟨rfl, rfl⟩ ⟨Nat.le_of_ble_eq_true rfl, Nat.le_of_ble_eq_true rfl⟩ ⟨Nat.zero_le _, Nat.zero_le _⟩ rfl (Nat.le_of_ble_eq_true rfl) ?_
      change KW x 0 0 Q σ_6 30 [some (kr 0), some (ki x1), some (ki x2)] []
      refine kw_aload_n C (kdec dc_M_jailed 18 rfl) rfl 31 rfl rfl ?_
      refine kw_getR C (kdec dc_M_jailed 19 rfl) 34 rfl fd_M_M_63_0 ?_
      refine kw_iload_n C (kdec dc_M_jailed 20 rfl) rfl 35 rfl rfl ?_
      obtain ⟨hc_7, h⟩ := kchk_h h
      refine kw_iald C (kdec dc_M_jailed 21 rfl) 36 rfl rfl hc_7.1 hc_7.2 ?_
      obtain rfl := Option.some.inj h
      exact kw_Q (hR _ _ rfl) (kw_ireturn C (kdec dc_M_jailed 22 rfl))
    · rw [if_pos hc20] at h
      refine kw_iconst C (kdec dc_M_jailed 13 rfl) 24 rfl rfl ⟨by decide, by decide⟩ ?_
      obtain rfl := Option.some.inj h
      exact kw_Q (hR _ _ rfl) (kw_ireturn C (kdec dc_M_jailed 14 rfl))
theorem mt_mm_jailed (l0 : Launch) {σ : kM} {x1 : Int} {x2 : Int} {r : Int} {τ : kM} (h : mm_jailed σ x1 x2 = some (r, τ)) : kMet l0 ky_M_jailed prog_14_method_88_code 3 (some .int) R0_mm_jailed kcl yM σ [kr 0, ki x1, ki x2] (some (ki r)) τ := kMet.of' [some (kr 0), some (ki x1), some (ki x2)] (by decide) (Nat.le_of_ble_eq_true rfl) ⟨rfl, rfl, rfl, trivial⟩ (fun x C => bd_mm_jailed C σ x1 x2 h (fun r τ e => by cases e; rfl))
def R0_mm_into : Room := ({ frames := 7, cells := 0, slots := 0, locals := 168 } : Room)
def mm_into (σ : kM) (x1 : Int) (x2 : Int) (x3 : Int) : Option (Int × kM) :=
  klet (kst σ 0 (kup (σ 0) 0 0)) fun σ_1 =>
  (mm_isPerson σ_1 x1).bind fun (r_2, σ_3) =>
  if r_2 = 0 then
    some ((0, σ_3))
  else
    (mm_isPoet σ_3 x2).bind fun (r_4, σ_5) =>
    if r_4 = 0 then
      some ((0, σ_5))
    else
      (mm_isSoon σ_5 x3 0 2).bind fun (r_6, σ_7) =>
      if r_6 = 0 then
        some ((0, σ_7))
      else
        (mm_goesTo σ_7 x3).bind fun σ_8 =>
        kchk (0 ≤ (w32 ((w32 (8 * x2)) + x1)) ∧ (w32 ((w32 (8 * x2)) + x1)) < 32) <|
        some ((σ_8 14 (w32 ((w32 (8 * x2)) + x1)).toNat, σ_8))
set_option maxHeartbeats 4000000 in
theorem bd_mm_into {x : kX} {l0 : Launch} {Q : State → Prop} (C : kCx x prog_14_method_89_code "PoetFinesModel" (some .int) kcl yM 4 l0 R0_mm_into) (σ : kM) (x1 : Int) (x2 : Int) (x3 : Int) {out : Int × kM} (h : mm_into σ x1 x2 x3 = some out) (hR : ∀ (r : Int) (τ : kM), out = (r, τ) → Q = kQ x (some (ki r)) τ 0 0) : KW x 0 0 Q σ 0 [some (kr 0), some (ki x1), some (ki x2), some (ki x3)] [] := by
  unfold mm_into at h
  refine kw_aload_n C (kdec dc_M_into 0 rfl) rfl 1 rfl rfl ?_
  refine kw_iconst C (kdec dc_M_into 1 rfl) 2 rfl rfl ⟨by decide, by decide⟩ ?_
  obtain ⟨σ_1, eσ_1, h⟩ := klet_h h
  refine kw_putI C (kdec dc_M_into 2 rfl) 5 rfl fp_M_M_99_0 ?_
  refine kw_sig eσ_1 ?_
  refine kw_aload_n C (kdec dc_M_into 3 rfl) rfl 6 rfl rfl ?_
  refine kw_iload_n C (kdec dc_M_into 4 rfl) rfl 7 rfl rfl ?_
  obtain ⟨⟨r_2, σ_3⟩, hg_13, h⟩ := kbind_h h
  dsimp only at h
  refine kw_callV (As := [ki x1]) C (kdec dc_M_into 5 rfl) 10 rfl cv_M_370 rfl rfl (mt_mm_isPerson l0 hg_13) ⟨rfl, rfl⟩ ⟨Nat.le_of_ble_eq_true rfl, Nat.le_of_ble_eq_true rfl⟩ ⟨Nat.zero_le _, Nat.zero_le _⟩ rfl (Nat.le_of_ble_eq_true rfl) ?_
  change KW x 0 0 Q σ_3 10 [some (kr 0), some (ki x1), some (ki x2), some (ki x3)] [ki r_2]
  refine kw_if_eq C (kdec dc_M_into 6 rfl) 31 13 (by decide) rfl (fun hc10 => ?_) (fun hc10 => ?_)
  · rw [if_pos hc10] at h
    refine kw_iconst C (kdec dc_M_into 17 rfl) 32 rfl rfl ⟨by decide, by decide⟩ ?_
    obtain rfl := Option.some.inj h
    exact kw_Q (hR _ _ rfl) (kw_ireturn C (kdec dc_M_into 18 rfl))
  · rw [if_neg hc10] at h
    refine kw_aload_n C (kdec dc_M_into 7 rfl) rfl 14 rfl rfl ?_
    refine kw_iload_n C (kdec dc_M_into 8 rfl) rfl 15 rfl rfl ?_
    obtain ⟨⟨r_4, σ_5⟩, hg_12, h⟩ := kbind_h h
    dsimp only at h
    refine kw_callV (As := [ki x2]) C (kdec dc_M_into 9 rfl) 18 rfl cv_M_367 rfl rfl (mt_mm_isPoet l0 hg_12) ⟨rfl, rfl⟩ ⟨Nat.le_of_ble_eq_true rfl, Nat.le_of_ble_eq_true rfl⟩ ⟨Nat.zero_le _, Nat.zero_le _⟩ rfl (Nat.le_of_ble_eq_true rfl) ?_
    change KW x 0 0 Q σ_5 18 [some (kr 0), some (ki x1), some (ki x2), some (ki x3)] [ki r_4]
    refine kw_if_eq C (kdec dc_M_into 10 rfl) 31 21 (by decide) rfl (fun hc18 => ?_) (fun hc18 => ?_)
    · rw [if_pos hc18] at h
      refine kw_iconst C (kdec dc_M_into 17 rfl) 32 rfl rfl ⟨by decide, by decide⟩ ?_
      obtain rfl := Option.some.inj h
      exact kw_Q (hR _ _ rfl) (kw_ireturn C (kdec dc_M_into 18 rfl))
    · rw [if_neg hc18] at h
      refine kw_aload_n C (kdec dc_M_into 11 rfl) rfl 22 rfl rfl ?_
      refine kw_iload_n C (kdec dc_M_into 12 rfl) rfl 23 rfl rfl ?_
      refine kw_iconst C (kdec dc_M_into 13 rfl) 24 rfl rfl ⟨by decide, by decide⟩ ?_
      refine kw_iconst C (kdec dc_M_into 14 rfl) 25 rfl rfl ⟨by decide, by decide⟩ ?_
      obtain ⟨⟨r_6, σ_7⟩, hg_11, h⟩ := kbind_h h
      dsimp only at h
      refine kw_callV (As := [ki x3, ki 0, ki 2]) C (kdec dc_M_into 15 rfl) 28 rfl cv_M_407 rfl rfl (mt_mm_isSoon l0 hg_11) ⟨rfl, rfl⟩ ⟨Nat.le_of_ble_eq_true rfl, Nat.le_of_ble_eq_true rfl⟩ ⟨Nat.zero_le _, Nat.zero_le _⟩ rfl (Nat.le_of_ble_eq_true rfl) ?_
      change KW x 0 0 Q σ_7 28 [some (kr 0), some (ki x1), some (ki x2), some (ki x3)] [ki r_6]
      refine kw_if_ne C (kdec dc_M_into 16 rfl) 33 31 (by decide) rfl (fun hc28 => ?_) (fun hc28 => ?_)
      · rw [if_neg hc28] at h
        refine kw_aload_n C (kdec dc_M_into 19 rfl) rfl 34 rfl rfl ?_
        refine kw_iload_n C (kdec dc_M_into 20 rfl) rfl 35 rfl rfl ?_
        obtain ⟨σ_8, hg_10, h⟩ := kbind_h h
        refine kw_callV (As := [ki x3]) C (kdec dc_M_into 21 rfl) 38 rfl cv_M_410 rfl rfl (mt_mm_goesTo l0 hg_10) ⟨rfl, rfl⟩ ⟨Nat.le_of_ble_eq_true rfl, Nat.le_of_ble_eq_true rfl⟩ ⟨Nat.zero_le _, Nat.zero_le _⟩ rfl (Nat.le_of_ble_eq_true rfl) ?_
        change KW x 0 0 Q σ_8 38 [some (kr 0), some (ki x1), some (ki x2), some (ki x3)] []
        refine kw_aload_n C (kdec dc_M_into 22 rfl) rfl 39 rfl rfl ?_
        refine kw_getR C (kdec dc_M_into 23 rfl) 42 rfl fd_M_M_66_0 ?_
        refine kw_bipush (v := 8) C (kdec dc_M_into 24 rfl) 44 rfl (by decide) ⟨by decide, by decide⟩ ?_
        refine kw_iload_n C (kdec dc_M_into 25 rfl) rfl 45 rfl rfl ?_
        refine kw_imul C (kdec dc_M_into 26 rfl) 46 rfl ?_
        refine kw_iload_n C (kdec dc_M_into 27 rfl) rfl 47 rfl rfl ?_
        refine kw_iadd C (kdec dc_M_into 28 rfl) 48 rfl ?_
        obtain ⟨hc_9, h⟩ := kchk_h h
        refine kw_iald C (kdec dc_M_into 29 rfl) 49 rfl rfl hc_9.1 hc_9.2 ?_
        obtain rfl := Option.some.inj h
        exact kw_Q (hR _ _ rfl) (kw_ireturn C (kdec dc_M_into 30 rfl))
      · rw [if_pos hc28] at h
        refine kw_iconst C (kdec dc_M_into 17 rfl) 32 rfl rfl ⟨by decide, by decide⟩ ?_
        obtain rfl := Option.some.inj h
        exact kw_Q (hR _ _ rfl) (kw_ireturn C (kdec dc_M_into 18 rfl))
theorem mt_mm_into (l0 : Launch) {σ : kM} {x1 : Int} {x2 : Int} {x3 : Int} {r : Int} {τ : kM} (h : mm_into σ x1 x2 x3 = some (r, τ)) : kMet l0 ky_M_into prog_14_method_89_code 4 (some .int) R0_mm_into kcl yM σ [kr 0, ki x1, ki x2, ki x3] (some (ki r)) τ := kMet.of' [some (kr 0), some (ki x1), some (ki x2), some (ki x3)] (by decide) (Nat.le_of_ble_eq_true rfl) ⟨rfl, rfl, rfl, rfl, trivial⟩ (fun x C => bd_mm_into C σ x1 x2 x3 h (fun r τ e => by cases e; rfl))
def R0_mm_laureate : Room := ({ frames := 7, cells := 0, slots := 0, locals := 168 } : Room)
def mm_laureate_l26_j56 (σ : kM) (x2 : Int) (x3 : Int) : Option ((Int × Int) ⊕ ((Int))) :=
  klet (w32 (x3 + 1)) fun x3_6 =>
  some (Sum.inl (x2, x3_6))
set_option maxHeartbeats 4000000 in
theorem bd_mm_laureate_l26_j56 {x : kX} {l0 : Launch} {Q : State → Prop} (C : kCx x prog_14_method_90_code "PoetFinesModel" (some .int) kcl yM 4 l0 R0_mm_laureate) (σ : kM) (x2 : Int) (x3 : Int) {out : (Int × Int) ⊕ ((Int))} (h : mm_laureate_l26_j56 σ x2 x3 = some out) (hC : ∀ (x2' : Int) (x3' : Int), out = Sum.inl (x2', x3') → KW x 0 0 Q σ 26 [some (kr 0), none, some (ki x2'), some (ki x3')] []) (hX62 : ∀ (x2' : Int), out = Sum.inr x2' → KW x 0 0 Q σ 62 [none, none, some (ki x2'), none] []) : KW x 0 0 Q σ 56 [some (kr 0), none, some (ki x2), some (ki x3)] [] := by
  unfold mm_laureate_l26_j56 at h
  obtain ⟨x3_6, ex3_6, h⟩ := klet_h h
  refine kw_iinc (L' := [some (kr 0), none, some (ki x2), some (ki x3_6)]) C (kdec dc_M_laureate 36 rfl) 59 rfl rfl (by decide) rfl (by rw [ex3_6]; rfl) ?_
  refine kw_goto C (kdec dc_M_laureate 37 rfl) 26 (by decide) ?_
  obtain rfl := Option.some.inj h
  exact (hC _ _ rfl)
def mm_laureate_l26_j54 (σ : kM) (x3 : Int) : Option ((Int × Int) ⊕ ((Int))) :=
  mm_laureate_l26_j56 σ x3 x3
set_option maxHeartbeats 4000000 in
theorem bd_mm_laureate_l26_j54 {x : kX} {l0 : Launch} {Q : State → Prop} (C : kCx x prog_14_method_90_code "PoetFinesModel" (some .int) kcl yM 4 l0 R0_mm_laureate) (σ : kM) (x3 : Int) {out : (Int × Int) ⊕ ((Int))} (h : mm_laureate_l26_j54 σ x3 = some out) (hC : ∀ (x2' : Int) (x3' : Int), out = Sum.inl (x2', x3') → KW x 0 0 Q σ 26 [some (kr 0), none, some (ki x2'), some (ki x3')] []) (hX62 : ∀ (x2' : Int), out = Sum.inr x2' → KW x 0 0 Q σ 62 [none, none, some (ki x2'), none] []) : KW x 0 0 Q σ 54 [some (kr 0), none, none, some (ki x3)] [] := by
  unfold mm_laureate_l26_j54 at h
  refine kw_iload_n C (kdec dc_M_laureate 34 rfl) rfl 55 rfl rfl ?_
  refine kw_istore_n (L' := [some (kr 0), none, some (ki x3), some (ki x3)]) C (kdec dc_M_laureate 35 rfl) rfl 56 rfl (by decide) rfl rfl ?_
  exact bd_mm_laureate_l26_j56 C σ x3 x3 h hC hX62
def mm_laureate_l26 (σ : kM) (x2 : Int) (x3 : Int) : Option ((Int × Int) ⊕ ((Int))) :=
  if (σ 0 3) ≤ x3 then
    some (Sum.inr x2)
  else
    if x2 = ((-1)) then
      mm_laureate_l26_j54 σ x3
    else
      kchk (0 ≤ x3 ∧ x3 < 4) <|
      kchk (0 ≤ x2 ∧ x2 < 4) <|
      if (σ 10 x2.toNat) ≤ (σ 10 x3.toNat) then
        mm_laureate_l26_j56 σ x2 x3
      else
        mm_laureate_l26_j54 σ x3
set_option maxHeartbeats 4000000 in
theorem bd_mm_laureate_l26 {x : kX} {l0 : Launch} {Q : State → Prop} (C : kCx x prog_14_method_90_code "PoetFinesModel" (some .int) kcl yM 4 l0 R0_mm_laureate) (σ : kM) (x2 : Int) (x3 : Int) {out : (Int × Int) ⊕ ((Int))} (h : mm_laureate_l26 σ x2 x3 = some out) (hC : ∀ (x2' : Int) (x3' : Int), out = Sum.inl (x2', x3') → KW x 0 0 Q σ 26 [some (kr 0), none, some (ki x2'), some (ki x3')] []) (hX62 : ∀ (x2' : Int), out = Sum.inr x2' → KW x 0 0 Q σ 62 [none, none, some (ki x2'), none] []) : KW x 0 0 Q σ 26 [some (kr 0), none, some (ki x2), some (ki x3)] [] := by
  unfold mm_laureate_l26 at h
  refine kw_iload_n C (kdec dc_M_laureate 18 rfl) rfl 27 rfl rfl ?_
  refine kw_aload_n C (kdec dc_M_laureate 19 rfl) rfl 28 rfl rfl ?_
  refine kw_getI C (kdec dc_M_laureate 20 rfl) 31 rfl fd_M_M_273_0 ?_
  refine kw_icmp_ge C (kdec dc_M_laureate 21 rfl) 62 34 (by decide) rfl (fun hc31 => ?_) (fun hc31 => ?_)
  · rw [if_pos hc31] at h
    obtain rfl := Option.some.inj h
    exact kw_sub (L' := [none, none, some (ki x2), none]) ⟨rfl, trivial⟩ (hX62 _ rfl)
  · rw [if_neg hc31] at h
    refine kw_iload_n C (kdec dc_M_laureate 22 rfl) rfl 35 rfl rfl ?_
    refine kw_iconst C (kdec dc_M_laureate 23 rfl) 36 rfl rfl ⟨by decide, by decide⟩ ?_
    refine kw_icmp_eq C (kdec dc_M_laureate 24 rfl) 54 39 (by decide) rfl (fun hc36 => ?_) (fun hc36 => ?_)
    · rw [if_pos hc36] at h
      exact kw_sub (L' := [some (kr 0), none, none, some (ki x3)]) ⟨rfl, rfl, trivial⟩ (bd_mm_laureate_l26_j54 C σ x3 h hC hX62)
    · rw [if_neg hc36] at h
      refine kw_aload_n C (kdec dc_M_laureate 25 rfl) rfl 40 rfl rfl ?_
      refine kw_getR C (kdec dc_M_laureate 26 rfl) 43 rfl fd_M_M_54_0 ?_
      refine kw_iload_n C (kdec dc_M_laureate 27 rfl) rfl 44 rfl rfl ?_
      obtain ⟨hc_7, h⟩ := kchk_h h
      refine kw_iald C (kdec dc_M_laureate 28 rfl) 45 rfl rfl hc_7.1 hc_7.2 ?_
      refine kw_aload_n C (kdec dc_M_laureate 29 rfl) rfl 46 rfl rfl ?_
      refine kw_getR C (kdec dc_M_laureate 30 rfl) 49 rfl fd_M_M_54_0 ?_
      refine kw_iload_n C (kdec dc_M_laureate 31 rfl) rfl 50 rfl rfl ?_
      obtain ⟨hc_8, h⟩ := kchk_h h
      refine kw_iald C (kdec dc_M_laureate 32 rfl) 51 rfl rfl hc_8.1 hc_8.2 ?_
      refine kw_icmp_ge C (kdec dc_M_laureate 33 rfl) 56 54 (by decide) rfl (fun hc51 => ?_) (fun hc51 => ?_)
      · rw [if_pos hc51] at h
        exact bd_mm_laureate_l26_j56 C σ x2 x3 h hC hX62
      · rw [if_neg hc51] at h
        exact kw_sub (L' := [some (kr 0), none, none, some (ki x3)]) ⟨rfl, rfl, trivial⟩ (bd_mm_laureate_l26_j54 C σ x3 h hC hX62)
theorem lp_mm_laureate_l26 {x : kX} {l0 : Launch} {Q : State → Prop} (C : kCx x prog_14_method_90_code "PoetFinesModel" (some .int) kcl yM 4 l0 R0_mm_laureate) (σ : kM) {ex : (Int)} (hX62 : ∀ (x2' : Int), ex = x2' → KW x 0 0 Q σ 62 [none, none, some (ki x2'), none] []) (n : Nat) (x2 : Int) (x3 : Int) (h : kloop (fun st => mm_laureate_l26 σ st.1 st.2) n (x2, x3) = some ex) : KW x 0 0 Q σ 26 [some (kr 0), none, some (ki x2), some (ki x3)] [] :=
  kloop_ind (P := (fun st : Int × Int => KW x 0 0 Q σ 26 [some (kr 0), none, some (ki (st.1)), some (ki (st.2))] [])) (fun st out hb hc hx => bd_mm_laureate_l26 C σ st.1 st.2 hb (fun a0 a1 e => hc _ e) (fun a0 e => hX62 _ ((hx _ e).symm))) n (x2, x3) h
def mm_laureate (σ : kM) (x1 : Int) : Option (Int × kM) :=
  klet (kst σ 0 (kup (σ 0) 0 0)) fun σ_1 =>
  (mm_isSoon σ_1 x1 0 1).bind fun (r_2, σ_3) =>
  if r_2 = 0 then
    some ((0, σ_3))
  else
    (mm_goesTo σ_3 x1).bind fun σ_4 =>
    klet ((-1)) fun x2_5 =>
    (kloop (fun st => mm_laureate_l26 σ_4 st.1 st.2) kFuel (x2_5, 0)).bind fun x2_11 =>
    some ((x2_11, σ_4))
set_option maxHeartbeats 4000000 in
theorem bd_mm_laureate {x : kX} {l0 : Launch} {Q : State → Prop} (C : kCx x prog_14_method_90_code "PoetFinesModel" (some .int) kcl yM 4 l0 R0_mm_laureate) (σ : kM) (x1 : Int) {out : Int × kM} (h : mm_laureate σ x1 = some out) (hR : ∀ (r : Int) (τ : kM), out = (r, τ) → Q = kQ x (some (ki r)) τ 0 0) : KW x 0 0 Q σ 0 [some (kr 0), some (ki x1), none, none] [] := by
  unfold mm_laureate at h
  refine kw_aload_n C (kdec dc_M_laureate 0 rfl) rfl 1 rfl rfl ?_
  refine kw_iconst C (kdec dc_M_laureate 1 rfl) 2 rfl rfl ⟨by decide, by decide⟩ ?_
  obtain ⟨σ_1, eσ_1, h⟩ := klet_h h
  refine kw_putI C (kdec dc_M_laureate 2 rfl) 5 rfl fp_M_M_99_0 ?_
  refine kw_sig eσ_1 ?_
  refine kw_aload_n C (kdec dc_M_laureate 3 rfl) rfl 6 rfl rfl ?_
  refine kw_iload_n C (kdec dc_M_laureate 4 rfl) rfl 7 rfl rfl ?_
  refine kw_iconst C (kdec dc_M_laureate 5 rfl) 8 rfl rfl ⟨by decide, by decide⟩ ?_
  refine kw_iconst C (kdec dc_M_laureate 6 rfl) 9 rfl rfl ⟨by decide, by decide⟩ ?_
  obtain ⟨⟨r_2, σ_3⟩, hg_13, h⟩ := kbind_h h
  dsimp only at h
  refine kw_callV (As := [ki x1, ki 0, ki 1]) C (kdec dc_M_laureate 7 rfl) 12 rfl cv_M_407 rfl rfl (mt_mm_isSoon l0 hg_13) ⟨rfl, rfl⟩ ⟨Nat.le_of_ble_eq_true rfl, Nat.le_of_ble_eq_true rfl⟩ ⟨Nat.zero_le _, Nat.zero_le _⟩ rfl (Nat.le_of_ble_eq_true rfl) ?_
  change KW x 0 0 Q σ_3 12 [some (kr 0), some (ki x1), none, none] [ki r_2]
  refine kw_if_ne C (kdec dc_M_laureate 8 rfl) 17 15 (by decide) rfl (fun hc12 => ?_) (fun hc12 => ?_)
  · rw [if_neg hc12] at h
    refine kw_aload_n C (kdec dc_M_laureate 11 rfl) rfl 18 rfl rfl ?_
    refine kw_iload_n C (kdec dc_M_laureate 12 rfl) rfl 19 rfl rfl ?_
    obtain ⟨σ_4, hg_12, h⟩ := kbind_h h
    refine kw_callV (As := [ki x1]) C (kdec dc_M_laureate 13 rfl) 22 rfl cv_M_410 rfl rfl (mt_mm_goesTo l0 hg_12) ⟨rfl, rfl⟩ ⟨Nat.le_of_ble_eq_true rfl, Nat.le_of_ble_eq_true rfl⟩ ⟨Nat.zero_le _, Nat.zero_le _⟩ rfl (Nat.le_of_ble_eq_true rfl) ?_
    change KW x 0 0 Q σ_4 22 [some (kr 0), some (ki x1), none, none] []
    refine kw_iconst C (kdec dc_M_laureate 14 rfl) 23 rfl rfl ⟨by decide, by decide⟩ ?_
    obtain ⟨x2_5, ex2_5, h⟩ := klet_h h
    refine kw_top ex2_5 ?_
    refine kw_istore_n (L' := [some (kr 0), some (ki x1), some (ki x2_5), none]) C (kdec dc_M_laureate 15 rfl) rfl 24 rfl (by decide) rfl rfl ?_
    refine kw_iconst C (kdec dc_M_laureate 16 rfl) 25 rfl rfl ⟨by decide, by decide⟩ ?_
    refine kw_istore_n (L' := [some (kr 0), some (ki x1), some (ki x2_5), some (ki 0)]) C (kdec dc_M_laureate 17 rfl) rfl 26 rfl (by decide) rfl rfl ?_
    obtain ⟨ex_9, hl_10, h⟩ := kbind_h h
    refine kw_sub (L' := [some (kr 0), none, some (ki x2_5), some (ki 0)]) ⟨rfl, rfl, rfl, trivial⟩ (lp_mm_laureate_l26 C σ_4 ?_ kFuel x2_5 0 hl_10)
    · intro x2_11 e
      subst ex_9
      try dsimp only at h
      refine kw_iload_n C (kdec dc_M_laureate 38 rfl) rfl 63 rfl rfl ?_
      obtain rfl := Option.some.inj h
      exact kw_Q (hR _ _ rfl) (kw_ireturn C (kdec dc_M_laureate 39 rfl))
  · rw [if_pos hc12] at h
    refine kw_iconst C (kdec dc_M_laureate 9 rfl) 16 rfl rfl ⟨by decide, by decide⟩ ?_
    obtain rfl := Option.some.inj h
    exact kw_Q (hR _ _ rfl) (kw_ireturn C (kdec dc_M_laureate 10 rfl))
theorem mt_mm_laureate (l0 : Launch) {σ : kM} {x1 : Int} {r : Int} {τ : kM} (h : mm_laureate σ x1 = some (r, τ)) : kMet l0 ky_M_laureate prog_14_method_90_code 4 (some .int) R0_mm_laureate kcl yM σ [kr 0, ki x1] (some (ki r)) τ := kMet.of' [some (kr 0), some (ki x1), none, none] (by decide) (Nat.le_of_ble_eq_true rfl) ⟨rfl, rfl, trivial⟩ (fun x C => bd_mm_laureate C σ x1 h (fun r τ e => by cases e; rfl))
def R0_mm_probe : Room := ({ frames := 3, cells := 0, slots := 0, locals := 72 } : Room)
def mm_probe_j52 (σ : kM) (x1 : Int) (x2 : Int) (x3 : Int) (x4 : Int) (s0 : Int) : Option (Int × kM) :=
  (mm_right σ s0 2).bind fun (r_7, σ_8) =>
  if r_7 = 0 then
    some ((0, σ_8))
  else
    (mm_inches σ_8 0 x1 x2 x3 x4).bind fun (r_9, σ_10) =>
    some ((r_9, σ_10))
set_option maxHeartbeats 4000000 in
theorem bd_mm_probe_j52 {x : kX} {l0 : Launch} {Q : State → Prop} (C : kCx x prog_14_method_91_code "PoetFinesModel" (some .int) kcl yM 5 l0 R0_mm_probe) (σ : kM) (x1 : Int) (x2 : Int) (x3 : Int) (x4 : Int) (s0 : Int) {out : Int × kM} (h : mm_probe_j52 σ x1 x2 x3 x4 s0 = some out) (hR : ∀ (r : Int) (τ : kM), out = (r, τ) → Q = kQ x (some (ki r)) τ 0 0) : KW x 0 0 Q σ 52 [some (kr 0), some (ki x1), some (ki x2), some (ki x3), some (ki x4)] [ki s0, kr 0] := by
  unfold mm_probe_j52 at h
  refine kw_iconst C (kdec dc_M_probe 28 rfl) 53 rfl rfl ⟨by decide, by decide⟩ ?_
  obtain ⟨⟨r_7, σ_8⟩, hg_12, h⟩ := kbind_h h
  dsimp only at h
  refine kw_callV (As := [ki s0, ki 2]) C (kdec dc_M_probe 29 rfl) 56 rfl cv_M_263 rfl rfl (mt_mm_right l0 hg_12) ⟨rfl, rfl⟩ ⟨Nat.le_of_ble_eq_true rfl, Nat.le_of_ble_eq_true rfl⟩ ⟨Nat.zero_le _, Nat.zero_le _⟩ rfl (Nat.le_of_ble_eq_true rfl) ?_
  change KW x 0 0 Q σ_8 56 [some (kr 0), some (ki x1), some (ki x2), some (ki x3), some (ki x4)] [ki r_7]
  refine kw_if_ne C (kdec dc_M_probe 30 rfl) 61 59 (by decide) rfl (fun hc56 => ?_) (fun hc56 => ?_)
  · rw [if_neg hc56] at h
    refine kw_aload_n C (kdec dc_M_probe 33 rfl) rfl 62 rfl rfl ?_
    refine kw_iconst C (kdec dc_M_probe 34 rfl) 63 rfl rfl ⟨by decide, by decide⟩ ?_
    refine kw_iload_n C (kdec dc_M_probe 35 rfl) rfl 64 rfl rfl ?_
    refine kw_iload_n C (kdec dc_M_probe 36 rfl) rfl 65 rfl rfl ?_
    refine kw_iload_n C (kdec dc_M_probe 37 rfl) rfl 66 rfl rfl ?_
    refine kw_iload C (kdec dc_M_probe 38 rfl) 68 rfl rfl ?_
    obtain ⟨⟨r_9, σ_10⟩, hg_11, h⟩ := kbind_h h
    dsimp only at h
    refine kw_callV (As := [ki 0, ki x1, ki x2, ki x3, ki x4]) C (kdec dc_M_probe 39 rfl) 71 rfl cv_M_326 rfl rfl (mt_mm_inches l0 hg_11) ⟨rfl, rfl⟩ ⟨Nat.le_of_ble_eq_true rfl, Nat.le_of_ble_eq_true rfl⟩ ⟨Nat.zero_le _, Nat.zero_le _⟩ rfl (Nat.le_of_ble_eq_true rfl) ?_
    change KW x 0 0 Q σ_10 71 [some (kr 0), some (ki x1), some (ki x2), some (ki x3), some (ki x4)] [ki r_9]
    obtain rfl := Option.some.inj h
    exact kw_Q (hR _ _ rfl) (kw_ireturn C (kdec dc_M_probe 40 rfl))
  · rw [if_pos hc56] at h
    refine kw_iconst C (kdec dc_M_probe 31 rfl) 60 rfl rfl ⟨by decide, by decide⟩ ?_
    obtain rfl := Option.some.inj h
    exact kw_Q (hR _ _ rfl) (kw_ireturn C (kdec dc_M_probe 32 rfl))
def mm_probe_j51 (σ : kM) (x1 : Int) (x2 : Int) (x3 : Int) (x4 : Int) : Option (Int × kM) :=
  mm_probe_j52 σ x1 x2 x3 x4 0
set_option maxHeartbeats 4000000 in
theorem bd_mm_probe_j51 {x : kX} {l0 : Launch} {Q : State → Prop} (C : kCx x prog_14_method_91_code "PoetFinesModel" (some .int) kcl yM 5 l0 R0_mm_probe) (σ : kM) (x1 : Int) (x2 : Int) (x3 : Int) (x4 : Int) {out : Int × kM} (h : mm_probe_j51 σ x1 x2 x3 x4 = some out) (hR : ∀ (r : Int) (τ : kM), out = (r, τ) → Q = kQ x (some (ki r)) τ 0 0) : KW x 0 0 Q σ 51 [some (kr 0), some (ki x1), some (ki x2), some (ki x3), some (ki x4)] [kr 0] := by
  unfold mm_probe_j51 at h
  refine kw_iconst C (kdec dc_M_probe 27 rfl) 52 rfl rfl ⟨by decide, by decide⟩ ?_
  exact bd_mm_probe_j52 C σ x1 x2 x3 x4 0 h hR
def mm_probe (σ : kM) (x1 : Int) (x2 : Int) (x3 : Int) (x4 : Int) : Option (Int × kM) :=
  klet (kst σ 0 (kup (σ 0) 0 0)) fun σ_1 =>
  (mm_isPoet σ_1 x1).bind fun (r_2, σ_3) =>
  if r_2 = 0 then
    some ((0, σ_3))
  else
    (mm_isPerson σ_3 x2).bind fun (r_4, σ_5) =>
    if r_4 = 0 then
      some ((0, σ_5))
    else
      (mm_within σ_5 x3 0 (w32 ((σ_5 0 1) - 1))).bind fun r_6 =>
      if r_6 = 0 then
        mm_probe_j51 σ_5 x1 x2 x3 x4
      else
        (mm_within σ_5 x4 0 9).bind fun r_13 =>
        if r_13 = 0 then
          mm_probe_j51 σ_5 x1 x2 x3 x4
        else
          mm_probe_j52 σ_5 x1 x2 x3 x4 1
set_option maxHeartbeats 4000000 in
theorem bd_mm_probe {x : kX} {l0 : Launch} {Q : State → Prop} (C : kCx x prog_14_method_91_code "PoetFinesModel" (some .int) kcl yM 5 l0 R0_mm_probe) (σ : kM) (x1 : Int) (x2 : Int) (x3 : Int) (x4 : Int) {out : Int × kM} (h : mm_probe σ x1 x2 x3 x4 = some out) (hR : ∀ (r : Int) (τ : kM), out = (r, τ) → Q = kQ x (some (ki r)) τ 0 0) : KW x 0 0 Q σ 0 [some (kr 0), some (ki x1), some (ki x2), some (ki x3), some (ki x4)] [] := by
  unfold mm_probe at h
  refine kw_aload_n C (kdec dc_M_probe 0 rfl) rfl 1 rfl rfl ?_
  refine kw_iconst C (kdec dc_M_probe 1 rfl) 2 rfl rfl ⟨by decide, by decide⟩ ?_
  obtain ⟨σ_1, eσ_1, h⟩ := klet_h h
  refine kw_putI C (kdec dc_M_probe 2 rfl) 5 rfl fp_M_M_99_0 ?_
  refine kw_sig eσ_1 ?_
  refine kw_aload_n C (kdec dc_M_probe 3 rfl) rfl 6 rfl rfl ?_
  refine kw_iload_n C (kdec dc_M_probe 4 rfl) rfl 7 rfl rfl ?_
  obtain ⟨⟨r_2, σ_3⟩, hg_17, h⟩ := kbind_h h
  dsimp only at h
  refine kw_callV (As := [ki x1]) C (kdec dc_M_probe 5 rfl) 10 rfl cv_M_367 rfl rfl (mt_mm_isPoet l0 hg_17) ⟨rfl, rfl⟩ ⟨Nat.le_of_ble_eq_true rfl, Nat.le_of_ble_eq_true rfl⟩ ⟨Nat.zero_le _, Nat.zero_le _⟩ rfl (Nat.le_of_ble_eq_true rfl) ?_
  change KW x 0 0 Q σ_3 10 [some (kr 0), some (ki x1), some (ki x2), some (ki x3), some (ki x4)] [ki r_2]
  refine kw_if_eq C (kdec dc_M_probe 6 rfl) 59 13 (by decide) rfl (fun hc10 => ?_) (fun hc10 => ?_)
  · rw [if_pos hc10] at h
    refine kw_iconst C (kdec dc_M_probe 31 rfl) 60 rfl rfl ⟨by decide, by decide⟩ ?_
    obtain rfl := Option.some.inj h
    exact kw_Q (hR _ _ rfl) (kw_ireturn C (kdec dc_M_probe 32 rfl))
  · rw [if_neg hc10] at h
    refine kw_aload_n C (kdec dc_M_probe 7 rfl) rfl 14 rfl rfl ?_
    refine kw_iload_n C (kdec dc_M_probe 8 rfl) rfl 15 rfl rfl ?_
    obtain ⟨⟨r_4, σ_5⟩, hg_16, h⟩ := kbind_h h
    dsimp only at h
    refine kw_callV (As := [ki x2]) C (kdec dc_M_probe 9 rfl) 18 rfl cv_M_370 rfl rfl (mt_mm_isPerson l0 hg_16) ⟨rfl, rfl⟩ ⟨Nat.le_of_ble_eq_true rfl, Nat.le_of_ble_eq_true rfl⟩ ⟨Nat.zero_le _, Nat.zero_le _⟩ rfl (Nat.le_of_ble_eq_true rfl) ?_
    change KW x 0 0 Q σ_5 18 [some (kr 0), some (ki x1), some (ki x2), some (ki x3), some (ki x4)] [ki r_4]
    refine kw_if_eq C (kdec dc_M_probe 10 rfl) 59 21 (by decide) rfl (fun hc18 => ?_) (fun hc18 => ?_)
    · rw [if_pos hc18] at h
      refine kw_iconst C (kdec dc_M_probe 31 rfl) 60 rfl rfl ⟨by decide, by decide⟩ ?_
      obtain rfl := Option.some.inj h
      exact kw_Q (hR _ _ rfl) (kw_ireturn C (kdec dc_M_probe 32 rfl))
    · rw [if_neg hc18] at h
      refine kw_aload_n C (kdec dc_M_probe 11 rfl) rfl 22 rfl rfl ?_
      refine kw_iload_n C (kdec dc_M_probe 12 rfl) rfl 23 rfl rfl ?_
      refine kw_iconst C (kdec dc_M_probe 13 rfl) 24 rfl rfl ⟨by decide, by decide⟩ ?_
      refine kw_aload_n C (kdec dc_M_probe 14 rfl) rfl 25 rfl rfl ?_
      refine kw_getI C (kdec dc_M_probe 15 rfl) 28 rfl fd_M_M_7_0 ?_
      refine kw_iconst C (kdec dc_M_probe 16 rfl) 29 rfl rfl ⟨by decide, by decide⟩ ?_
      refine kw_isub C (kdec dc_M_probe 17 rfl) 30 rfl ?_
      obtain ⟨r_6, hg_15, h⟩ := kbind_h h
      refine kw_callS (As := [ki x3, ki 0, ki (w32 ((σ_5 0 1) - 1))]) C (kdec dc_M_probe 18 rfl) 33 rfl cs_M_355 (mt_mm_within l0 hg_15) ⟨rfl, rfl⟩ ⟨Nat.le_of_ble_eq_true rfl, Nat.le_of_ble_eq_true rfl⟩ ⟨Nat.zero_le _, Nat.zero_le _⟩ rfl (Nat.le_of_ble_eq_true rfl) ?_
      change KW x 0 0 Q σ_5 33 [some (kr 0), some (ki x1), some (ki x2), some (ki x3), some (ki x4)] [ki r_6, kr 0]
      refine kw_if_eq C (kdec dc_M_probe 19 rfl) 51 36 (by decide) rfl (fun hc33 => ?_) (fun hc33 => ?_)
      · rw [if_pos hc33] at h
        exact bd_mm_probe_j51 C σ_5 x1 x2 x3 x4 h hR
      · rw [if_neg hc33] at h
        refine kw_iload C (kdec dc_M_probe 20 rfl) 38 rfl rfl ?_
        refine kw_iconst C (kdec dc_M_probe 21 rfl) 39 rfl rfl ⟨by decide, by decide⟩ ?_
        refine kw_bipush (v := 9) C (kdec dc_M_probe 22 rfl) 41 rfl (by decide) ⟨by decide, by decide⟩ ?_
        obtain ⟨r_13, hg_14, h⟩ := kbind_h h
        refine kw_callS (As := [ki x4, ki 0, ki 9]) C (kdec dc_M_probe 23 rfl) 44 rfl cs_M_355 (mt_mm_within l0 hg_14) ⟨rfl, rfl⟩ ⟨Nat.le_of_ble_eq_true rfl, Nat.le_of_ble_eq_true rfl⟩ ⟨Nat.zero_le _, Nat.zero_le _⟩ rfl (Nat.le_of_ble_eq_true rfl) ?_
        change KW x 0 0 Q σ_5 44 [some (kr 0), some (ki x1), some (ki x2), some (ki x3), some (ki x4)] [ki r_13, kr 0]
        refine kw_if_eq C (kdec dc_M_probe 24 rfl) 51 47 (by decide) rfl (fun hc44 => ?_) (fun hc44 => ?_)
        · rw [if_pos hc44] at h
          exact bd_mm_probe_j51 C σ_5 x1 x2 x3 x4 h hR
        · rw [if_neg hc44] at h
          refine kw_iconst C (kdec dc_M_probe 25 rfl) 48 rfl rfl ⟨by decide, by decide⟩ ?_
          refine kw_goto C (kdec dc_M_probe 26 rfl) 52 (by decide) ?_
          exact bd_mm_probe_j52 C σ_5 x1 x2 x3 x4 1 h hR
theorem mt_mm_probe (l0 : Launch) {σ : kM} {x1 : Int} {x2 : Int} {x3 : Int} {x4 : Int} {r : Int} {τ : kM} (h : mm_probe σ x1 x2 x3 x4 = some (r, τ)) : kMet l0 ky_M_probe prog_14_method_91_code 5 (some .int) R0_mm_probe kcl yM σ [kr 0, ki x1, ki x2, ki x3, ki x4] (some (ki r)) τ := kMet.of' [some (kr 0), some (ki x1), some (ki x2), some (ki x3), some (ki x4)] (by decide) (Nat.le_of_ble_eq_true rfl) ⟨rfl, rfl, rfl, rfl, rfl, trivial⟩ (fun x C => bd_mm_probe C σ x1 x2 x3 x4 h (fun r τ e => by cases e; rfl))
def R0_mm_safe : Room := ({ frames := 3, cells := 0, slots := 0, locals := 72 } : Room)
def mm_safe_l45 (σ : kM) (x1 : Int) (x2 : Int) (x3 : Int) (x4 : Int) : Option ((kM × Int) ⊕ ((kM) ⊕ (kM))) :=
  if (σ 0 2) ≤ x4 then
    some (Sum.inr (Sum.inr σ))
  else
    (mm_inches σ 0 x1 x4 x2 x3).bind fun (r_7, σ_8) =>
    if r_7 ≤ 0 then
      klet (w32 (x4 + 1)) fun x4_9 =>
      some (Sum.inl (σ_8, x4_9))
    else
      some (Sum.inr (Sum.inl σ_8))
set_option maxHeartbeats 4000000 in
theorem bd_mm_safe_l45 {x : kX} {l0 : Launch} {Q : State → Prop} (C : kCx x prog_14_method_92_code "PoetFinesModel" (some .int) kcl yM 5 l0 R0_mm_safe) (σ : kM) (x1 : Int) (x2 : Int) (x3 : Int) (x4 : Int) {out : (kM × Int) ⊕ ((kM) ⊕ (kM))} (h : mm_safe_l45 σ x1 x2 x3 x4 = some out) (hC : ∀ (σ' : kM) (x4' : Int), out = Sum.inl (σ', x4') → KW x 0 0 Q σ' 45 [some (kr 0), some (ki x1), some (ki x2), some (ki x3), some (ki x4')] []) (hX67 : ∀ (σ' : kM), out = Sum.inr (Sum.inl σ') → KW x 0 0 Q σ' 67 [none, none, none, some (ki x3), none] []) (hX77 : ∀ (σ' : kM), out = Sum.inr (Sum.inr σ') → KW x 0 0 Q σ' 77 [some (kr 0), some (ki x1), some (ki x2), some (ki x3), none] []) : KW x 0 0 Q σ 45 [some (kr 0), some (ki x1), some (ki x2), some (ki x3), some (ki x4)] [] := by
  unfold mm_safe_l45 at h
  refine kw_iload C (kdec dc_M_safe 27 rfl) 47 rfl rfl ?_
  refine kw_aload_n C (kdec dc_M_safe 28 rfl) rfl 48 rfl rfl ?_
  refine kw_getI C (kdec dc_M_safe 29 rfl) 51 rfl fd_M_M_270_0 ?_
  refine kw_icmp_ge C (kdec dc_M_safe 30 rfl) 77 54 (by decide) rfl (fun hc51 => ?_) (fun hc51 => ?_)
  · rw [if_pos hc51] at h
    obtain rfl := Option.some.inj h
    exact kw_sub (L' := [some (kr 0), some (ki x1), some (ki x2), some (ki x3), none]) ⟨rfl, rfl, rfl, rfl, trivial⟩ (hX77 _ rfl)
  · rw [if_neg hc51] at h
    refine kw_aload_n C (kdec dc_M_safe 31 rfl) rfl 55 rfl rfl ?_
    refine kw_iconst C (kdec dc_M_safe 32 rfl) 56 rfl rfl ⟨by decide, by decide⟩ ?_
    refine kw_iload_n C (kdec dc_M_safe 33 rfl) rfl 57 rfl rfl ?_
    refine kw_iload C (kdec dc_M_safe 34 rfl) 59 rfl rfl ?_
    refine kw_iload_n C (kdec dc_M_safe 35 rfl) rfl 60 rfl rfl ?_
    refine kw_iload_n C (kdec dc_M_safe 36 rfl) rfl 61 rfl rfl ?_
    obtain ⟨⟨r_7, σ_8⟩, hg_10, h⟩ := kbind_h h
    dsimp only at h
    refine kw_callV (As := [ki 0, ki x1, ki x4, ki x2, ki x3]) C (kdec dc_M_safe 37 rfl) 64 rfl cv_M_326 rfl rfl (mt_mm_inches l0 hg_10) ⟨rfl, rfl⟩ ⟨Nat.le_of_ble_eq_true rfl, Nat.le_of_ble_eq_true rfl⟩ ⟨Nat.zero_le _, Nat.zero_le _⟩ rfl (Nat.le_of_ble_eq_true rfl) ?_
    change KW x 0 0 Q σ_8 64 [some (kr 0), some (ki x1), some (ki x2), some (ki x3), some (ki x4)] [ki r_7]
    refine kw_if_le C (kdec dc_M_safe 38 rfl) 71 67 (by decide) rfl (fun hc64 => ?_) (fun hc64 => ?_)
    · rw [if_pos hc64] at h
      obtain ⟨x4_9, ex4_9, h⟩ := klet_h h
      refine kw_iinc (L' := [some (kr 0), some (ki x1), some (ki x2), some (ki x3), some (ki x4_9)]) C (kdec dc_M_safe 43 rfl) 74 rfl rfl (by decide) rfl (by rw [ex4_9]; rfl) ?_
      refine kw_goto C (kdec dc_M_safe 44 rfl) 45 (by decide) ?_
      obtain rfl := Option.some.inj h
      exact (hC _ _ rfl)
    · rw [if_neg hc64] at h
      obtain rfl := Option.some.inj h
      exact kw_sub (L' := [none, none, none, some (ki x3), none]) ⟨rfl, trivial⟩ (hX67 _ rfl)
theorem lp_mm_safe_l45 {x : kX} {l0 : Launch} {Q : State → Prop} (C : kCx x prog_14_method_92_code "PoetFinesModel" (some .int) kcl yM 5 l0 R0_mm_safe) (x1 : Int) (x2 : Int) (x3 : Int) {ex : (kM) ⊕ (kM)} (hX67 : ∀ (σ' : kM), ex = (Sum.inl σ') → KW x 0 0 Q σ' 67 [none, none, none, some (ki x3), none] []) (hX77 : ∀ (σ' : kM), ex = (Sum.inr σ') → KW x 0 0 Q σ' 77 [some (kr 0), some (ki x1), some (ki x2), some (ki x3), none] []) (n : Nat) (σ : kM) (x4 : Int) (h : kloop (fun st => mm_safe_l45 st.1 x1 x2 x3 st.2) n (σ, x4) = some ex) : KW x 0 0 Q σ 45 [some (kr 0), some (ki x1), some (ki x2), some (ki x3), some (ki x4)] [] :=
  kloop_ind (P := (fun st : kM × Int => KW x 0 0 Q st.1 45 [some (kr 0), some (ki x1), some (ki x2), some (ki x3), some (ki (st.2))] [])) (fun st out hb hc hx => bd_mm_safe_l45 C st.1 x1 x2 x3 st.2 hb (fun a0 a1 e => hc _ e) (fun a0 e => hX67 _ ((hx _ e).symm)) (fun a0 e => hX77 _ ((hx _ e).symm))) n (σ, x4) h
def mm_safe_l36 (σ : kM) (x1 : Int) (x2 : Int) (x3 : Int) : Option ((kM × Int) ⊕ ((kM × Int) ⊕ (kM))) :=
  if 10 ≤ x3 then
    some (Sum.inr (Sum.inr σ))
  else
    (kloop (fun st => mm_safe_l45 st.1 x1 x2 x3 st.2) kFuel (σ, 0)).bind fun ex_11 => match ex_11 with
      | (Sum.inl σ_13) =>
        some (Sum.inr (Sum.inl (σ_13, x3)))
      | (Sum.inr σ_14) =>
        klet (w32 (x3 + 1)) fun x3_15 =>
        some (Sum.inl (σ_14, x3_15))
set_option maxHeartbeats 4000000 in
theorem bd_mm_safe_l36 {x : kX} {l0 : Launch} {Q : State → Prop} (C : kCx x prog_14_method_92_code "PoetFinesModel" (some .int) kcl yM 5 l0 R0_mm_safe) (σ : kM) (x1 : Int) (x2 : Int) (x3 : Int) {out : (kM × Int) ⊕ ((kM × Int) ⊕ (kM))} (h : mm_safe_l36 σ x1 x2 x3 = some out) (hC : ∀ (σ' : kM) (x3' : Int), out = Sum.inl (σ', x3') → KW x 0 0 Q σ' 36 [some (kr 0), some (ki x1), some (ki x2), some (ki x3'), none] []) (hX67 : ∀ (σ' : kM) (x3' : Int), out = Sum.inr (Sum.inl (σ', x3')) → KW x 0 0 Q σ' 67 [none, none, none, some (ki x3'), none] []) (hX83 : ∀ (σ' : kM), out = Sum.inr (Sum.inr σ') → KW x 0 0 Q σ' 83 [none, none, none, none, none] []) : KW x 0 0 Q σ 36 [some (kr 0), some (ki x1), some (ki x2), some (ki x3), none] [] := by
  unfold mm_safe_l36 at h
  refine kw_iload_n C (kdec dc_M_safe 22 rfl) rfl 37 rfl rfl ?_
  refine kw_bipush (v := 10) C (kdec dc_M_safe 23 rfl) 39 rfl (by decide) ⟨by decide, by decide⟩ ?_
  refine kw_icmp_ge C (kdec dc_M_safe 24 rfl) 83 42 (by decide) rfl (fun hc39 => ?_) (fun hc39 => ?_)
  · rw [if_pos hc39] at h
    obtain rfl := Option.some.inj h
    exact kw_sub (L' := [none, none, none, none, none]) trivial (hX83 _ rfl)
  · rw [if_neg hc39] at h
    refine kw_iconst C (kdec dc_M_safe 25 rfl) 43 rfl rfl ⟨by decide, by decide⟩ ?_
    refine kw_istore (L' := [some (kr 0), some (ki x1), some (ki x2), some (ki x3), some (ki 0)]) C (kdec dc_M_safe 26 rfl) 45 rfl (by decide) rfl rfl ?_
    obtain ⟨ex_11, hl_12, h⟩ := kbind_h h
    refine lp_mm_safe_l45 C x1 x2 x3 ?_ ?_ kFuel σ 0 hl_12
    · intro σ_13 e
      subst ex_11
      try dsimp only at h
      obtain rfl := Option.some.inj h
      exact (hX67 _ _ rfl)
    · intro σ_14 e
      subst ex_11
      try dsimp only at h
      obtain ⟨x3_15, ex3_15, h⟩ := klet_h h
      refine kw_iinc (L' := [some (kr 0), some (ki x1), some (ki x2), some (ki x3_15), none]) C (kdec dc_M_safe 45 rfl) 80 rfl rfl (by decide) rfl (by rw [ex3_15]; rfl) ?_
      refine kw_goto C (kdec dc_M_safe 46 rfl) 36 (by decide) ?_
      obtain rfl := Option.some.inj h
      exact (hC _ _ rfl)
theorem lp_mm_safe_l36 {x : kX} {l0 : Launch} {Q : State → Prop} (C : kCx x prog_14_method_92_code "PoetFinesModel" (some .int) kcl yM 5 l0 R0_mm_safe) (x1 : Int) (x2 : Int) {ex : (kM × Int) ⊕ (kM)} (hX67 : ∀ (σ' : kM) (x3' : Int), ex = (Sum.inl (σ', x3')) → KW x 0 0 Q σ' 67 [none, none, none, some (ki x3'), none] []) (hX83 : ∀ (σ' : kM), ex = (Sum.inr σ') → KW x 0 0 Q σ' 83 [none, none, none, none, none] []) (n : Nat) (σ : kM) (x3 : Int) (h : kloop (fun st => mm_safe_l36 st.1 x1 x2 st.2) n (σ, x3) = some ex) : KW x 0 0 Q σ 36 [some (kr 0), some (ki x1), some (ki x2), some (ki x3), none] [] :=
  kloop_ind (P := (fun st : kM × Int => KW x 0 0 Q st.1 36 [some (kr 0), some (ki x1), some (ki x2), some (ki (st.2)), none] [])) (fun st out hb hc hx => bd_mm_safe_l36 C st.1 x1 x2 st.2 hb (fun a0 a1 e => hc _ e) (fun a0 a1 e => hX67 _ _ ((hx _ e).symm)) (fun a0 e => hX83 _ ((hx _ e).symm))) n (σ, x3) h
def mm_safe (σ : kM) (x1 : Int) (x2 : Int) : Option (Int × kM) :=
  klet (kst σ 0 (kup (σ 0) 0 0)) fun σ_1 =>
  (mm_isPoet σ_1 x1).bind fun (r_2, σ_3) =>
  if r_2 = 0 then
    some ((0, σ_3))
  else
    (mm_within σ_3 x2 0 (w32 ((σ_3 0 1) - 1))).bind fun r_4 =>
    (mm_right σ_3 r_4 2).bind fun (r_5, σ_6) =>
    if r_5 = 0 then
      some ((0, σ_6))
    else
      (kloop (fun st => mm_safe_l36 st.1 x1 x2 st.2) kFuel (σ_6, 0)).bind fun ex_16 => match ex_16 with
        | (Sum.inl (σ_18, x3_19)) =>
          some ((w32 (x3_19 - 1), σ_18))
        | (Sum.inr σ_20) =>
          some ((9, σ_20))
set_option maxHeartbeats 4000000 in
theorem bd_mm_safe {x : kX} {l0 : Launch} {Q : State → Prop} (C : kCx x prog_14_method_92_code "PoetFinesModel" (some .int) kcl yM 5 l0 R0_mm_safe) (σ : kM) (x1 : Int) (x2 : Int) {out : Int × kM} (h : mm_safe σ x1 x2 = some out) (hR : ∀ (r : Int) (τ : kM), out = (r, τ) → Q = kQ x (some (ki r)) τ 0 0) : KW x 0 0 Q σ 0 [some (kr 0), some (ki x1), some (ki x2), none, none] [] := by
  unfold mm_safe at h
  refine kw_aload_n C (kdec dc_M_safe 0 rfl) rfl 1 rfl rfl ?_
  refine kw_iconst C (kdec dc_M_safe 1 rfl) 2 rfl rfl ⟨by decide, by decide⟩ ?_
  obtain ⟨σ_1, eσ_1, h⟩ := klet_h h
  refine kw_putI C (kdec dc_M_safe 2 rfl) 5 rfl fp_M_M_99_0 ?_
  refine kw_sig eσ_1 ?_
  refine kw_aload_n C (kdec dc_M_safe 3 rfl) rfl 6 rfl rfl ?_
  refine kw_iload_n C (kdec dc_M_safe 4 rfl) rfl 7 rfl rfl ?_
  obtain ⟨⟨r_2, σ_3⟩, hg_23, h⟩ := kbind_h h
  dsimp only at h
  refine kw_callV (As := [ki x1]) C (kdec dc_M_safe 5 rfl) 10 rfl cv_M_367 rfl rfl (mt_mm_isPoet l0 hg_23) ⟨rfl, rfl⟩ ⟨Nat.le_of_ble_eq_true rfl, Nat.le_of_ble_eq_true rfl⟩ ⟨Nat.zero_le _, Nat.zero_le _⟩ rfl (Nat.le_of_ble_eq_true rfl) ?_
  change KW x 0 0 Q σ_3 10 [some (kr 0), some (ki x1), some (ki x2), none, none] [ki r_2]
  refine kw_if_eq C (kdec dc_M_safe 6 rfl) 32 13 (by decide) rfl (fun hc10 => ?_) (fun hc10 => ?_)
  · rw [if_pos hc10] at h
    refine kw_iconst C (kdec dc_M_safe 18 rfl) 33 rfl rfl ⟨by decide, by decide⟩ ?_
    obtain rfl := Option.some.inj h
    exact kw_Q (hR _ _ rfl) (kw_ireturn C (kdec dc_M_safe 19 rfl))
  · rw [if_neg hc10] at h
    refine kw_aload_n C (kdec dc_M_safe 7 rfl) rfl 14 rfl rfl ?_
    refine kw_iload_n C (kdec dc_M_safe 8 rfl) rfl 15 rfl rfl ?_
    refine kw_iconst C (kdec dc_M_safe 9 rfl) 16 rfl rfl ⟨by decide, by decide⟩ ?_
    refine kw_aload_n C (kdec dc_M_safe 10 rfl) rfl 17 rfl rfl ?_
    refine kw_getI C (kdec dc_M_safe 11 rfl) 20 rfl fd_M_M_7_0 ?_
    refine kw_iconst C (kdec dc_M_safe 12 rfl) 21 rfl rfl ⟨by decide, by decide⟩ ?_
    refine kw_isub C (kdec dc_M_safe 13 rfl) 22 rfl ?_
    obtain ⟨r_4, hg_22, h⟩ := kbind_h h
    refine kw_callS (As := [ki x2, ki 0, ki (w32 ((σ_3 0 1) - 1))]) C (kdec dc_M_safe 14 rfl) 25 rfl cs_M_355 (mt_mm_within l0 hg_22) ⟨rfl, rfl⟩ ⟨Nat.le_of_ble_eq_true rfl, Nat.le_of_ble_eq_true rfl⟩ ⟨Nat.zero_le _, Nat.zero_le _⟩ rfl (Nat.le_of_ble_eq_true rfl) ?_
    change KW x 0 0 Q σ_3 25 [some (kr 0), some (ki x1), some (ki x2), none, none] [ki r_4, kr 0]
    refine kw_iconst C (kdec dc_M_safe 15 rfl) 26 rfl rfl ⟨by decide, by decide⟩ ?_
    obtain ⟨⟨r_5, σ_6⟩, hg_21, h⟩ := kbind_h h
    dsimp only at h
    refine kw_callV (As := [ki r_4, ki 2]) C (kdec dc_M_safe 16 rfl) 29 rfl cv_M_263 rfl rfl (mt_mm_right l0 hg_21) ⟨rfl, rfl⟩ ⟨Nat.le_of_ble_eq_true rfl, Nat.le_of_ble_eq_true rfl⟩ ⟨Nat.zero_le _, Nat.zero_le _⟩ rfl (Nat.le_of_ble_eq_true rfl) ?_
    change KW x 0 0 Q σ_6 29 [some (kr 0), some (ki x1), some (ki x2), none, none] [ki r_5]
    refine kw_if_ne C (kdec dc_M_safe 17 rfl) 34 32 (by decide) rfl (fun hc29 => ?_) (fun hc29 => ?_)
    · rw [if_neg hc29] at h
      refine kw_iconst C (kdec dc_M_safe 20 rfl) 35 rfl rfl ⟨by decide, by decide⟩ ?_
      refine kw_istore_n (L' := [some (kr 0), some (ki x1), some (ki x2), some (ki 0), none]) C (kdec dc_M_safe 21 rfl) rfl 36 rfl (by decide) rfl rfl ?_
      obtain ⟨ex_16, hl_17, h⟩ := kbind_h h
      refine lp_mm_safe_l36 C x1 x2 ?_ ?_ kFuel σ_6 0 hl_17
      · intro σ_18 x3_19 e
        subst ex_16
        try dsimp only at h
        refine kw_iload_n C (kdec dc_M_safe 39 rfl) rfl 68 rfl rfl ?_
        refine kw_iconst C (kdec dc_M_safe 40 rfl) 69 rfl rfl ⟨by decide, by decide⟩ ?_
        refine kw_isub C (kdec dc_M_safe 41 rfl) 70 rfl ?_
        obtain rfl := Option.some.inj h
        exact kw_Q (hR _ _ rfl) (kw_ireturn C (kdec dc_M_safe 42 rfl))
      · intro σ_20 e
        subst ex_16
        try dsimp only at h
        refine kw_bipush (v := 9) C (kdec dc_M_safe 47 rfl) 85 rfl (by decide) ⟨by decide, by decide⟩ ?_
        obtain rfl := Option.some.inj h
        exact kw_Q (hR _ _ rfl) (kw_ireturn C (kdec dc_M_safe 48 rfl))
    · rw [if_pos hc29] at h
      refine kw_iconst C (kdec dc_M_safe 18 rfl) 33 rfl rfl ⟨by decide, by decide⟩ ?_
      obtain rfl := Option.some.inj h
      exact kw_Q (hR _ _ rfl) (kw_ireturn C (kdec dc_M_safe 19 rfl))
theorem mt_mm_safe (l0 : Launch) {σ : kM} {x1 : Int} {x2 : Int} {r : Int} {τ : kM} (h : mm_safe σ x1 x2 = some (r, τ)) : kMet l0 ky_M_safe prog_14_method_92_code 5 (some .int) R0_mm_safe kcl yM σ [kr 0, ki x1, ki x2] (some (ki r)) τ := kMet.of' [some (kr 0), some (ki x1), some (ki x2), none, none] (by decide) (Nat.le_of_ble_eq_true rfl) ⟨rfl, rfl, rfl, trivial⟩ (fun x C => bd_mm_safe C σ x1 x2 h (fun r τ e => by cases e; rfl))
def R0_mm_sonnet : Room := ({ frames := 6, cells := 0, slots := 0, locals := 144 } : Room)
def mm_sonnet_l57_j108 (σ : kM) (x1 : Int) (x2 : Int) (x3 : Int) (x4 : Int) (x5 : Int) (x6 : Int) (x7 : Int) (x8 : Int) : Option ((kM × Int × Int × Int) ⊕ ((kM × Int × Int))) :=
  klet (w32 (x8 + 1)) fun x8_14 =>
  some (Sum.inl (σ, x6, x7, x8_14))
set_option maxHeartbeats 4000000 in
theorem bd_mm_sonnet_l57_j108 {x : kX} {l0 : Launch} {Q : State → Prop} (C : kCx x prog_14_method_93_code "PoetFinesModel" (some .int) kcl yM 9 l0 R0_mm_sonnet) (σ : kM) (x1 : Int) (x2 : Int) (x3 : Int) (x4 : Int) (x5 : Int) (x6 : Int) (x7 : Int) (x8 : Int) {out : (kM × Int × Int × Int) ⊕ ((kM × Int × Int))} (h : mm_sonnet_l57_j108 σ x1 x2 x3 x4 x5 x6 x7 x8 = some out) (hC : ∀ (σ' : kM) (x6' : Int) (x7' : Int) (x8' : Int), out = Sum.inl (σ', x6', x7', x8') → KW x 0 0 Q σ' 57 [some (kr 0), some (ki x1), some (ki x2), some (ki x3), some (ki x4), some (ki x5), some (ki x6'), some (ki x7'), some (ki x8')] []) (hX114 : ∀ (σ' : kM) (x6' : Int) (x7' : Int), out = Sum.inr (σ', x6', x7') → KW x 0 0 Q σ' 114 [some (kr 0), some (ki x1), some (ki x2), some (ki x3), some (ki x4), some (ki x5), some (ki x6'), some (ki x7'), none] []) : KW x 0 0 Q σ 108 [some (kr 0), some (ki x1), some (ki x2), some (ki x3), some (ki x4), some (ki x5), some (ki x6), some (ki x7), some (ki x8)] [] := by
  unfold mm_sonnet_l57_j108 at h
  obtain ⟨x8_14, ex8_14, h⟩ := klet_h h
  refine kw_iinc (L' := [some (kr 0), some (ki x1), some (ki x2), some (ki x3), some (ki x4), some (ki x5), some (ki x6), some (ki x7), some (ki x8_14)]) C (kdec dc_M_sonnet 65 rfl) 111 rfl rfl (by decide) rfl (by rw [ex8_14]; rfl) ?_
  refine kw_goto C (kdec dc_M_sonnet 66 rfl) 57 (by decide) ?_
  obtain rfl := Option.some.inj h
  exact (hC _ _ _ _ rfl)
def mm_sonnet_l57 (σ : kM) (x1 : Int) (x2 : Int) (x3 : Int) (x4 : Int) (x5 : Int) (x6 : Int) (x7 : Int) (x8 : Int) : Option ((kM × Int × Int × Int) ⊕ ((kM × Int × Int))) :=
  kchk (0 ≤ (w32 (61 + x1)) ∧ (w32 (61 + x1)) < 290) <|
  if (σ 8 (w32 (61 + x1)).toNat) ≤ x8 then
    some (Sum.inr (σ, x6, x7))
  else
    if (kand (kshr x5 x8) 1) = 0 then
      mm_sonnet_l57_j108 σ x1 x2 x3 x4 x5 x6 x7 x8
    else
      (mm_fineAll σ x1 x8).bind fun (r_8, σ_9) =>
      klet (w32 (x6 + r_8)) fun x6_10 =>
      (mm_intoAll σ_9 x1 x8).bind fun (r_11, σ_12) =>
      klet (w32 (x7 + r_11)) fun x7_13 =>
      mm_sonnet_l57_j108 σ_12 x1 x2 x3 x4 x5 x6_10 x7_13 x8
set_option maxHeartbeats 4000000 in
theorem bd_mm_sonnet_l57 {x : kX} {l0 : Launch} {Q : State → Prop} (C : kCx x prog_14_method_93_code "PoetFinesModel" (some .int) kcl yM 9 l0 R0_mm_sonnet) (σ : kM) (x1 : Int) (x2 : Int) (x3 : Int) (x4 : Int) (x5 : Int) (x6 : Int) (x7 : Int) (x8 : Int) {out : (kM × Int × Int × Int) ⊕ ((kM × Int × Int))} (h : mm_sonnet_l57 σ x1 x2 x3 x4 x5 x6 x7 x8 = some out) (hC : ∀ (σ' : kM) (x6' : Int) (x7' : Int) (x8' : Int), out = Sum.inl (σ', x6', x7', x8') → KW x 0 0 Q σ' 57 [some (kr 0), some (ki x1), some (ki x2), some (ki x3), some (ki x4), some (ki x5), some (ki x6'), some (ki x7'), some (ki x8')] []) (hX114 : ∀ (σ' : kM) (x6' : Int) (x7' : Int), out = Sum.inr (σ', x6', x7') → KW x 0 0 Q σ' 114 [some (kr 0), some (ki x1), some (ki x2), some (ki x3), some (ki x4), some (ki x5), some (ki x6'), some (ki x7'), none] []) : KW x 0 0 Q σ 57 [some (kr 0), some (ki x1), some (ki x2), some (ki x3), some (ki x4), some (ki x5), some (ki x6), some (ki x7), some (ki x8)] [] := by
  unfold mm_sonnet_l57 at h
  refine kw_iload C (kdec dc_M_sonnet 36 rfl) 59 rfl rfl ?_
  refine kw_aload_n C (kdec dc_M_sonnet 37 rfl) rfl 60 rfl rfl ?_
  refine kw_getR C (kdec dc_M_sonnet 38 rfl) 63 rfl fd_M_M_48_0 ?_
  refine kw_bipush (v := 61) C (kdec dc_M_sonnet 39 rfl) 65 rfl (by decide) ⟨by decide, by decide⟩ ?_
  refine kw_iload_n C (kdec dc_M_sonnet 40 rfl) rfl 66 rfl rfl ?_
  refine kw_iadd C (kdec dc_M_sonnet 41 rfl) 67 rfl ?_
  obtain ⟨hc_7, h⟩ := kchk_h h
  refine kw_iald C (kdec dc_M_sonnet 42 rfl) 68 rfl rfl hc_7.1 hc_7.2 ?_
  refine kw_icmp_ge C (kdec dc_M_sonnet 43 rfl) 114 71 (by decide) rfl (fun hc68 => ?_) (fun hc68 => ?_)
  · rw [if_pos hc68] at h
    obtain rfl := Option.some.inj h
    exact kw_sub (L' := [some (kr 0), some (ki x1), some (ki x2), some (ki x3), some (ki x4), some (ki x5), some (ki x6), some (ki x7), none]) ⟨rfl, rfl, rfl, rfl, rfl, rfl, rfl, rfl, trivial⟩ (hX114 _ _ _ rfl)
  · rw [if_neg hc68] at h
    refine kw_iload C (kdec dc_M_sonnet 44 rfl) 73 rfl rfl ?_
    refine kw_iload C (kdec dc_M_sonnet 45 rfl) 75 rfl rfl ?_
    refine kw_ishr C (kdec dc_M_sonnet 46 rfl) 76 rfl ?_
    refine kw_iconst C (kdec dc_M_sonnet 47 rfl) 77 rfl rfl ⟨by decide, by decide⟩ ?_
    refine kw_iand C (kdec dc_M_sonnet 48 rfl) 78 rfl ?_
    refine kw_if_ne C (kdec dc_M_sonnet 49 rfl) 84 81 (by decide) rfl (fun hc78 => ?_) (fun hc78 => ?_)
    · rw [if_neg hc78] at h
      refine kw_iload C (kdec dc_M_sonnet 51 rfl) 86 rfl rfl ?_
      refine kw_aload_n C (kdec dc_M_sonnet 52 rfl) rfl 87 rfl rfl ?_
      refine kw_iload_n C (kdec dc_M_sonnet 53 rfl) rfl 88 rfl rfl ?_
      refine kw_iload C (kdec dc_M_sonnet 54 rfl) 90 rfl rfl ?_
      obtain ⟨⟨r_8, σ_9⟩, hg_16, h⟩ := kbind_h h
      dsimp only at h
      refine kw_callV (As := [ki x1, ki x8]) C (kdec dc_M_sonnet 55 rfl) 93 rfl cv_M_389 rfl rfl (mt_mm_fineAll l0 hg_16) ⟨rfl, rfl⟩ ⟨Nat.le_of_ble_eq_true rfl, Nat.le_of_ble_eq_true rfl⟩ ⟨Nat.zero_le _, Nat.zero_le _⟩ rfl (Nat.le_of_ble_eq_true rfl) ?_
      change KW x 0 0 Q σ_9 93 [some (kr 0), some (ki x1), some (ki x2), some (ki x3), some (ki x4), some (ki x5), some (ki x6), some (ki x7), some (ki x8)] [ki r_8, ki x6]
      refine kw_iadd C (kdec dc_M_sonnet 56 rfl) 94 rfl ?_
      obtain ⟨x6_10, ex6_10, h⟩ := klet_h h
      refine kw_top ex6_10 ?_
      refine kw_istore (L' := [some (kr 0), some (ki x1), some (ki x2), some (ki x3), some (ki x4), some (ki x5), some (ki x6_10), some (ki x7), some (ki x8)]) C (kdec dc_M_sonnet 57 rfl) 96 rfl (by decide) rfl rfl ?_
      refine kw_iload C (kdec dc_M_sonnet 58 rfl) 98 rfl rfl ?_
      refine kw_aload_n C (kdec dc_M_sonnet 59 rfl) rfl 99 rfl rfl ?_
      refine kw_iload_n C (kdec dc_M_sonnet 60 rfl) rfl 100 rfl rfl ?_
      refine kw_iload C (kdec dc_M_sonnet 61 rfl) 102 rfl rfl ?_
      obtain ⟨⟨r_11, σ_12⟩, hg_15, h⟩ := kbind_h h
      dsimp only at h
      refine kw_callV (As := [ki x1, ki x8]) C (kdec dc_M_sonnet 62 rfl) 105 rfl cv_M_392 rfl rfl (mt_mm_intoAll l0 hg_15) ⟨rfl, rfl⟩ ⟨Nat.le_of_ble_eq_true rfl, Nat.le_of_ble_eq_true rfl⟩ ⟨Nat.zero_le _, Nat.zero_le _⟩ rfl (Nat.le_of_ble_eq_true rfl) ?_
      change KW x 0 0 Q σ_12 105 [some (kr 0), some (ki x1), some (ki x2), some (ki x3), some (ki x4), some (ki x5), some (ki x6_10), some (ki x7), some (ki x8)] [ki r_11, ki x7]
      refine kw_iadd C (kdec dc_M_sonnet 63 rfl) 106 rfl ?_
      obtain ⟨x7_13, ex7_13, h⟩ := klet_h h
      refine kw_top ex7_13 ?_
      refine kw_istore (L' := [some (kr 0), some (ki x1), some (ki x2), some (ki x3), some (ki x4), some (ki x5), some (ki x6_10), some (ki x7_13), some (ki x8)]) C (kdec dc_M_sonnet 64 rfl) 108 rfl (by decide) rfl rfl ?_
      exact bd_mm_sonnet_l57_j108 C σ_12 x1 x2 x3 x4 x5 x6_10 x7_13 x8 h hC hX114
    · rw [if_pos hc78] at h
      refine kw_goto C (kdec dc_M_sonnet 50 rfl) 108 (by decide) ?_
      exact bd_mm_sonnet_l57_j108 C σ x1 x2 x3 x4 x5 x6 x7 x8 h hC hX114
theorem lp_mm_sonnet_l57 {x : kX} {l0 : Launch} {Q : State → Prop} (C : kCx x prog_14_method_93_code "PoetFinesModel" (some .int) kcl yM 9 l0 R0_mm_sonnet) (x1 : Int) (x2 : Int) (x3 : Int) (x4 : Int) (x5 : Int) {ex : (kM × Int × Int)} (hX114 : ∀ (σ' : kM) (x6' : Int) (x7' : Int), ex = (σ', x6', x7') → KW x 0 0 Q σ' 114 [some (kr 0), some (ki x1), some (ki x2), some (ki x3), some (ki x4), some (ki x5), some (ki x6'), some (ki x7'), none] []) (n : Nat) (σ : kM) (x6 : Int) (x7 : Int) (x8 : Int) (h : kloop (fun st => mm_sonnet_l57 st.1 x1 x2 x3 x4 x5 st.2.1 st.2.2.1 st.2.2.2) n (σ, x6, x7, x8) = some ex) : KW x 0 0 Q σ 57 [some (kr 0), some (ki x1), some (ki x2), some (ki x3), some (ki x4), some (ki x5), some (ki x6), some (ki x7), some (ki x8)] [] :=
  kloop_ind (P := (fun st : kM × Int × Int × Int => KW x 0 0 Q st.1 57 [some (kr 0), some (ki x1), some (ki x2), some (ki x3), some (ki x4), some (ki x5), some (ki (st.2.1)), some (ki (st.2.2.1)), some (ki (st.2.2.2))] [])) (fun st out hb hc hx => bd_mm_sonnet_l57 C st.1 x1 x2 x3 x4 x5 st.2.1 st.2.2.1 st.2.2.2 hb (fun a0 a1 a2 a3 e => hc _ e) (fun a0 a1 a2 e => hX114 _ _ _ ((hx _ e).symm))) n (σ, x6, x7, x8) h
def mm_sonnet_l32_j145 (σ : kM) (x1 : Int) (x2 : Int) (x3 : Int) (x4 : Int) (x5 : Int) : Option ((kM × Int × Int × Int) ⊕ ((kM × Int × Int))) :=
  klet (w32 (x5 + 1)) fun x5_23 =>
  some (Sum.inl (σ, x3, x4, x5_23))
set_option maxHeartbeats 4000000 in
theorem bd_mm_sonnet_l32_j145 {x : kX} {l0 : Launch} {Q : State → Prop} (C : kCx x prog_14_method_93_code "PoetFinesModel" (some .int) kcl yM 9 l0 R0_mm_sonnet) (σ : kM) (x1 : Int) (x2 : Int) (x3 : Int) (x4 : Int) (x5 : Int) {out : (kM × Int × Int × Int) ⊕ ((kM × Int × Int))} (h : mm_sonnet_l32_j145 σ x1 x2 x3 x4 x5 = some out) (hC : ∀ (σ' : kM) (x3' : Int) (x4' : Int) (x5' : Int), out = Sum.inl (σ', x3', x4', x5') → KW x 0 0 Q σ' 32 [some (kr 0), some (ki x1), some (ki x2), some (ki x3'), some (ki x4'), some (ki x5'), none, none, none] []) (hX151 : ∀ (σ' : kM) (x3' : Int) (x4' : Int), out = Sum.inr (σ', x3', x4') → KW x 0 0 Q σ' 151 [none, none, some (ki x2), some (ki x3'), some (ki x4'), none, none, none, none] []) : KW x 0 0 Q σ 145 [some (kr 0), some (ki x1), some (ki x2), some (ki x3), some (ki x4), some (ki x5), none, none, none] [] := by
  unfold mm_sonnet_l32_j145 at h
  obtain ⟨x5_23, ex5_23, h⟩ := klet_h h
  refine kw_iinc (L' := [some (kr 0), some (ki x1), some (ki x2), some (ki x3), some (ki x4), some (ki x5_23), none, none, none]) C (kdec dc_M_sonnet 83 rfl) 148 rfl rfl (by decide) rfl (by rw [ex5_23]; rfl) ?_
  refine kw_goto C (kdec dc_M_sonnet 84 rfl) 32 (by decide) ?_
  obtain rfl := Option.some.inj h
  exact (hC _ _ _ _ rfl)
def mm_sonnet_l32 (σ : kM) (x1 : Int) (x2 : Int) (x3 : Int) (x4 : Int) (x5 : Int) : Option ((kM × Int × Int × Int) ⊕ ((kM × Int × Int))) :=
  kchk (0 ≤ (w32 (61 + x1)) ∧ (w32 (61 + x1)) < 290) <|
  if (kshl 1 (σ 8 (w32 (61 + x1)).toNat)) ≤ x5 then
    some (Sum.inr (σ, x3, x4))
  else
    (kloop (fun st => mm_sonnet_l57 st.1 x1 x2 x3 x4 x5 st.2.1 st.2.2.1 st.2.2.2) kFuel (σ, 0, 0, 0)).bind fun (σ_19, x6_20, x7_21) =>
    kchk (0 ≤ (w32 (17 + x1)) ∧ (w32 (17 + x1)) < 290) <|
    if (σ_19 8 (w32 (17 + x1)).toNat) < x6_20 then
      mm_sonnet_l32_j145 σ_19 x1 x2 x3 x4 x5
    else
      if x4 < x7_21 then
        mm_sonnet_l32_j145 σ_19 x1 x2 x5 x7_21 x5
      else
        mm_sonnet_l32_j145 σ_19 x1 x2 x3 x4 x5
set_option maxHeartbeats 4000000 in
theorem bd_mm_sonnet_l32 {x : kX} {l0 : Launch} {Q : State → Prop} (C : kCx x prog_14_method_93_code "PoetFinesModel" (some .int) kcl yM 9 l0 R0_mm_sonnet) (σ : kM) (x1 : Int) (x2 : Int) (x3 : Int) (x4 : Int) (x5 : Int) {out : (kM × Int × Int × Int) ⊕ ((kM × Int × Int))} (h : mm_sonnet_l32 σ x1 x2 x3 x4 x5 = some out) (hC : ∀ (σ' : kM) (x3' : Int) (x4' : Int) (x5' : Int), out = Sum.inl (σ', x3', x4', x5') → KW x 0 0 Q σ' 32 [some (kr 0), some (ki x1), some (ki x2), some (ki x3'), some (ki x4'), some (ki x5'), none, none, none] []) (hX151 : ∀ (σ' : kM) (x3' : Int) (x4' : Int), out = Sum.inr (σ', x3', x4') → KW x 0 0 Q σ' 151 [none, none, some (ki x2), some (ki x3'), some (ki x4'), none, none, none, none] []) : KW x 0 0 Q σ 32 [some (kr 0), some (ki x1), some (ki x2), some (ki x3), some (ki x4), some (ki x5), none, none, none] [] := by
  unfold mm_sonnet_l32 at h
  refine kw_iload C (kdec dc_M_sonnet 20 rfl) 34 rfl rfl ?_
  refine kw_iconst C (kdec dc_M_sonnet 21 rfl) 35 rfl rfl ⟨by decide, by decide⟩ ?_
  refine kw_aload_n C (kdec dc_M_sonnet 22 rfl) rfl 36 rfl rfl ?_
  refine kw_getR C (kdec dc_M_sonnet 23 rfl) 39 rfl fd_M_M_48_0 ?_
  refine kw_bipush (v := 61) C (kdec dc_M_sonnet 24 rfl) 41 rfl (by decide) ⟨by decide, by decide⟩ ?_
  refine kw_iload_n C (kdec dc_M_sonnet 25 rfl) rfl 42 rfl rfl ?_
  refine kw_iadd C (kdec dc_M_sonnet 26 rfl) 43 rfl ?_
  obtain ⟨hc_6, h⟩ := kchk_h h
  refine kw_iald C (kdec dc_M_sonnet 27 rfl) 44 rfl rfl hc_6.1 hc_6.2 ?_
  refine kw_ishl C (kdec dc_M_sonnet 28 rfl) 45 rfl ?_
  refine kw_icmp_ge C (kdec dc_M_sonnet 29 rfl) 151 48 (by decide) rfl (fun hc45 => ?_) (fun hc45 => ?_)
  · rw [if_pos hc45] at h
    obtain rfl := Option.some.inj h
    exact kw_sub (L' := [none, none, some (ki x2), some (ki x3), some (ki x4), none, none, none, none]) ⟨rfl, rfl, rfl, trivial⟩ (hX151 _ _ _ rfl)
  · rw [if_neg hc45] at h
    refine kw_iconst C (kdec dc_M_sonnet 30 rfl) 49 rfl rfl ⟨by decide, by decide⟩ ?_
    refine kw_istore (L' := [some (kr 0), some (ki x1), some (ki x2), some (ki x3), some (ki x4), some (ki x5), some (ki 0), none, none]) C (kdec dc_M_sonnet 31 rfl) 51 rfl (by decide) rfl rfl ?_
    refine kw_iconst C (kdec dc_M_sonnet 32 rfl) 52 rfl rfl ⟨by decide, by decide⟩ ?_
    refine kw_istore (L' := [some (kr 0), some (ki x1), some (ki x2), some (ki x3), some (ki x4), some (ki x5), some (ki 0), some (ki 0), none]) C (kdec dc_M_sonnet 33 rfl) 54 rfl (by decide) rfl rfl ?_
    refine kw_iconst C (kdec dc_M_sonnet 34 rfl) 55 rfl rfl ⟨by decide, by decide⟩ ?_
    refine kw_istore (L' := [some (kr 0), some (ki x1), some (ki x2), some (ki x3), some (ki x4), some (ki x5), some (ki 0), some (ki 0), some (ki 0)]) C (kdec dc_M_sonnet 35 rfl) 57 rfl (by decide) rfl rfl ?_
    obtain ⟨ex_17, hl_18, h⟩ := kbind_h h
    refine lp_mm_sonnet_l57 C x1 x2 x3 x4 x5 ?_ kFuel σ 0 0 0 hl_18
    · intro σ_19 x6_20 x7_21 e
      subst ex_17
      try dsimp only at h
      refine kw_iload C (kdec dc_M_sonnet 67 rfl) 116 rfl rfl ?_
      refine kw_aload_n C (kdec dc_M_sonnet 68 rfl) rfl 117 rfl rfl ?_
      refine kw_getR C (kdec dc_M_sonnet 69 rfl) 120 rfl fd_M_M_48_0 ?_
      refine kw_bipush (v := 17) C (kdec dc_M_sonnet 70 rfl) 122 rfl (by decide) ⟨by decide, by decide⟩ ?_
      refine kw_iload_n C (kdec dc_M_sonnet 71 rfl) rfl 123 rfl rfl ?_
      refine kw_iadd C (kdec dc_M_sonnet 72 rfl) 124 rfl ?_
      obtain ⟨hc_22, h⟩ := kchk_h h
      refine kw_iald C (kdec dc_M_sonnet 73 rfl) 125 rfl rfl hc_22.1 hc_22.2 ?_
      refine kw_icmp_gt C (kdec dc_M_sonnet 74 rfl) 145 128 (by decide) rfl (fun hc125 => ?_) (fun hc125 => ?_)
      · rw [if_pos hc125] at h
        exact kw_sub (L' := [some (kr 0), some (ki x1), some (ki x2), some (ki x3), some (ki x4), some (ki x5), none, none, none]) ⟨rfl, rfl, rfl, rfl, rfl, rfl, trivial⟩ (bd_mm_sonnet_l32_j145 C σ_19 x1 x2 x3 x4 x5 h hC hX151)
      · rw [if_neg hc125] at h
        refine kw_iload C (kdec dc_M_sonnet 75 rfl) 130 rfl rfl ?_
        refine kw_iload C (kdec dc_M_sonnet 76 rfl) 132 rfl rfl ?_
        refine kw_icmp_gt C (kdec dc_M_sonnet 77 rfl) 138 135 (by decide) rfl (fun hc132 => ?_) (fun hc132 => ?_)
        · rw [if_pos hc132] at h
          refine kw_iload C (kdec dc_M_sonnet 79 rfl) 140 rfl rfl ?_
          refine kw_istore_n (L' := [some (kr 0), some (ki x1), some (ki x2), some (ki x5), some (ki x4), some (ki x5), some (ki x6_20), some (ki x7_21), none]) C (kdec dc_M_sonnet 80 rfl) rfl 141 rfl (by decide) rfl rfl ?_
          refine kw_iload C (kdec dc_M_sonnet 81 rfl) 143 rfl rfl ?_
          refine kw_istore (L' := [some (kr 0), some (ki x1), some (ki x2), some (ki x5), some (ki x7_21), some (ki x5), some (ki x6_20), some (ki x7_21), none]) C (kdec dc_M_sonnet 82 rfl) 145 rfl (by decide) rfl rfl ?_
          exact kw_sub (L' := [some (kr 0), some (ki x1), some (ki x2), some (ki x5), some (ki x7_21), some (ki x5), none, none, none]) ⟨rfl, rfl, rfl, rfl, rfl, rfl, trivial⟩ (bd_mm_sonnet_l32_j145 C σ_19 x1 x2 x5 x7_21 x5 h hC hX151)
        · rw [if_neg hc132] at h
          refine kw_goto C (kdec dc_M_sonnet 78 rfl) 145 (by decide) ?_
          exact kw_sub (L' := [some (kr 0), some (ki x1), some (ki x2), some (ki x3), some (ki x4), some (ki x5), none, none, none]) ⟨rfl, rfl, rfl, rfl, rfl, rfl, trivial⟩ (bd_mm_sonnet_l32_j145 C σ_19 x1 x2 x3 x4 x5 h hC hX151)
theorem lp_mm_sonnet_l32 {x : kX} {l0 : Launch} {Q : State → Prop} (C : kCx x prog_14_method_93_code "PoetFinesModel" (some .int) kcl yM 9 l0 R0_mm_sonnet) (x1 : Int) (x2 : Int) {ex : (kM × Int × Int)} (hX151 : ∀ (σ' : kM) (x3' : Int) (x4' : Int), ex = (σ', x3', x4') → KW x 0 0 Q σ' 151 [none, none, some (ki x2), some (ki x3'), some (ki x4'), none, none, none, none] []) (n : Nat) (σ : kM) (x3 : Int) (x4 : Int) (x5 : Int) (h : kloop (fun st => mm_sonnet_l32 st.1 x1 x2 st.2.1 st.2.2.1 st.2.2.2) n (σ, x3, x4, x5) = some ex) : KW x 0 0 Q σ 32 [some (kr 0), some (ki x1), some (ki x2), some (ki x3), some (ki x4), some (ki x5), none, none, none] [] :=
  kloop_ind (P := (fun st : kM × Int × Int × Int => KW x 0 0 Q st.1 32 [some (kr 0), some (ki x1), some (ki x2), some (ki (st.2.1)), some (ki (st.2.2.1)), some (ki (st.2.2.2)), none, none, none] [])) (fun st out hb hc hx => bd_mm_sonnet_l32 C st.1 x1 x2 st.2.1 st.2.2.1 st.2.2.2 hb (fun a0 a1 a2 a3 e => hc _ e) (fun a0 a1 a2 e => hX151 _ _ _ ((hx _ e).symm))) n (σ, x3, x4, x5) h
def mm_sonnet (σ : kM) (x1 : Int) (x2 : Int) : Option (Int × kM) :=
  klet (kst σ 0 (kup (σ 0) 0 0)) fun σ_1 =>
  (mm_isPoet σ_1 x1).bind fun (r_2, σ_3) =>
  if r_2 = 0 then
    some ((0, σ_3))
  else
    (mm_isWhat σ_3 x2 1).bind fun (r_4, σ_5) =>
    if r_4 = 0 then
      some ((0, σ_5))
    else
      (kloop (fun st => mm_sonnet_l32 st.1 x1 x2 st.2.1 st.2.2.1 st.2.2.2) kFuel (σ_5, 0, 0, 1)).bind fun (σ_26, x3_27, x4_28) =>
      if x2 = 0 then
        some ((x4_28, σ_26))
      else
        some ((x3_27, σ_26))
set_option maxHeartbeats 4000000 in
theorem bd_mm_sonnet {x : kX} {l0 : Launch} {Q : State → Prop} (C : kCx x prog_14_method_93_code "PoetFinesModel" (some .int) kcl yM 9 l0 R0_mm_sonnet) (σ : kM) (x1 : Int) (x2 : Int) {out : Int × kM} (h : mm_sonnet σ x1 x2 = some out) (hR : ∀ (r : Int) (τ : kM), out = (r, τ) → Q = kQ x (some (ki r)) τ 0 0) : KW x 0 0 Q σ 0 [some (kr 0), some (ki x1), some (ki x2), none, none, none, none, none, none] [] := by
  unfold mm_sonnet at h
  refine kw_aload_n C (kdec dc_M_sonnet 0 rfl) rfl 1 rfl rfl ?_
  refine kw_iconst C (kdec dc_M_sonnet 1 rfl) 2 rfl rfl ⟨by decide, by decide⟩ ?_
  obtain ⟨σ_1, eσ_1, h⟩ := klet_h h
  refine kw_putI C (kdec dc_M_sonnet 2 rfl) 5 rfl fp_M_M_99_0 ?_
  refine kw_sig eσ_1 ?_
  refine kw_aload_n C (kdec dc_M_sonnet 3 rfl) rfl 6 rfl rfl ?_
  refine kw_iload_n C (kdec dc_M_sonnet 4 rfl) rfl 7 rfl rfl ?_
  obtain ⟨⟨r_2, σ_3⟩, hg_30, h⟩ := kbind_h h
  dsimp only at h
  refine kw_callV (As := [ki x1]) C (kdec dc_M_sonnet 5 rfl) 10 rfl cv_M_367 rfl rfl (mt_mm_isPoet l0 hg_30) ⟨rfl, rfl⟩ ⟨Nat.le_of_ble_eq_true rfl, Nat.le_of_ble_eq_true rfl⟩ ⟨Nat.zero_le _, Nat.zero_le _⟩ rfl (Nat.le_of_ble_eq_true rfl) ?_
  change KW x 0 0 Q σ_3 10 [some (kr 0), some (ki x1), some (ki x2), none, none, none, none, none, none] [ki r_2]
  refine kw_if_eq C (kdec dc_M_sonnet 6 rfl) 22 13 (by decide) rfl (fun hc10 => ?_) (fun hc10 => ?_)
  · rw [if_pos hc10] at h
    refine kw_iconst C (kdec dc_M_sonnet 12 rfl) 23 rfl rfl ⟨by decide, by decide⟩ ?_
    obtain rfl := Option.some.inj h
    exact kw_Q (hR _ _ rfl) (kw_ireturn C (kdec dc_M_sonnet 13 rfl))
  · rw [if_neg hc10] at h
    refine kw_aload_n C (kdec dc_M_sonnet 7 rfl) rfl 14 rfl rfl ?_
    refine kw_iload_n C (kdec dc_M_sonnet 8 rfl) rfl 15 rfl rfl ?_
    refine kw_iconst C (kdec dc_M_sonnet 9 rfl) 16 rfl rfl ⟨by decide, by decide⟩ ?_
    obtain ⟨⟨r_4, σ_5⟩, hg_29, h⟩ := kbind_h h
    dsimp only at h
    refine kw_callV (As := [ki x2, ki 1]) C (kdec dc_M_sonnet 10 rfl) 19 rfl cv_M_376 rfl rfl (mt_mm_isWhat l0 hg_29) ⟨rfl, rfl⟩ ⟨Nat.le_of_ble_eq_true rfl, Nat.le_of_ble_eq_true rfl⟩ ⟨Nat.zero_le _, Nat.zero_le _⟩ rfl (Nat.le_of_ble_eq_true rfl) ?_
    change KW x 0 0 Q σ_5 19 [some (kr 0), some (ki x1), some (ki x2), none, none, none, none, none, none] [ki r_4]
    refine kw_if_ne C (kdec dc_M_sonnet 11 rfl) 24 22 (by decide) rfl (fun hc19 => ?_) (fun hc19 => ?_)
    · rw [if_neg hc19] at h
      refine kw_iconst C (kdec dc_M_sonnet 14 rfl) 25 rfl rfl ⟨by decide, by decide⟩ ?_
      refine kw_istore_n (L' := [some (kr 0), some (ki x1), some (ki x2), some (ki 0), none, none, none, none, none]) C (kdec dc_M_sonnet 15 rfl) rfl 26 rfl (by decide) rfl rfl ?_
      refine kw_iconst C (kdec dc_M_sonnet 16 rfl) 27 rfl rfl ⟨by decide, by decide⟩ ?_
      refine kw_istore (L' := [some (kr 0), some (ki x1), some (ki x2), some (ki 0), some (ki 0), none, none, none, none]) C (kdec dc_M_sonnet 17 rfl) 29 rfl (by decide) rfl rfl ?_
      refine kw_iconst C (kdec dc_M_sonnet 18 rfl) 30 rfl rfl ⟨by decide, by decide⟩ ?_
      refine kw_istore (L' := [some (kr 0), some (ki x1), some (ki x2), some (ki 0), some (ki 0), some (ki 1), none, none, none]) C (kdec dc_M_sonnet 19 rfl) 32 rfl (by decide) rfl rfl ?_
      obtain ⟨ex_24, hl_25, h⟩ := kbind_h h
      refine lp_mm_sonnet_l32 C x1 x2 ?_ kFuel σ_5 0 0 1 hl_25
      · intro σ_26 x3_27 x4_28 e
        subst ex_24
        try dsimp only at h
        refine kw_iload_n C (kdec dc_M_sonnet 85 rfl) rfl 152 rfl rfl ?_
        refine kw_if_ne C (kdec dc_M_sonnet 86 rfl) 160 155 (by decide) rfl (fun hc152 => ?_) (fun hc152 => ?_)
        · rw [if_neg hc152] at h
          refine kw_iload_n C (kdec dc_M_sonnet 89 rfl) rfl 161 rfl rfl ?_
          obtain rfl := Option.some.inj h
          exact kw_Q (hR _ _ rfl) (kw_ireturn C (kdec dc_M_sonnet 90 rfl))
        · rw [if_pos hc152] at h
          refine kw_iload C (kdec dc_M_sonnet 87 rfl) 157 rfl rfl ?_
          refine kw_goto C (kdec dc_M_sonnet 88 rfl) 161 (by decide) ?_
          obtain rfl := Option.some.inj h
          exact kw_Q (hR _ _ rfl) (kw_ireturn C (kdec dc_M_sonnet 90 rfl))
    · rw [if_pos hc19] at h
      refine kw_iconst C (kdec dc_M_sonnet 12 rfl) 23 rfl rfl ⟨by decide, by decide⟩ ?_
      obtain rfl := Option.some.inj h
      exact kw_Q (hR _ _ rfl) (kw_ireturn C (kdec dc_M_sonnet 13 rfl))
theorem mt_mm_sonnet (l0 : Launch) {σ : kM} {x1 : Int} {x2 : Int} {r : Int} {τ : kM} (h : mm_sonnet σ x1 x2 = some (r, τ)) : kMet l0 ky_M_sonnet prog_14_method_93_code 9 (some .int) R0_mm_sonnet kcl yM σ [kr 0, ki x1, ki x2] (some (ki r)) τ := kMet.of' [some (kr 0), some (ki x1), some (ki x2), none, none, none, none, none, none] (by decide) (Nat.le_of_ble_eq_true rfl) ⟨rfl, rfl, rfl, trivial⟩ (fun x C => bd_mm_sonnet C σ x1 x2 h (fun r τ e => by cases e; rfl))

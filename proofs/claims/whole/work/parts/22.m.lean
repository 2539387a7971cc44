def R0_mm_closes : Room := ({ frames := 2, cells := 0, slots := 0, locals := 42 } : Room)
def mm_closes (σ : kM) : Option (kM) :=
  (mm_drops σ 0).bind fun σ_1 =>
  klet (kst σ_1 0 (kup (σ_1 0) 30 (w32 ((σ_1 0 30) - 1)))) fun σ_2 =>
  klet (kst σ_2 0 (kup (σ_2 0) 31 (w32 ((σ_2 0 31) - 1)))) fun σ_3 =>
  (mm_goes σ_3).bind fun σ_4 =>
  some σ_4
set_option maxHeartbeats 4000000 in
theorem bd_mm_closes {x : kX} {l0 : Launch} {Q : State → Prop} (C : kCx x prog_14_method_33_code "PoetFinesModel" none kcl yM 1 l0 R0_mm_closes) (σ : kM) {out : kM} (h : mm_closes σ = some out) (hR : ∀ (τ : kM), out = τ → Q = kQ x none τ 0 0) : KW x 0 0 Q σ 0 [some (kr 0)] [] := by
  unfold mm_closes at h
  refine kw_aload_n C (kdec dc_M_closes 0 rfl) rfl 1 rfl rfl ?_
  refine kw_iconst C (kdec dc_M_closes 1 rfl) 2 rfl rfl ⟨by decide, by decide⟩ ?_
  obtain ⟨σ_1, hg_6, h⟩ := kbind_h h
  refine kw_callV (As := [ki 0]) C (kdec dc_M_closes 2 rfl) 5 rfl cv_M_211 rfl rfl (mt_mm_drops l0 hg_6) ⟨rfl, rfl⟩ ⟨Nat.le_of_ble_eq_true rfl, Nat.le_of_ble_eq_true rfl⟩ ⟨Nat.zero_le _, Nat.zero_le _⟩ rfl (Nat.le_of_ble_eq_true rfl) ?_
  change KW x 0 0 Q σ_1 5 [some (kr 0)] []
  refine kw_aload_n C (kdec dc_M_closes 3 rfl) rfl 6 rfl rfl ?_
  refine kw_dup C (kdec dc_M_closes 4 rfl) 7 rfl rfl ?_
  refine kw_getI C (kdec dc_M_closes 5 rfl) 10 rfl fd_M_M_174_0 ?_
  refine kw_iconst C (kdec dc_M_closes 6 rfl) 11 rfl rfl ⟨by decide, by decide⟩ ?_
  refine kw_isub C (kdec dc_M_closes 7 rfl) 12 rfl ?_
  obtain ⟨σ_2, eσ_2, h⟩ := klet_h h
  refine kw_putI C (kdec dc_M_closes 8 rfl) 15 rfl fp_M_M_174_0 ?_
  refine kw_sig eσ_2 ?_
  refine kw_aload_n C (kdec dc_M_closes 9 rfl) rfl 16 rfl rfl ?_
  refine kw_dup C (kdec dc_M_closes 10 rfl) 17 rfl rfl ?_
  refine kw_getI C (kdec dc_M_closes 11 rfl) 20 rfl fd_M_M_196_0 ?_
  refine kw_iconst C (kdec dc_M_closes 12 rfl) 21 rfl rfl ⟨by decide, by decide⟩ ?_
  refine kw_isub C (kdec dc_M_closes 13 rfl) 22 rfl ?_
  obtain ⟨σ_3, eσ_3, h⟩ := klet_h h
  refine kw_putI C (kdec dc_M_closes 14 rfl) 25 rfl fp_M_M_196_0 ?_
  refine kw_sig eσ_3 ?_
  refine kw_aload_n C (kdec dc_M_closes 15 rfl) rfl 26 rfl rfl ?_
  obtain ⟨σ_4, hg_5, h⟩ := kbind_h h
  refine kw_callV (As := []) C (kdec dc_M_closes 16 rfl) 29 rfl cv_M_162 rfl rfl (mt_mm_goes l0 hg_5) ⟨rfl, rfl⟩ ⟨Nat.le_of_ble_eq_true rfl, Nat.le_of_ble_eq_true rfl⟩ ⟨Nat.zero_le _, Nat.zero_le _⟩ rfl (Nat.le_of_ble_eq_true rfl) ?_
  change KW x 0 0 Q σ_4 29 [some (kr 0)] []
  obtain rfl := Option.some.inj h
  exact kw_Q (hR _ rfl) (kw_return C (kdec dc_M_closes 17 rfl))
theorem mt_mm_closes (l0 : Launch) {σ : kM} {τ : kM} (h : mm_closes σ = some τ) : kMet l0 ky_M_closes prog_14_method_33_code 1 none R0_mm_closes kcl yM σ [kr 0] none τ := kMet.of' [some (kr 0)] (by decide) (Nat.le_of_ble_eq_true rfl) ⟨rfl, trivial⟩ (fun x C => bd_mm_closes C σ h (fun τ e => by subst e; rfl))
def R0_mm_expression : Room := ({ frames := 5, cells := 0, slots := 0, locals := 113 } : Room)
def mm_expression_l39_j337 (σ : kM) (x3 : Int) : Option ((kM × Int) ⊕ ((kM))) :=
  some (Sum.inl (σ, x3))
set_option maxHeartbeats 4000000 in
theorem bd_mm_expression_l39_j337 {x : kX} {l0 : Launch} {Q : State → Prop} (C : kCx x prog_14_method_34_code "PoetFinesModel" none kcl yM 5 l0 R0_mm_expression) (σ : kM) (x3 : Int) {out : (kM × Int) ⊕ ((kM))} (h : mm_expression_l39_j337 σ x3 = some out) (hC : ∀ (σ' : kM) (x3' : Int), out = Sum.inl (σ', x3') → KW x 0 0 Q σ' 39 [some (kr 0), none, none, some (ki x3'), none] []) (hX340 : ∀ (σ' : kM), out = Sum.inr σ' → KW x 0 0 Q σ' 340 [some (kr 0), none, none, none, none] []) : KW x 0 0 Q σ 337 [some (kr 0), none, none, some (ki x3), none] [] := by
  unfold mm_expression_l39_j337 at h
  refine kw_goto C (kdec dc_M_expression 167 rfl) 39 (by decide) ?_
  obtain rfl := Option.some.inj h
  exact (hC _ _ rfl)
def mm_expression_l39_j99 (σ : kM) (x3 : Int) (s0 : Int) : Option ((kM × Int) ⊕ ((kM))) :=
  (mm_waitsFor σ s0).bind fun σ_11 =>
  kchk (0 ≤ (σ_11 0 31) ∧ (σ_11 0 31) < 9) <|
  klet (kst σ_11 7 (kup (σ_11 7) ((σ_11 0 31).toNat) (kz1s 0))) fun σ_13 =>
  (mm_goes σ_13).bind fun σ_14 =>
  (mm_operand σ_14 1).bind fun σ_15 =>
  mm_expression_l39_j337 σ_15 x3
set_option maxHeartbeats 4000000 in
theorem bd_mm_expression_l39_j99 {x : kX} {l0 : Launch} {Q : State → Prop} (C : kCx x prog_14_method_34_code "PoetFinesModel" none kcl yM 5 l0 R0_mm_expression) (σ : kM) (x3 : Int) (s0 : Int) {out : (kM × Int) ⊕ ((kM))} (h : mm_expression_l39_j99 σ x3 s0 = some out) (hC : ∀ (σ' : kM) (x3' : Int), out = Sum.inl (σ', x3') → KW x 0 0 Q σ' 39 [some (kr 0), none, none, some (ki x3'), none] []) (hX340 : ∀ (σ' : kM), out = Sum.inr σ' → KW x 0 0 Q σ' 340 [some (kr 0), none, none, none, none] []) : KW x 0 0 Q σ 99 [some (kr 0), none, none, some (ki x3), none] [ki s0, kr 0] := by
  unfold mm_expression_l39_j99 at h
  obtain ⟨σ_11, hg_18, h⟩ := kbind_h h
  refine kw_callV (As := [ki s0]) C (kdec dc_M_expression 52 rfl) 102 rfl cv_M_202 rfl rfl (mt_mm_waitsFor l0 hg_18) ⟨rfl, rfl⟩ ⟨Nat.le_of_ble_eq_true rfl, Nat.le_of_ble_eq_true rfl⟩ ⟨Nat.zero_le _, Nat.zero_le _⟩ rfl (Nat.le_of_ble_eq_true rfl) ?_
  change KW x 0 0 Q σ_11 102 [some (kr 0), none, none, some (ki x3), none] []
  refine kw_aload_n C (kdec dc_M_expression 53 rfl) rfl 103 rfl rfl ?_
  refine kw_getR C (kdec dc_M_expression 54 rfl) 106 rfl fd_M_M_44_0 ?_
  refine kw_aload_n C (kdec dc_M_expression 55 rfl) rfl 107 rfl rfl ?_
  refine kw_getI C (kdec dc_M_expression 56 rfl) 110 rfl fd_M_M_196_0 ?_
  refine kw_iconst C (kdec dc_M_expression 57 rfl) 111 rfl rfl ⟨by decide, by decide⟩ ?_
  obtain ⟨hc_12, h⟩ := kchk_h h
  obtain ⟨σ_13, eσ_13, h⟩ := klet_h h
  refine kw_zast C (kdec dc_M_expression 58 rfl) 112 rfl rfl hc_12.1 hc_12.2 ?_
  refine kw_sig eσ_13 ?_
  refine kw_aload_n C (kdec dc_M_expression 59 rfl) rfl 113 rfl rfl ?_
  obtain ⟨σ_14, hg_17, h⟩ := kbind_h h
  refine kw_callV (As := []) C (kdec dc_M_expression 60 rfl) 116 rfl cv_M_162 rfl rfl (mt_mm_goes l0 hg_17) ⟨rfl, rfl⟩ ⟨Nat.le_of_ble_eq_true rfl, Nat.le_of_ble_eq_true rfl⟩ ⟨Nat.zero_le _, Nat.zero_le _⟩ rfl (Nat.le_of_ble_eq_true rfl) ?_
  change KW x 0 0 Q σ_14 116 [some (kr 0), none, none, some (ki x3), none] []
  refine kw_aload_n C (kdec dc_M_expression 61 rfl) rfl 117 rfl rfl ?_
  refine kw_iconst C (kdec dc_M_expression 62 rfl) 118 rfl rfl ⟨by decide, by decide⟩ ?_
  obtain ⟨σ_15, hg_16, h⟩ := kbind_h h
  refine kw_callV (As := [ki 1]) C (kdec dc_M_expression 63 rfl) 121 rfl cv_M_214 rfl rfl (mt_mm_operand l0 hg_16) ⟨rfl, rfl⟩ ⟨Nat.le_of_ble_eq_true rfl, Nat.le_of_ble_eq_true rfl⟩ ⟨Nat.zero_le _, Nat.zero_le _⟩ rfl (Nat.le_of_ble_eq_true rfl) ?_
  change KW x 0 0 Q σ_15 121 [some (kr 0), none, none, some (ki x3), none] []
  refine kw_goto C (kdec dc_M_expression 64 rfl) 337 (by decide) ?_
  exact bd_mm_expression_l39_j337 C σ_15 x3 h hC hX340
def mm_expression_l39_j83 (σ : kM) (x3 : Int) (x4 : Int) (s0 : Int) : Option ((kM × Int) ⊕ ((kM))) :=
  (mm_drops σ s0).bind fun σ_10 =>
  if x4 = 14 then
    mm_expression_l39_j99 σ_10 x3 4
  else
    mm_expression_l39_j99 σ_10 x3 5
set_option maxHeartbeats 4000000 in
theorem bd_mm_expression_l39_j83 {x : kX} {l0 : Launch} {Q : State → Prop} (C : kCx x prog_14_method_34_code "PoetFinesModel" none kcl yM 5 l0 R0_mm_expression) (σ : kM) (x3 : Int) (x4 : Int) (s0 : Int) {out : (kM × Int) ⊕ ((kM))} (h : mm_expression_l39_j83 σ x3 x4 s0 = some out) (hC : ∀ (σ' : kM) (x3' : Int), out = Sum.inl (σ', x3') → KW x 0 0 Q σ' 39 [some (kr 0), none, none, some (ki x3'), none] []) (hX340 : ∀ (σ' : kM), out = Sum.inr σ' → KW x 0 0 Q σ' 340 [some (kr 0), none, none, none, none] []) : KW x 0 0 Q σ 83 [some (kr 0), none, none, some (ki x3), some (ki x4)] [ki s0, kr 0] := by
  unfold mm_expression_l39_j83 at h
  obtain ⟨σ_10, hg_19, h⟩ := kbind_h h
  refine kw_callV (As := [ki s0]) C (kdec dc_M_expression 44 rfl) 86 rfl cv_M_211 rfl rfl (mt_mm_drops l0 hg_19) ⟨rfl, rfl⟩ ⟨Nat.le_of_ble_eq_true rfl, Nat.le_of_ble_eq_true rfl⟩ ⟨Nat.zero_le _, Nat.zero_le _⟩ rfl (Nat.le_of_ble_eq_true rfl) ?_
  change KW x 0 0 Q σ_10 86 [some (kr 0), none, none, some (ki x3), some (ki x4)] []
  refine kw_aload_n C (kdec dc_M_expression 45 rfl) rfl 87 rfl rfl ?_
  refine kw_iload C (kdec dc_M_expression 46 rfl) 89 rfl rfl ?_
  refine kw_bipush (v := 14) C (kdec dc_M_expression 47 rfl) 91 rfl (by decide) ⟨by decide, by decide⟩ ?_
  refine kw_icmp_ne C (kdec dc_M_expression 48 rfl) 98 94 (by decide) rfl (fun hc91 => ?_) (fun hc91 => ?_)
  · rw [if_neg hc91] at h
    refine kw_iconst C (kdec dc_M_expression 51 rfl) 99 rfl rfl ⟨by decide, by decide⟩ ?_
    exact kw_sub (L' := [some (kr 0), none, none, some (ki x3), none]) ⟨rfl, rfl, trivial⟩ (bd_mm_expression_l39_j99 C σ_10 x3 5 h hC hX340)
  · rw [if_pos hc91] at h
    refine kw_iconst C (kdec dc_M_expression 49 rfl) 95 rfl rfl ⟨by decide, by decide⟩ ?_
    refine kw_goto C (kdec dc_M_expression 50 rfl) 99 (by decide) ?_
    exact kw_sub (L' := [some (kr 0), none, none, some (ki x3), none]) ⟨rfl, rfl, trivial⟩ (bd_mm_expression_l39_j99 C σ_10 x3 4 h hC hX340)
def mm_expression_l39_j70 (σ : kM) (x3 : Int) (x4 : Int) : Option ((kM × Int) ⊕ ((kM))) :=
  if x4 = 14 then
    mm_expression_l39_j83 σ x3 x4 2
  else
    mm_expression_l39_j83 σ x3 x4 1
set_option maxHeartbeats 4000000 in
theorem bd_mm_expression_l39_j70 {x : kX} {l0 : Launch} {Q : State → Prop} (C : kCx x prog_14_method_34_code "PoetFinesModel" none kcl yM 5 l0 R0_mm_expression) (σ : kM) (x3 : Int) (x4 : Int) {out : (kM × Int) ⊕ ((kM))} (h : mm_expression_l39_j70 σ x3 x4 = some out) (hC : ∀ (σ' : kM) (x3' : Int), out = Sum.inl (σ', x3') → KW x 0 0 Q σ' 39 [some (kr 0), none, none, some (ki x3'), none] []) (hX340 : ∀ (σ' : kM), out = Sum.inr σ' → KW x 0 0 Q σ' 340 [some (kr 0), none, none, none, none] []) : KW x 0 0 Q σ 70 [some (kr 0), none, none, some (ki x3), some (ki x4)] [] := by
  unfold mm_expression_l39_j70 at h
  refine kw_aload_n C (kdec dc_M_expression 37 rfl) rfl 71 rfl rfl ?_
  refine kw_iload C (kdec dc_M_expression 38 rfl) 73 rfl rfl ?_
  refine kw_bipush (v := 14) C (kdec dc_M_expression 39 rfl) 75 rfl (by decide) ⟨by decide, by decide⟩ ?_
  refine kw_icmp_ne C (kdec dc_M_expression 40 rfl) 82 78 (by decide) rfl (fun hc75 => ?_) (fun hc75 => ?_)
  · rw [if_neg hc75] at h
    refine kw_iconst C (kdec dc_M_expression 43 rfl) 83 rfl rfl ⟨by decide, by decide⟩ ?_
    exact bd_mm_expression_l39_j83 C σ x3 x4 1 h hC hX340
  · rw [if_pos hc75] at h
    refine kw_iconst C (kdec dc_M_expression 41 rfl) 79 rfl rfl ⟨by decide, by decide⟩ ?_
    refine kw_goto C (kdec dc_M_expression 42 rfl) 83 (by decide) ?_
    exact bd_mm_expression_l39_j83 C σ x3 x4 2 h hC hX340
def mm_expression_l39_j241 (σ : kM) (x3 : Int) (s0 : Int) : Option ((kM × Int) ⊕ ((kM))) :=
  (mm_waitsFor σ s0).bind fun σ_25 =>
  (mm_goes σ_25).bind fun σ_26 =>
  (mm_operand σ_26 0).bind fun σ_27 =>
  mm_expression_l39_j337 σ_27 x3
set_option maxHeartbeats 4000000 in
theorem bd_mm_expression_l39_j241 {x : kX} {l0 : Launch} {Q : State → Prop} (C : kCx x prog_14_method_34_code "PoetFinesModel" none kcl yM 5 l0 R0_mm_expression) (σ : kM) (x3 : Int) (s0 : Int) {out : (kM × Int) ⊕ ((kM))} (h : mm_expression_l39_j241 σ x3 s0 = some out) (hC : ∀ (σ' : kM) (x3' : Int), out = Sum.inl (σ', x3') → KW x 0 0 Q σ' 39 [some (kr 0), none, none, some (ki x3'), none] []) (hX340 : ∀ (σ' : kM), out = Sum.inr σ' → KW x 0 0 Q σ' 340 [some (kr 0), none, none, none, none] []) : KW x 0 0 Q σ 241 [some (kr 0), none, none, some (ki x3), none] [ki s0, kr 0] := by
  unfold mm_expression_l39_j241 at h
  obtain ⟨σ_25, hg_30, h⟩ := kbind_h h
  refine kw_callV (As := [ki s0]) C (kdec dc_M_expression 122 rfl) 244 rfl cv_M_202 rfl rfl (mt_mm_waitsFor l0 hg_30) ⟨rfl, rfl⟩ ⟨Nat.le_of_ble_eq_true rfl, Nat.le_of_ble_eq_true rfl⟩ ⟨Nat.zero_le _, Nat.zero_le _⟩ rfl (Nat.le_of_ble_eq_true rfl) ?_
  change KW x 0 0 Q σ_25 244 [some (kr 0), none, none, some (ki x3), none] []
  refine kw_aload_n C (kdec dc_M_expression 123 rfl) rfl 245 rfl rfl ?_
  obtain ⟨σ_26, hg_29, h⟩ := kbind_h h
  refine kw_callV (As := []) C (kdec dc_M_expression 124 rfl) 248 rfl cv_M_162 rfl rfl (mt_mm_goes l0 hg_29) ⟨rfl, rfl⟩ ⟨Nat.le_of_ble_eq_true rfl, Nat.le_of_ble_eq_true rfl⟩ ⟨Nat.zero_le _, Nat.zero_le _⟩ rfl (Nat.le_of_ble_eq_true rfl) ?_
  change KW x 0 0 Q σ_26 248 [some (kr 0), none, none, some (ki x3), none] []
  refine kw_aload_n C (kdec dc_M_expression 125 rfl) rfl 249 rfl rfl ?_
  refine kw_iconst C (kdec dc_M_expression 126 rfl) 250 rfl rfl ⟨by decide, by decide⟩ ?_
  obtain ⟨σ_27, hg_28, h⟩ := kbind_h h
  refine kw_callV (As := [ki 0]) C (kdec dc_M_expression 127 rfl) 253 rfl cv_M_214 rfl rfl (mt_mm_operand l0 hg_28) ⟨rfl, rfl⟩ ⟨Nat.le_of_ble_eq_true rfl, Nat.le_of_ble_eq_true rfl⟩ ⟨Nat.zero_le _, Nat.zero_le _⟩ rfl (Nat.le_of_ble_eq_true rfl) ?_
  change KW x 0 0 Q σ_27 253 [some (kr 0), none, none, some (ki x3), none] []
  refine kw_goto C (kdec dc_M_expression 128 rfl) 337 (by decide) ?_
  exact bd_mm_expression_l39_j337 C σ_27 x3 h hC hX340
def mm_expression_l39_j219 (σ : kM) (x3 : Int) : Option ((kM × Int) ⊕ ((kM))) :=
  (mm_drops σ 5).bind fun σ_23 =>
  (mm_isSign σ_23 43).bind fun r_24 =>
  if r_24 = 0 then
    mm_expression_l39_j241 σ_23 x3 9
  else
    mm_expression_l39_j241 σ_23 x3 8
set_option maxHeartbeats 4000000 in
theorem bd_mm_expression_l39_j219 {x : kX} {l0 : Launch} {Q : State → Prop} (C : kCx x prog_14_method_34_code "PoetFinesModel" none kcl yM 5 l0 R0_mm_expression) (σ : kM) (x3 : Int) {out : (kM × Int) ⊕ ((kM))} (h : mm_expression_l39_j219 σ x3 = some out) (hC : ∀ (σ' : kM) (x3' : Int), out = Sum.inl (σ', x3') → KW x 0 0 Q σ' 39 [some (kr 0), none, none, some (ki x3'), none] []) (hX340 : ∀ (σ' : kM), out = Sum.inr σ' → KW x 0 0 Q σ' 340 [some (kr 0), none, none, none, none] []) : KW x 0 0 Q σ 219 [some (kr 0), none, none, some (ki x3), none] [] := by
  unfold mm_expression_l39_j219 at h
  refine kw_aload_n C (kdec dc_M_expression 111 rfl) rfl 220 rfl rfl ?_
  refine kw_iconst C (kdec dc_M_expression 112 rfl) 221 rfl rfl ⟨by decide, by decide⟩ ?_
  obtain ⟨σ_23, hg_32, h⟩ := kbind_h h
  refine kw_callV (As := [ki 5]) C (kdec dc_M_expression 113 rfl) 224 rfl cv_M_211 rfl rfl (mt_mm_drops l0 hg_32) ⟨rfl, rfl⟩ ⟨Nat.le_of_ble_eq_true rfl, Nat.le_of_ble_eq_true rfl⟩ ⟨Nat.zero_le _, Nat.zero_le _⟩ rfl (Nat.le_of_ble_eq_true rfl) ?_
  change KW x 0 0 Q σ_23 224 [some (kr 0), none, none, some (ki x3), none] []
  refine kw_aload_n C (kdec dc_M_expression 114 rfl) rfl 225 rfl rfl ?_
  refine kw_aload_n C (kdec dc_M_expression 115 rfl) rfl 226 rfl rfl ?_
  refine kw_bipush (v := 43) C (kdec dc_M_expression 116 rfl) 228 rfl (by decide) ⟨by decide, by decide⟩ ?_
  obtain ⟨r_24, hg_31, h⟩ := kbind_h h
  refine kw_callV (As := [ki 43]) C (kdec dc_M_expression 117 rfl) 231 rfl cv_M_199 rfl rfl (mt_mm_isSign l0 hg_31) ⟨rfl, rfl⟩ ⟨Nat.le_of_ble_eq_true rfl, Nat.le_of_ble_eq_true rfl⟩ ⟨Nat.zero_le _, Nat.zero_le _⟩ rfl (Nat.le_of_ble_eq_true rfl) ?_
  change KW x 0 0 Q σ_23 231 [some (kr 0), none, none, some (ki x3), none] [ki r_24, kr 0]
  refine kw_if_eq C (kdec dc_M_expression 118 rfl) 239 234 (by decide) rfl (fun hc231 => ?_) (fun hc231 => ?_)
  · rw [if_pos hc231] at h
    refine kw_bipush (v := 9) C (kdec dc_M_expression 121 rfl) 241 rfl (by decide) ⟨by decide, by decide⟩ ?_
    exact bd_mm_expression_l39_j241 C σ_23 x3 9 h hC hX340
  · rw [if_neg hc231] at h
    refine kw_bipush (v := 8) C (kdec dc_M_expression 119 rfl) 236 rfl (by decide) ⟨by decide, by decide⟩ ?_
    refine kw_goto C (kdec dc_M_expression 120 rfl) 241 (by decide) ?_
    exact bd_mm_expression_l39_j241 C σ_23 x3 8 h hC hX340
def mm_expression_l39_j297 (σ : kM) (x3 : Int) (s0 : Int) : Option ((kM × Int) ⊕ ((kM))) :=
  (mm_waitsFor σ s0).bind fun σ_37 =>
  (mm_goes σ_37).bind fun σ_38 =>
  (mm_operand σ_38 0).bind fun σ_39 =>
  mm_expression_l39_j337 σ_39 x3
set_option maxHeartbeats 4000000 in
theorem bd_mm_expression_l39_j297 {x : kX} {l0 : Launch} {Q : State → Prop} (C : kCx x prog_14_method_34_code "PoetFinesModel" none kcl yM 5 l0 R0_mm_expression) (σ : kM) (x3 : Int) (s0 : Int) {out : (kM × Int) ⊕ ((kM))} (h : mm_expression_l39_j297 σ x3 s0 = some out) (hC : ∀ (σ' : kM) (x3' : Int), out = Sum.inl (σ', x3') → KW x 0 0 Q σ' 39 [some (kr 0), none, none, some (ki x3'), none] []) (hX340 : ∀ (σ' : kM), out = Sum.inr σ' → KW x 0 0 Q σ' 340 [some (kr 0), none, none, none, none] []) : KW x 0 0 Q σ 297 [some (kr 0), none, none, some (ki x3), none] [ki s0, kr 0] := by
  unfold mm_expression_l39_j297 at h
  obtain ⟨σ_37, hg_42, h⟩ := kbind_h h
  refine kw_callV (As := [ki s0]) C (kdec dc_M_expression 148 rfl) 300 rfl cv_M_202 rfl rfl (mt_mm_waitsFor l0 hg_42) ⟨rfl, rfl⟩ ⟨Nat.le_of_ble_eq_true rfl, Nat.le_of_ble_eq_true rfl⟩ ⟨Nat.zero_le _, Nat.zero_le _⟩ rfl (Nat.le_of_ble_eq_true rfl) ?_
  change KW x 0 0 Q σ_37 300 [some (kr 0), none, none, some (ki x3), none] []
  refine kw_aload_n C (kdec dc_M_expression 149 rfl) rfl 301 rfl rfl ?_
  obtain ⟨σ_38, hg_41, h⟩ := kbind_h h
  refine kw_callV (As := []) C (kdec dc_M_expression 150 rfl) 304 rfl cv_M_162 rfl rfl (mt_mm_goes l0 hg_41) ⟨rfl, rfl⟩ ⟨Nat.le_of_ble_eq_true rfl, Nat.le_of_ble_eq_true rfl⟩ ⟨Nat.zero_le _, Nat.zero_le _⟩ rfl (Nat.le_of_ble_eq_true rfl) ?_
  change KW x 0 0 Q σ_38 304 [some (kr 0), none, none, some (ki x3), none] []
  refine kw_aload_n C (kdec dc_M_expression 151 rfl) rfl 305 rfl rfl ?_
  refine kw_iconst C (kdec dc_M_expression 152 rfl) 306 rfl rfl ⟨by decide, by decide⟩ ?_
  obtain ⟨σ_39, hg_40, h⟩ := kbind_h h
  refine kw_callV (As := [ki 0]) C (kdec dc_M_expression 153 rfl) 309 rfl cv_M_214 rfl rfl (mt_mm_operand l0 hg_40) ⟨rfl, rfl⟩ ⟨Nat.le_of_ble_eq_true rfl, Nat.le_of_ble_eq_true rfl⟩ ⟨Nat.zero_le _, Nat.zero_le _⟩ rfl (Nat.le_of_ble_eq_true rfl) ?_
  change KW x 0 0 Q σ_39 309 [some (kr 0), none, none, some (ki x3), none] []
  refine kw_goto C (kdec dc_M_expression 154 rfl) 337 (by decide) ?_
  exact bd_mm_expression_l39_j337 C σ_39 x3 h hC hX340
def mm_expression_l39_j274 (σ : kM) (x3 : Int) : Option ((kM × Int) ⊕ ((kM))) :=
  (mm_drops σ 6).bind fun σ_35 =>
  (mm_isSign σ_35 42).bind fun r_36 =>
  if r_36 = 0 then
    mm_expression_l39_j297 σ_35 x3 11
  else
    mm_expression_l39_j297 σ_35 x3 10
set_option maxHeartbeats 4000000 in
theorem bd_mm_expression_l39_j274 {x : kX} {l0 : Launch} {Q : State → Prop} (C : kCx x prog_14_method_34_code "PoetFinesModel" none kcl yM 5 l0 R0_mm_expression) (σ : kM) (x3 : Int) {out : (kM × Int) ⊕ ((kM))} (h : mm_expression_l39_j274 σ x3 = some out) (hC : ∀ (σ' : kM) (x3' : Int), out = Sum.inl (σ', x3') → KW x 0 0 Q σ' 39 [some (kr 0), none, none, some (ki x3'), none] []) (hX340 : ∀ (σ' : kM), out = Sum.inr σ' → KW x 0 0 Q σ' 340 [some (kr 0), none, none, none, none] []) : KW x 0 0 Q σ 274 [some (kr 0), none, none, some (ki x3), none] [] := by
  unfold mm_expression_l39_j274 at h
  refine kw_aload_n C (kdec dc_M_expression 137 rfl) rfl 275 rfl rfl ?_
  refine kw_bipush (v := 6) C (kdec dc_M_expression 138 rfl) 277 rfl (by decide) ⟨by decide, by decide⟩ ?_
  obtain ⟨σ_35, hg_44, h⟩ := kbind_h h
  refine kw_callV (As := [ki 6]) C (kdec dc_M_expression 139 rfl) 280 rfl cv_M_211 rfl rfl (mt_mm_drops l0 hg_44) ⟨rfl, rfl⟩ ⟨Nat.le_of_ble_eq_true rfl, Nat.le_of_ble_eq_true rfl⟩ ⟨Nat.zero_le _, Nat.zero_le _⟩ rfl (Nat.le_of_ble_eq_true rfl) ?_
  change KW x 0 0 Q σ_35 280 [some (kr 0), none, none, some (ki x3), none] []
  refine kw_aload_n C (kdec dc_M_expression 140 rfl) rfl 281 rfl rfl ?_
  refine kw_aload_n C (kdec dc_M_expression 141 rfl) rfl 282 rfl rfl ?_
  refine kw_bipush (v := 42) C (kdec dc_M_expression 142 rfl) 284 rfl (by decide) ⟨by decide, by decide⟩ ?_
  obtain ⟨r_36, hg_43, h⟩ := kbind_h h
  refine kw_callV (As := [ki 42]) C (kdec dc_M_expression 143 rfl) 287 rfl cv_M_199 rfl rfl (mt_mm_isSign l0 hg_43) ⟨rfl, rfl⟩ ⟨Nat.le_of_ble_eq_true rfl, Nat.le_of_ble_eq_true rfl⟩ ⟨Nat.zero_le _, Nat.zero_le _⟩ rfl (Nat.le_of_ble_eq_true rfl) ?_
  change KW x 0 0 Q σ_35 287 [some (kr 0), none, none, some (ki x3), none] [ki r_36, kr 0]
  refine kw_if_eq C (kdec dc_M_expression 144 rfl) 295 290 (by decide) rfl (fun hc287 => ?_) (fun hc287 => ?_)
  · rw [if_pos hc287] at h
    refine kw_bipush (v := 11) C (kdec dc_M_expression 147 rfl) 297 rfl (by decide) ⟨by decide, by decide⟩ ?_
    exact bd_mm_expression_l39_j297 C σ_35 x3 11 h hC hX340
  · rw [if_neg hc287] at h
    refine kw_bipush (v := 10) C (kdec dc_M_expression 145 rfl) 292 rfl (by decide) ⟨by decide, by decide⟩ ?_
    refine kw_goto C (kdec dc_M_expression 146 rfl) 297 (by decide) ?_
    exact bd_mm_expression_l39_j297 C σ_35 x3 10 h hC hX340
def mm_expression_l39_j335 (σ : kM) : Option ((kM × Int) ⊕ ((kM))) :=
  mm_expression_l39_j337 σ 0
set_option maxHeartbeats 4000000 in
theorem bd_mm_expression_l39_j335 {x : kX} {l0 : Launch} {Q : State → Prop} (C : kCx x prog_14_method_34_code "PoetFinesModel" none kcl yM 5 l0 R0_mm_expression) (σ : kM) {out : (kM × Int) ⊕ ((kM))} (h : mm_expression_l39_j335 σ = some out) (hC : ∀ (σ' : kM) (x3' : Int), out = Sum.inl (σ', x3') → KW x 0 0 Q σ' 39 [some (kr 0), none, none, some (ki x3'), none] []) (hX340 : ∀ (σ' : kM), out = Sum.inr σ' → KW x 0 0 Q σ' 340 [some (kr 0), none, none, none, none] []) : KW x 0 0 Q σ 335 [some (kr 0), none, none, none, none] [] := by
  unfold mm_expression_l39_j335 at h
  refine kw_iconst C (kdec dc_M_expression 165 rfl) 336 rfl rfl ⟨by decide, by decide⟩ ?_
  refine kw_istore_n (L' := [some (kr 0), none, none, some (ki 0), none]) C (kdec dc_M_expression 166 rfl) rfl 337 rfl (by decide) rfl rfl ?_
  exact bd_mm_expression_l39_j337 C σ 0 h hC hX340
def mm_expression_l39_j201 (σ : kM) (x3 : Int) : Option ((kM × Int) ⊕ ((kM))) :=
  (mm_isSign σ 43).bind fun r_22 =>
  if r_22 = 0 then
    (mm_isSign σ 45).bind fun r_33 =>
    if r_33 = 0 then
      (mm_isSign σ 42).bind fun r_34 =>
      if r_34 = 0 then
        (mm_isSign σ 47).bind fun r_45 =>
        if r_45 = 0 then
          (mm_isSign σ 41).bind fun r_46 =>
          if r_46 = 0 then
            mm_expression_l39_j335 σ
          else
            (mm_isOpened σ).bind fun r_47 =>
            if r_47 = 0 then
              mm_expression_l39_j335 σ
            else
              (mm_closes σ).bind fun σ_48 =>
              mm_expression_l39_j337 σ_48 x3
        else
          mm_expression_l39_j274 σ x3
      else
        mm_expression_l39_j274 σ x3
    else
      mm_expression_l39_j219 σ x3
  else
    mm_expression_l39_j219 σ x3
set_option maxHeartbeats 4000000 in
theorem bd_mm_expression_l39_j201 {x : kX} {l0 : Launch} {Q : State → Prop} (C : kCx x prog_14_method_34_code "PoetFinesModel" none kcl yM 5 l0 R0_mm_expression) (σ : kM) (x3 : Int) {out : (kM × Int) ⊕ ((kM))} (h : mm_expression_l39_j201 σ x3 = some out) (hC : ∀ (σ' : kM) (x3' : Int), out = Sum.inl (σ', x3') → KW x 0 0 Q σ' 39 [some (kr 0), none, none, some (ki x3'), none] []) (hX340 : ∀ (σ' : kM), out = Sum.inr σ' → KW x 0 0 Q σ' 340 [some (kr 0), none, none, none, none] []) : KW x 0 0 Q σ 201 [some (kr 0), none, none, some (ki x3), none] [] := by
  unfold mm_expression_l39_j201 at h
  refine kw_aload_n C (kdec dc_M_expression 103 rfl) rfl 202 rfl rfl ?_
  refine kw_bipush (v := 43) C (kdec dc_M_expression 104 rfl) 204 rfl (by decide) ⟨by decide, by decide⟩ ?_
  obtain ⟨r_22, hg_55, h⟩ := kbind_h h
  refine kw_callV (As := [ki 43]) C (kdec dc_M_expression 105 rfl) 207 rfl cv_M_199 rfl rfl (mt_mm_isSign l0 hg_55) ⟨rfl, rfl⟩ ⟨Nat.le_of_ble_eq_true rfl, Nat.le_of_ble_eq_true rfl⟩ ⟨Nat.zero_le _, Nat.zero_le _⟩ rfl (Nat.le_of_ble_eq_true rfl) ?_
  change KW x 0 0 Q σ 207 [some (kr 0), none, none, some (ki x3), none] [ki r_22]
  refine kw_if_ne C (kdec dc_M_expression 106 rfl) 219 210 (by decide) rfl (fun hc207 => ?_) (fun hc207 => ?_)
  · rw [if_neg hc207] at h
    exact bd_mm_expression_l39_j219 C σ x3 h hC hX340
  · rw [if_pos hc207] at h
    refine kw_aload_n C (kdec dc_M_expression 107 rfl) rfl 211 rfl rfl ?_
    refine kw_bipush (v := 45) C (kdec dc_M_expression 108 rfl) 213 rfl (by decide) ⟨by decide, by decide⟩ ?_
    obtain ⟨r_33, hg_54, h⟩ := kbind_h h
    refine kw_callV (As := [ki 45]) C (kdec dc_M_expression 109 rfl) 216 rfl cv_M_199 rfl rfl (mt_mm_isSign l0 hg_54) ⟨rfl, rfl⟩ ⟨Nat.le_of_ble_eq_true rfl, Nat.le_of_ble_eq_true rfl⟩ ⟨Nat.zero_le _, Nat.zero_le _⟩ rfl (Nat.le_of_ble_eq_true rfl) ?_
    change KW x 0 0 Q σ 216 [some (kr 0), none, none, some (ki x3), none] [ki r_33]
    refine kw_if_eq C (kdec dc_M_expression 110 rfl) 256 219 (by decide) rfl (fun hc216 => ?_) (fun hc216 => ?_)
    · rw [if_pos hc216] at h
      refine kw_aload_n C (kdec dc_M_expression 129 rfl) rfl 257 rfl rfl ?_
      refine kw_bipush (v := 42) C (kdec dc_M_expression 130 rfl) 259 rfl (by decide) ⟨by decide, by decide⟩ ?_
      obtain ⟨r_34, hg_53, h⟩ := kbind_h h
      refine kw_callV (As := [ki 42]) C (kdec dc_M_expression 131 rfl) 262 rfl cv_M_199 rfl rfl (mt_mm_isSign l0 hg_53) ⟨rfl, rfl⟩ ⟨Nat.le_of_ble_eq_true rfl, Nat.le_of_ble_eq_true rfl⟩ ⟨Nat.zero_le _, Nat.zero_le _⟩ rfl (Nat.le_of_ble_eq_true rfl) ?_
      change KW x 0 0 Q σ 262 [some (kr 0), none, none, some (ki x3), none] [ki r_34]
      refine kw_if_ne C (kdec dc_M_expression 132 rfl) 274 265 (by decide) rfl (fun hc262 => ?_) (fun hc262 => ?_)
      · rw [if_neg hc262] at h
        exact bd_mm_expression_l39_j274 C σ x3 h hC hX340
      · rw [if_pos hc262] at h
        refine kw_aload_n C (kdec dc_M_expression 133 rfl) rfl 266 rfl rfl ?_
        refine kw_bipush (v := 47) C (kdec dc_M_expression 134 rfl) 268 rfl (by decide) ⟨by decide, by decide⟩ ?_
        obtain ⟨r_45, hg_52, h⟩ := kbind_h h
        refine kw_callV (As := [ki 47]) C (kdec dc_M_expression 135 rfl) 271 rfl cv_M_199 rfl rfl (mt_mm_isSign l0 hg_52) ⟨rfl, rfl⟩ ⟨Nat.le_of_ble_eq_true rfl, Nat.le_of_ble_eq_true rfl⟩ ⟨Nat.zero_le _, Nat.zero_le _⟩ rfl (Nat.le_of_ble_eq_true rfl) ?_
        change KW x 0 0 Q σ 271 [some (kr 0), none, none, some (ki x3), none] [ki r_45]
        refine kw_if_eq C (kdec dc_M_expression 136 rfl) 312 274 (by decide) rfl (fun hc271 => ?_) (fun hc271 => ?_)
        · rw [if_pos hc271] at h
          refine kw_aload_n C (kdec dc_M_expression 155 rfl) rfl 313 rfl rfl ?_
          refine kw_bipush (v := 41) C (kdec dc_M_expression 156 rfl) 315 rfl (by decide) ⟨by decide, by decide⟩ ?_
          obtain ⟨r_46, hg_51, h⟩ := kbind_h h
          refine kw_callV (As := [ki 41]) C (kdec dc_M_expression 157 rfl) 318 rfl cv_M_199 rfl rfl (mt_mm_isSign l0 hg_51) ⟨rfl, rfl⟩ ⟨Nat.le_of_ble_eq_true rfl, Nat.le_of_ble_eq_true rfl⟩ ⟨Nat.zero_le _, Nat.zero_le _⟩ rfl (Nat.le_of_ble_eq_true rfl) ?_
          change KW x 0 0 Q σ 318 [some (kr 0), none, none, some (ki x3), none] [ki r_46]
          refine kw_if_eq C (kdec dc_M_expression 158 rfl) 335 321 (by decide) rfl (fun hc318 => ?_) (fun hc318 => ?_)
          · rw [if_pos hc318] at h
            exact kw_sub (L' := [some (kr 0), none, none, none, none]) ⟨rfl, trivial⟩ (bd_mm_expression_l39_j335 C σ h hC hX340)
          · rw [if_neg hc318] at h
            refine kw_aload_n C (kdec dc_M_expression 159 rfl) rfl 322 rfl rfl ?_
            obtain ⟨r_47, hg_50, h⟩ := kbind_h h
            refine kw_callV (As := []) C (kdec dc_M_expression 160 rfl) 325 rfl cv_M_218 rfl rfl (mt_mm_isOpened l0 hg_50) ⟨rfl, rfl⟩ ⟨Nat.le_of_ble_eq_true rfl, Nat.le_of_ble_eq_true rfl⟩ ⟨Nat.zero_le _, Nat.zero_le _⟩ rfl (Nat.le_of_ble_eq_true rfl) ?_
            change KW x 0 0 Q σ 325 [some (kr 0), none, none, some (ki x3), none] [ki r_47]
            refine kw_if_eq C (kdec dc_M_expression 161 rfl) 335 328 (by decide) rfl (fun hc325 => ?_) (fun hc325 => ?_)
            · rw [if_pos hc325] at h
              exact kw_sub (L' := [some (kr 0), none, none, none, none]) ⟨rfl, trivial⟩ (bd_mm_expression_l39_j335 C σ h hC hX340)
            · rw [if_neg hc325] at h
              refine kw_aload_n C (kdec dc_M_expression 162 rfl) rfl 329 rfl rfl ?_
              obtain ⟨σ_48, hg_49, h⟩ := kbind_h h
              refine kw_callV (As := []) C (kdec dc_M_expression 163 rfl) 332 rfl cv_M_221 rfl rfl (mt_mm_closes l0 hg_49) ⟨rfl, rfl⟩ ⟨Nat.le_of_ble_eq_true rfl, Nat.le_of_ble_eq_true rfl⟩ ⟨Nat.zero_le _, Nat.zero_le _⟩ rfl (Nat.le_of_ble_eq_true rfl) ?_
              change KW x 0 0 Q σ_48 332 [some (kr 0), none, none, some (ki x3), none] []
              refine kw_goto C (kdec dc_M_expression 164 rfl) 337 (by decide) ?_
              exact bd_mm_expression_l39_j337 C σ_48 x3 h hC hX340
        · rw [if_neg hc271] at h
          exact bd_mm_expression_l39_j274 C σ x3 h hC hX340
    · rw [if_neg hc216] at h
      exact bd_mm_expression_l39_j219 C σ x3 h hC hX340
def mm_expression_l39_j176 (σ : kM) (x3 : Int) (s0 : Int) : Option ((kM × Int) ⊕ ((kM))) :=
  (mm_waitsFor σ s0).bind fun σ_58 =>
  kchk (0 ≤ (σ_58 0 31) ∧ (σ_58 0 31) < 9) <|
  klet (kst σ_58 7 (kup (σ_58 7) ((σ_58 0 31).toNat) (kz1s 1))) fun σ_60 =>
  (mm_goes σ_60).bind fun σ_61 =>
  (mm_operand σ_61 0).bind fun σ_62 =>
  mm_expression_l39_j337 σ_62 x3
set_option maxHeartbeats 4000000 in
theorem bd_mm_expression_l39_j176 {x : kX} {l0 : Launch} {Q : State → Prop} (C : kCx x prog_14_method_34_code "PoetFinesModel" none kcl yM 5 l0 R0_mm_expression) (σ : kM) (x3 : Int) (s0 : Int) {out : (kM × Int) ⊕ ((kM))} (h : mm_expression_l39_j176 σ x3 s0 = some out) (hC : ∀ (σ' : kM) (x3' : Int), out = Sum.inl (σ', x3') → KW x 0 0 Q σ' 39 [some (kr 0), none, none, some (ki x3'), none] []) (hX340 : ∀ (σ' : kM), out = Sum.inr σ' → KW x 0 0 Q σ' 340 [some (kr 0), none, none, none, none] []) : KW x 0 0 Q σ 176 [some (kr 0), none, none, some (ki x3), none] [ki s0, kr 0] := by
  unfold mm_expression_l39_j176 at h
  obtain ⟨σ_58, hg_65, h⟩ := kbind_h h
  refine kw_callV (As := [ki s0]) C (kdec dc_M_expression 90 rfl) 179 rfl cv_M_202 rfl rfl (mt_mm_waitsFor l0 hg_65) ⟨rfl, rfl⟩ ⟨Nat.le_of_ble_eq_true rfl, Nat.le_of_ble_eq_true rfl⟩ ⟨Nat.zero_le _, Nat.zero_le _⟩ rfl (Nat.le_of_ble_eq_true rfl) ?_
  change KW x 0 0 Q σ_58 179 [some (kr 0), none, none, some (ki x3), none] []
  refine kw_aload_n C (kdec dc_M_expression 91 rfl) rfl 180 rfl rfl ?_
  refine kw_getR C (kdec dc_M_expression 92 rfl) 183 rfl fd_M_M_44_0 ?_
  refine kw_aload_n C (kdec dc_M_expression 93 rfl) rfl 184 rfl rfl ?_
  refine kw_getI C (kdec dc_M_expression 94 rfl) 187 rfl fd_M_M_196_0 ?_
  refine kw_iconst C (kdec dc_M_expression 95 rfl) 188 rfl rfl ⟨by decide, by decide⟩ ?_
  obtain ⟨hc_59, h⟩ := kchk_h h
  obtain ⟨σ_60, eσ_60, h⟩ := klet_h h
  refine kw_zast C (kdec dc_M_expression 96 rfl) 189 rfl rfl hc_59.1 hc_59.2 ?_
  refine kw_sig eσ_60 ?_
  refine kw_aload_n C (kdec dc_M_expression 97 rfl) rfl 190 rfl rfl ?_
  obtain ⟨σ_61, hg_64, h⟩ := kbind_h h
  refine kw_callV (As := []) C (kdec dc_M_expression 98 rfl) 193 rfl cv_M_162 rfl rfl (mt_mm_goes l0 hg_64) ⟨rfl, rfl⟩ ⟨Nat.le_of_ble_eq_true rfl, Nat.le_of_ble_eq_true rfl⟩ ⟨Nat.zero_le _, Nat.zero_le _⟩ rfl (Nat.le_of_ble_eq_true rfl) ?_
  change KW x 0 0 Q σ_61 193 [some (kr 0), none, none, some (ki x3), none] []
  refine kw_aload_n C (kdec dc_M_expression 99 rfl) rfl 194 rfl rfl ?_
  refine kw_iconst C (kdec dc_M_expression 100 rfl) 195 rfl rfl ⟨by decide, by decide⟩ ?_
  obtain ⟨σ_62, hg_63, h⟩ := kbind_h h
  refine kw_callV (As := [ki 0]) C (kdec dc_M_expression 101 rfl) 198 rfl cv_M_214 rfl rfl (mt_mm_operand l0 hg_63) ⟨rfl, rfl⟩ ⟨Nat.le_of_ble_eq_true rfl, Nat.le_of_ble_eq_true rfl⟩ ⟨Nat.zero_le _, Nat.zero_le _⟩ rfl (Nat.le_of_ble_eq_true rfl) ?_
  change KW x 0 0 Q σ_62 198 [some (kr 0), none, none, some (ki x3), none] []
  refine kw_goto C (kdec dc_M_expression 102 rfl) 337 (by decide) ?_
  exact bd_mm_expression_l39_j337 C σ_62 x3 h hC hX340
def mm_expression_l39_j142 (σ : kM) (x3 : Int) : Option ((kM × Int) ⊕ ((kM))) :=
  kchk (0 ≤ (σ 0 31) ∧ (σ 0 31) < 9) <|
  if (σ 7 (σ 0 31).toNat) = 0 then
    (mm_drops σ 4).bind fun σ_56 =>
    (mm_isSign σ_56 60).bind fun r_57 =>
    if r_57 = 0 then
      mm_expression_l39_j176 σ_56 x3 7
    else
      mm_expression_l39_j176 σ_56 x3 6
  else
    mm_expression_l39_j201 σ x3
set_option maxHeartbeats 4000000 in
theorem bd_mm_expression_l39_j142 {x : kX} {l0 : Launch} {Q : State → Prop} (C : kCx x prog_14_method_34_code "PoetFinesModel" none kcl yM 5 l0 R0_mm_expression) (σ : kM) (x3 : Int) {out : (kM × Int) ⊕ ((kM))} (h : mm_expression_l39_j142 σ x3 = some out) (hC : ∀ (σ' : kM) (x3' : Int), out = Sum.inl (σ', x3') → KW x 0 0 Q σ' 39 [some (kr 0), none, none, some (ki x3'), none] []) (hX340 : ∀ (σ' : kM), out = Sum.inr σ' → KW x 0 0 Q σ' 340 [some (kr 0), none, none, none, none] []) : KW x 0 0 Q σ 142 [some (kr 0), none, none, some (ki x3), none] [] := by
  unfold mm_expression_l39_j142 at h
  refine kw_aload_n C (kdec dc_M_expression 73 rfl) rfl 143 rfl rfl ?_
  refine kw_getR C (kdec dc_M_expression 74 rfl) 146 rfl fd_M_M_44_0 ?_
  refine kw_aload_n C (kdec dc_M_expression 75 rfl) rfl 147 rfl rfl ?_
  refine kw_getI C (kdec dc_M_expression 76 rfl) 150 rfl fd_M_M_196_0 ?_
  obtain ⟨hc_21, h⟩ := kchk_h h
  refine kw_zald C (kdec dc_M_expression 77 rfl) 151 rfl rfl hc_21.1 hc_21.2 ?_
  refine kw_if_ne C (kdec dc_M_expression 78 rfl) 201 154 (by decide) rfl (fun hc151 => ?_) (fun hc151 => ?_)
  · rw [if_neg hc151] at h
    exact bd_mm_expression_l39_j201 C σ x3 h hC hX340
  · rw [if_pos hc151] at h
    refine kw_aload_n C (kdec dc_M_expression 79 rfl) rfl 155 rfl rfl ?_
    refine kw_iconst C (kdec dc_M_expression 80 rfl) 156 rfl rfl ⟨by decide, by decide⟩ ?_
    obtain ⟨σ_56, hg_67, h⟩ := kbind_h h
    refine kw_callV (As := [ki 4]) C (kdec dc_M_expression 81 rfl) 159 rfl cv_M_211 rfl rfl (mt_mm_drops l0 hg_67) ⟨rfl, rfl⟩ ⟨Nat.le_of_ble_eq_true rfl, Nat.le_of_ble_eq_true rfl⟩ ⟨Nat.zero_le _, Nat.zero_le _⟩ rfl (Nat.le_of_ble_eq_true rfl) ?_
    change KW x 0 0 Q σ_56 159 [some (kr 0), none, none, some (ki x3), none] []
    refine kw_aload_n C (kdec dc_M_expression 82 rfl) rfl 160 rfl rfl ?_
    refine kw_aload_n C (kdec dc_M_expression 83 rfl) rfl 161 rfl rfl ?_
    refine kw_bipush (v := 60) C (kdec dc_M_expression 84 rfl) 163 rfl (by decide) ⟨by decide, by decide⟩ ?_
    obtain ⟨r_57, hg_66, h⟩ := kbind_h h
    refine kw_callV (As := [ki 60]) C (kdec dc_M_expression 85 rfl) 166 rfl cv_M_199 rfl rfl (mt_mm_isSign l0 hg_66) ⟨rfl, rfl⟩ ⟨Nat.le_of_ble_eq_true rfl, Nat.le_of_ble_eq_true rfl⟩ ⟨Nat.zero_le _, Nat.zero_le _⟩ rfl (Nat.le_of_ble_eq_true rfl) ?_
    change KW x 0 0 Q σ_56 166 [some (kr 0), none, none, some (ki x3), none] [ki r_57, kr 0]
    refine kw_if_eq C (kdec dc_M_expression 86 rfl) 174 169 (by decide) rfl (fun hc166 => ?_) (fun hc166 => ?_)
    · rw [if_pos hc166] at h
      refine kw_bipush (v := 7) C (kdec dc_M_expression 89 rfl) 176 rfl (by decide) ⟨by decide, by decide⟩ ?_
      exact bd_mm_expression_l39_j176 C σ_56 x3 7 h hC hX340
    · rw [if_neg hc166] at h
      refine kw_bipush (v := 6) C (kdec dc_M_expression 87 rfl) 171 rfl (by decide) ⟨by decide, by decide⟩ ?_
      refine kw_goto C (kdec dc_M_expression 88 rfl) 176 (by decide) ?_
      exact bd_mm_expression_l39_j176 C σ_56 x3 6 h hC hX340
def mm_expression_l39 (σ : kM) (x3 : Int) : Option ((kM × Int) ⊕ ((kM))) :=
  if x3 = 0 then
    some (Sum.inr σ)
  else
    (mm_isGood σ).bind fun r_8 =>
    if r_8 = 0 then
      some (Sum.inr σ)
    else
      (mm_knownWord σ).bind fun r_9 =>
      if r_9 = 14 then
        mm_expression_l39_j70 σ x3 r_9
      else
        if r_9 = 15 then
          mm_expression_l39_j70 σ x3 r_9
        else
          (mm_isSign σ 60).bind fun r_20 =>
          if r_20 = 0 then
            (mm_isSign σ 61).bind fun r_68 =>
            if r_68 = 0 then
              mm_expression_l39_j201 σ x3
            else
              mm_expression_l39_j142 σ x3
          else
            mm_expression_l39_j142 σ x3
set_option maxHeartbeats 4000000 in
theorem bd_mm_expression_l39 {x : kX} {l0 : Launch} {Q : State → Prop} (C : kCx x prog_14_method_34_code "PoetFinesModel" none kcl yM 5 l0 R0_mm_expression) (σ : kM) (x3 : Int) {out : (kM × Int) ⊕ ((kM))} (h : mm_expression_l39 σ x3 = some out) (hC : ∀ (σ' : kM) (x3' : Int), out = Sum.inl (σ', x3') → KW x 0 0 Q σ' 39 [some (kr 0), none, none, some (ki x3'), none] []) (hX340 : ∀ (σ' : kM), out = Sum.inr σ' → KW x 0 0 Q σ' 340 [some (kr 0), none, none, none, none] []) : KW x 0 0 Q σ 39 [some (kr 0), none, none, some (ki x3), none] [] := by
  unfold mm_expression_l39 at h
  refine kw_iload_n C (kdec dc_M_expression 23 rfl) rfl 40 rfl rfl ?_
  refine kw_if_eq C (kdec dc_M_expression 24 rfl) 340 43 (by decide) rfl (fun hc40 => ?_) (fun hc40 => ?_)
  · rw [if_pos hc40] at h
    obtain rfl := Option.some.inj h
    exact kw_sub (L' := [some (kr 0), none, none, none, none]) ⟨rfl, trivial⟩ (hX340 _ rfl)
  · rw [if_neg hc40] at h
    refine kw_aload_n C (kdec dc_M_expression 25 rfl) rfl 44 rfl rfl ?_
    obtain ⟨r_8, hg_72, h⟩ := kbind_h h
    refine kw_callV (As := []) C (kdec dc_M_expression 26 rfl) 47 rfl cv_M_158 rfl rfl (mt_mm_isGood l0 hg_72) ⟨rfl, rfl⟩ ⟨Nat.le_of_ble_eq_true rfl, Nat.le_of_ble_eq_true rfl⟩ ⟨Nat.zero_le _, Nat.zero_le _⟩ rfl (Nat.le_of_ble_eq_true rfl) ?_
    change KW x 0 0 Q σ 47 [some (kr 0), none, none, some (ki x3), none] [ki r_8]
    refine kw_if_eq C (kdec dc_M_expression 27 rfl) 340 50 (by decide) rfl (fun hc47 => ?_) (fun hc47 => ?_)
    · rw [if_pos hc47] at h
      obtain rfl := Option.some.inj h
      exact kw_sub (L' := [some (kr 0), none, none, none, none]) ⟨rfl, trivial⟩ (hX340 _ rfl)
    · rw [if_neg hc47] at h
      refine kw_aload_n C (kdec dc_M_expression 28 rfl) rfl 51 rfl rfl ?_
      obtain ⟨r_9, hg_71, h⟩ := kbind_h h
      refine kw_callV (As := []) C (kdec dc_M_expression 29 rfl) 54 rfl cv_M_186 rfl rfl (mt_mm_knownWord l0 hg_71) ⟨rfl, rfl⟩ ⟨Nat.le_of_ble_eq_true rfl, Nat.le_of_ble_eq_true rfl⟩ ⟨Nat.zero_le _, Nat.zero_le _⟩ rfl (Nat.le_of_ble_eq_true rfl) ?_
      change KW x 0 0 Q σ 54 [some (kr 0), none, none, some (ki x3), none] [ki r_9]
      refine kw_istore (L' := [some (kr 0), none, none, some (ki x3), some (ki r_9)]) C (kdec dc_M_expression 30 rfl) 56 rfl (by decide) rfl rfl ?_
      refine kw_iload C (kdec dc_M_expression 31 rfl) 58 rfl rfl ?_
      refine kw_bipush (v := 14) C (kdec dc_M_expression 32 rfl) 60 rfl (by decide) ⟨by decide, by decide⟩ ?_
      refine kw_icmp_eq C (kdec dc_M_expression 33 rfl) 70 63 (by decide) rfl (fun hc60 => ?_) (fun hc60 => ?_)
      · rw [if_pos hc60] at h
        exact bd_mm_expression_l39_j70 C σ x3 r_9 h hC hX340
      · rw [if_neg hc60] at h
        refine kw_iload C (kdec dc_M_expression 34 rfl) 65 rfl rfl ?_
        refine kw_bipush (v := 15) C (kdec dc_M_expression 35 rfl) 67 rfl (by decide) ⟨by decide, by decide⟩ ?_
        refine kw_icmp_ne C (kdec dc_M_expression 36 rfl) 124 70 (by decide) rfl (fun hc67 => ?_) (fun hc67 => ?_)
        · rw [if_neg hc67] at h
          refine kw_aload_n C (kdec dc_M_expression 65 rfl) rfl 125 rfl rfl ?_
          refine kw_bipush (v := 60) C (kdec dc_M_expression 66 rfl) 127 rfl (by decide) ⟨by decide, by decide⟩ ?_
          obtain ⟨r_20, hg_70, h⟩ := kbind_h h
          refine kw_callV (As := [ki 60]) C (kdec dc_M_expression 67 rfl) 130 rfl cv_M_199 rfl rfl (mt_mm_isSign l0 hg_70) ⟨rfl, rfl⟩ ⟨Nat.le_of_ble_eq_true rfl, Nat.le_of_ble_eq_true rfl⟩ ⟨Nat.zero_le _, Nat.zero_le _⟩ rfl (Nat.le_of_ble_eq_true rfl) ?_
          change KW x 0 0 Q σ 130 [some (kr 0), none, none, some (ki x3), some (ki r_9)] [ki r_20]
          refine kw_if_ne C (kdec dc_M_expression 68 rfl) 142 133 (by decide) rfl (fun hc130 => ?_) (fun hc130 => ?_)
          · rw [if_neg hc130] at h
            exact kw_sub (L' := [some (kr 0), none, none, some (ki x3), none]) ⟨rfl, rfl, trivial⟩ (bd_mm_expression_l39_j142 C σ x3 h hC hX340)
          · rw [if_pos hc130] at h
            refine kw_aload_n C (kdec dc_M_expression 69 rfl) rfl 134 rfl rfl ?_
            refine kw_bipush (v := 61) C (kdec dc_M_expression 70 rfl) 136 rfl (by decide) ⟨by decide, by decide⟩ ?_
            obtain ⟨r_68, hg_69, h⟩ := kbind_h h
            refine kw_callV (As := [ki 61]) C (kdec dc_M_expression 71 rfl) 139 rfl cv_M_199 rfl rfl (mt_mm_isSign l0 hg_69) ⟨rfl, rfl⟩ ⟨Nat.le_of_ble_eq_true rfl, Nat.le_of_ble_eq_true rfl⟩ ⟨Nat.zero_le _, Nat.zero_le _⟩ rfl (Nat.le_of_ble_eq_true rfl) ?_
            change KW x 0 0 Q σ 139 [some (kr 0), none, none, some (ki x3), some (ki r_9)] [ki r_68]
            refine kw_if_eq C (kdec dc_M_expression 72 rfl) 201 142 (by decide) rfl (fun hc139 => ?_) (fun hc139 => ?_)
            · rw [if_pos hc139] at h
              exact kw_sub (L' := [some (kr 0), none, none, some (ki x3), none]) ⟨rfl, rfl, trivial⟩ (bd_mm_expression_l39_j201 C σ x3 h hC hX340)
            · rw [if_neg hc139] at h
              exact kw_sub (L' := [some (kr 0), none, none, some (ki x3), none]) ⟨rfl, rfl, trivial⟩ (bd_mm_expression_l39_j142 C σ x3 h hC hX340)
        · rw [if_pos hc67] at h
          exact bd_mm_expression_l39_j70 C σ x3 r_9 h hC hX340
theorem lp_mm_expression_l39 {x : kX} {l0 : Launch} {Q : State → Prop} (C : kCx x prog_14_method_34_code "PoetFinesModel" none kcl yM 5 l0 R0_mm_expression) {ex : (kM)} (hX340 : ∀ (σ' : kM), ex = σ' → KW x 0 0 Q σ' 340 [some (kr 0), none, none, none, none] []) (n : Nat) (σ : kM) (x3 : Int) (h : kloop (fun st => mm_expression_l39 st.1 st.2) n (σ, x3) = some ex) : KW x 0 0 Q σ 39 [some (kr 0), none, none, some (ki x3), none] [] :=
  kloop_ind (P := (fun st : kM × Int => KW x 0 0 Q st.1 39 [some (kr 0), none, none, some (ki (st.2)), none] [])) (fun st out hb hc hx => bd_mm_expression_l39 C st.1 st.2 hb (fun a0 a1 e => hc _ e) (fun a0 e => hX340 _ ((hx _ e).symm))) n (σ, x3) h
def mm_expression_j360 (σ : kM) : Option (kM) :=
  (mm_drops σ 0).bind fun σ_77 =>
  (mm_puts σ_77 0).bind fun σ_78 =>
  some σ_78
set_option maxHeartbeats 4000000 in
theorem bd_mm_expression_j360 {x : kX} {l0 : Launch} {Q : State → Prop} (C : kCx x prog_14_method_34_code "PoetFinesModel" none kcl yM 5 l0 R0_mm_expression) (σ : kM) {out : kM} (h : mm_expression_j360 σ = some out) (hR : ∀ (τ : kM), out = τ → Q = kQ x none τ 0 0) : KW x 0 0 Q σ 360 [some (kr 0), none, none, none, none] [] := by
  unfold mm_expression_j360 at h
  refine kw_aload_n C (kdec dc_M_expression 178 rfl) rfl 361 rfl rfl ?_
  refine kw_iconst C (kdec dc_M_expression 179 rfl) 362 rfl rfl ⟨by decide, by decide⟩ ?_
  obtain ⟨σ_77, hg_80, h⟩ := kbind_h h
  refine kw_callV (As := [ki 0]) C (kdec dc_M_expression 180 rfl) 365 rfl cv_M_211 rfl rfl (mt_mm_drops l0 hg_80) ⟨rfl, rfl⟩ ⟨Nat.le_of_ble_eq_true rfl, Nat.le_of_ble_eq_true rfl⟩ ⟨Nat.zero_le _, Nat.zero_le _⟩ rfl (Nat.le_of_ble_eq_true rfl) ?_
  change KW x 0 0 Q σ_77 365 [some (kr 0), none, none, none, none] []
  refine kw_aload_n C (kdec dc_M_expression 181 rfl) rfl 366 rfl rfl ?_
  refine kw_iconst C (kdec dc_M_expression 182 rfl) 367 rfl rfl ⟨by decide, by decide⟩ ?_
  obtain ⟨σ_78, hg_79, h⟩ := kbind_h h
  refine kw_callV (As := [ki 0]) C (kdec dc_M_expression 183 rfl) 370 rfl cv_M_183 rfl rfl (mt_mm_puts l0 hg_79) ⟨rfl, rfl⟩ ⟨Nat.le_of_ble_eq_true rfl, Nat.le_of_ble_eq_true rfl⟩ ⟨Nat.zero_le _, Nat.zero_le _⟩ rfl (Nat.le_of_ble_eq_true rfl) ?_
  change KW x 0 0 Q σ_78 370 [some (kr 0), none, none, none, none] []
  obtain rfl := Option.some.inj h
  exact kw_Q (hR _ rfl) (kw_return C (kdec dc_M_expression 184 rfl))
def mm_expression (σ : kM) (x1 : Int) (x2 : Int) : Option (kM) :=
  (mm_isGood σ).bind fun r_1 =>
  if r_1 = 0 then
    some σ
  else
    klet (kst σ 0 (kup (σ 0) 28 x1)) fun σ_2 =>
    klet (kst σ_2 0 (kup (σ_2 0) 29 x2)) fun σ_3 =>
    klet (kst σ_3 0 (kup (σ_3 0) 30 0)) fun σ_4 =>
    klet (kst σ_4 0 (kup (σ_4 0) 31 0)) fun σ_5 =>
    (mm_deeper σ_5).bind fun σ_6 =>
    (mm_operand σ_6 1).bind fun σ_7 =>
    (kloop (fun st => mm_expression_l39 st.1 st.2) kFuel (σ_7, 1)).bind fun σ_75 =>
    (mm_isGood σ_75).bind fun r_76 =>
    if r_76 = 0 then
      mm_expression_j360 σ_75
    else
      if (σ_75 0 31) ≤ 1 then
        mm_expression_j360 σ_75
      else
        (mm_wrong σ_75 1).bind fun σ_81 =>
        mm_expression_j360 σ_81
set_option maxHeartbeats 4000000 in
theorem bd_mm_expression {x : kX} {l0 : Launch} {Q : State → Prop} (C : kCx x prog_14_method_34_code "PoetFinesModel" none kcl yM 5 l0 R0_mm_expression) (σ : kM) (x1 : Int) (x2 : Int) {out : kM} (h : mm_expression σ x1 x2 = some out) (hR : ∀ (τ : kM), out = τ → Q = kQ x none τ 0 0) : KW x 0 0 Q σ 0 [some (kr 0), some (ki x1), some (ki x2), none, none] [] := by
  unfold mm_expression at h
  refine kw_aload_n C (kdec dc_M_expression 0 rfl) rfl 1 rfl rfl ?_
  obtain ⟨r_1, hg_86, h⟩ := kbind_h h
  refine kw_callV (As := []) C (kdec dc_M_expression 1 rfl) 4 rfl cv_M_158 rfl rfl (mt_mm_isGood l0 hg_86) ⟨rfl, rfl⟩ ⟨Nat.le_of_ble_eq_true rfl, Nat.le_of_ble_eq_true rfl⟩ ⟨Nat.zero_le _, Nat.zero_le _⟩ rfl (Nat.le_of_ble_eq_true rfl) ?_
  change KW x 0 0 Q σ 4 [some (kr 0), some (ki x1), some (ki x2), none, none] [ki r_1]
  refine kw_if_ne C (kdec dc_M_expression 2 rfl) 8 7 (by decide) rfl (fun hc4 => ?_) (fun hc4 => ?_)
  · rw [if_neg hc4] at h
    refine kw_aload_n C (kdec dc_M_expression 4 rfl) rfl 9 rfl rfl ?_
    refine kw_iload_n C (kdec dc_M_expression 5 rfl) rfl 10 rfl rfl ?_
    obtain ⟨σ_2, eσ_2, h⟩ := klet_h h
    refine kw_putI C (kdec dc_M_expression 6 rfl) 13 rfl fp_M_M_190_0 ?_
    refine kw_sig eσ_2 ?_
    refine kw_aload_n C (kdec dc_M_expression 7 rfl) rfl 14 rfl rfl ?_
    refine kw_iload_n C (kdec dc_M_expression 8 rfl) rfl 15 rfl rfl ?_
    obtain ⟨σ_3, eσ_3, h⟩ := klet_h h
    refine kw_putI C (kdec dc_M_expression 9 rfl) 18 rfl fp_M_M_193_0 ?_
    refine kw_sig eσ_3 ?_
    refine kw_aload_n C (kdec dc_M_expression 10 rfl) rfl 19 rfl rfl ?_
    refine kw_iconst C (kdec dc_M_expression 11 rfl) 20 rfl rfl ⟨by decide, by decide⟩ ?_
    obtain ⟨σ_4, eσ_4, h⟩ := klet_h h
    refine kw_putI C (kdec dc_M_expression 12 rfl) 23 rfl fp_M_M_174_0 ?_
    refine kw_sig eσ_4 ?_
    refine kw_aload_n C (kdec dc_M_expression 13 rfl) rfl 24 rfl rfl ?_
    refine kw_iconst C (kdec dc_M_expression 14 rfl) 25 rfl rfl ⟨by decide, by decide⟩ ?_
    obtain ⟨σ_5, eσ_5, h⟩ := klet_h h
    refine kw_putI C (kdec dc_M_expression 15 rfl) 28 rfl fp_M_M_196_0 ?_
    refine kw_sig eσ_5 ?_
    refine kw_aload_n C (kdec dc_M_expression 16 rfl) rfl 29 rfl rfl ?_
    obtain ⟨σ_6, hg_85, h⟩ := kbind_h h
    refine kw_callV (As := []) C (kdec dc_M_expression 17 rfl) 32 rfl cv_M_205 rfl rfl (mt_mm_deeper l0 hg_85) ⟨rfl, rfl⟩ ⟨Nat.le_of_ble_eq_true rfl, Nat.le_of_ble_eq_true rfl⟩ ⟨Nat.zero_le _, Nat.zero_le _⟩ rfl (Nat.le_of_ble_eq_true rfl) ?_
    change KW x 0 0 Q σ_6 32 [some (kr 0), some (ki x1), some (ki x2), none, none] []
    refine kw_aload_n C (kdec dc_M_expression 18 rfl) rfl 33 rfl rfl ?_
    refine kw_iconst C (kdec dc_M_expression 19 rfl) 34 rfl rfl ⟨by decide, by decide⟩ ?_
    obtain ⟨σ_7, hg_84, h⟩ := kbind_h h
    refine kw_callV (As := [ki 1]) C (kdec dc_M_expression 20 rfl) 37 rfl cv_M_214 rfl rfl (mt_mm_operand l0 hg_84) ⟨rfl, rfl⟩ ⟨Nat.le_of_ble_eq_true rfl, Nat.le_of_ble_eq_true rfl⟩ ⟨Nat.zero_le _, Nat.zero_le _⟩ rfl (Nat.le_of_ble_eq_true rfl) ?_
    change KW x 0 0 Q σ_7 37 [some (kr 0), some (ki x1), some (ki x2), none, none] []
    refine kw_iconst C (kdec dc_M_expression 21 rfl) 38 rfl rfl ⟨by decide, by decide⟩ ?_
    refine kw_istore_n (L' := [some (kr 0), some (ki x1), some (ki x2), some (ki 1), none]) C (kdec dc_M_expression 22 rfl) rfl 39 rfl (by decide) rfl rfl ?_
    obtain ⟨ex_73, hl_74, h⟩ := kbind_h h
    refine kw_sub (L' := [some (kr 0), none, none, some (ki 1), none]) ⟨rfl, rfl, trivial⟩ (lp_mm_expression_l39 C ?_ kFuel σ_7 1 hl_74)
    · intro σ_75 e
      subst ex_73
      try dsimp only at h
      refine kw_aload_n C (kdec dc_M_expression 168 rfl) rfl 341 rfl rfl ?_
      obtain ⟨r_76, hg_83, h⟩ := kbind_h h
      refine kw_callV (As := []) C (kdec dc_M_expression 169 rfl) 344 rfl cv_M_158 rfl rfl (mt_mm_isGood l0 hg_83) ⟨rfl, rfl⟩ ⟨Nat.le_of_ble_eq_true rfl, Nat.le_of_ble_eq_true rfl⟩ ⟨Nat.zero_le _, Nat.zero_le _⟩ rfl (Nat.le_of_ble_eq_true rfl) ?_
      change KW x 0 0 Q σ_75 344 [some (kr 0), none, none, none, none] [ki r_76]
      refine kw_if_eq C (kdec dc_M_expression 170 rfl) 360 347 (by decide) rfl (fun hc344 => ?_) (fun hc344 => ?_)
      · rw [if_pos hc344] at h
        exact bd_mm_expression_j360 C σ_75 h hR
      · rw [if_neg hc344] at h
        refine kw_aload_n C (kdec dc_M_expression 171 rfl) rfl 348 rfl rfl ?_
        refine kw_getI C (kdec dc_M_expression 172 rfl) 351 rfl fd_M_M_196_0 ?_
        refine kw_iconst C (kdec dc_M_expression 173 rfl) 352 rfl rfl ⟨by decide, by decide⟩ ?_
        refine kw_icmp_le C (kdec dc_M_expression 174 rfl) 360 355 (by decide) rfl (fun hc352 => ?_) (fun hc352 => ?_)
        · rw [if_pos hc352] at h
          exact bd_mm_expression_j360 C σ_75 h hR
        · rw [if_neg hc352] at h
          refine kw_aload_n C (kdec dc_M_expression 175 rfl) rfl 356 rfl rfl ?_
          refine kw_iconst C (kdec dc_M_expression 176 rfl) 357 rfl rfl ⟨by decide, by decide⟩ ?_
          obtain ⟨σ_81, hg_82, h⟩ := kbind_h h
          refine kw_callV (As := [ki 1]) C (kdec dc_M_expression 177 rfl) 360 rfl cv_M_165 rfl rfl (mt_mm_wrong l0 hg_82) ⟨rfl, rfl⟩ ⟨Nat.le_of_ble_eq_true rfl, Nat.le_of_ble_eq_true rfl⟩ ⟨Nat.zero_le _, Nat.zero_le _⟩ rfl (Nat.le_of_ble_eq_true rfl) ?_
          change KW x 0 0 Q σ_81 360 [some (kr 0), none, none, none, none] []
          exact bd_mm_expression_j360 C σ_81 h hR
  · rw [if_pos hc4] at h
    obtain rfl := Option.some.inj h
    exact kw_Q (hR _ rfl) (kw_return C (kdec dc_M_expression 3 rfl))
theorem mt_mm_expression (l0 : Launch) {σ : kM} {x1 : Int} {x2 : Int} {τ : kM} (h : mm_expression σ x1 x2 = some τ) : kMet l0 ky_M_expression prog_14_method_34_code 5 none R0_mm_expression kcl yM σ [kr 0, ki x1, ki x2] none τ := kMet.of' [some (kr 0), some (ki x1), some (ki x2), none, none] (by decide) (Nat.le_of_ble_eq_true rfl) ⟨rfl, rfl, rfl, trivial⟩ (fun x C => bd_mm_expression C σ x1 x2 h (fun τ e => by subst e; rfl))
def R0_mm_begins : Room := ({ frames := 2, cells := 0, slots := 0, locals := 42 } : Room)
def mm_begins_j18 (σ : kM) : Option (Int × kM) :=
  (mm_isGood σ).bind fun r_1 =>
  if r_1 = 0 then
    some ((0, σ))
  else
    (mm_goes σ).bind fun σ_2 =>
    some ((1, σ_2))
set_option maxHeartbeats 4000000 in
theorem bd_mm_begins_j18 {x : kX} {l0 : Launch} {Q : State → Prop} (C : kCx x prog_14_method_35_code "PoetFinesModel" (some .boolean) kcl yM 3 l0 R0_mm_begins) (σ : kM) {out : Int × kM} (h : mm_begins_j18 σ = some out) (hR : ∀ (r : Int) (τ : kM), out = (r, τ) → Q = kQ x (some (ki r)) τ 0 0) : KW x 0 0 Q σ 18 [some (kr 0), none, none] [] := by
  unfold mm_begins_j18 at h
  refine kw_aload_n C (kdec dc_M_begins 10 rfl) rfl 19 rfl rfl ?_
  obtain ⟨r_1, hg_4, h⟩ := kbind_h h
  refine kw_callV (As := []) C (kdec dc_M_begins 11 rfl) 22 rfl cv_M_158 rfl rfl (mt_mm_isGood l0 hg_4) ⟨rfl, rfl⟩ ⟨Nat.le_of_ble_eq_true rfl, Nat.le_of_ble_eq_true rfl⟩ ⟨Nat.zero_le _, Nat.zero_le _⟩ rfl (Nat.le_of_ble_eq_true rfl) ?_
  change KW x 0 0 Q σ 22 [some (kr 0), none, none] [ki r_1]
  refine kw_if_ne C (kdec dc_M_begins 12 rfl) 27 25 (by decide) rfl (fun hc22 => ?_) (fun hc22 => ?_)
  · rw [if_neg hc22] at h
    refine kw_aload_n C (kdec dc_M_begins 15 rfl) rfl 28 rfl rfl ?_
    obtain ⟨σ_2, hg_3, h⟩ := kbind_h h
    refine kw_callV (As := []) C (kdec dc_M_begins 16 rfl) 31 rfl cv_M_162 rfl rfl (mt_mm_goes l0 hg_3) ⟨rfl, rfl⟩ ⟨Nat.le_of_ble_eq_true rfl, Nat.le_of_ble_eq_true rfl⟩ ⟨Nat.zero_le _, Nat.zero_le _⟩ rfl (Nat.le_of_ble_eq_true rfl) ?_
    change KW x 0 0 Q σ_2 31 [some (kr 0), none, none] []
    refine kw_iconst C (kdec dc_M_begins 17 rfl) 32 rfl rfl ⟨by decide, by decide⟩ ?_
    obtain rfl := Option.some.inj h
    exact kw_Q (hR _ _ rfl) (kw_zreturn C (kdec dc_M_begins 18 rfl) (by decide))
  · rw [if_pos hc22] at h
    refine kw_iconst C (kdec dc_M_begins 13 rfl) 26 rfl rfl ⟨by decide, by decide⟩ ?_
    obtain rfl := Option.some.inj h
    exact kw_Q (hR _ _ rfl) (kw_zreturn C (kdec dc_M_begins 14 rfl) (by decide))
def mm_begins_j9 (σ : kM) (x2 : Int) : Option (Int × kM) :=
  if x2 = 0 then
    mm_begins_j18 σ
  else
    (mm_wrong σ 5).bind fun σ_5 =>
    mm_begins_j18 σ_5
set_option maxHeartbeats 4000000 in
theorem bd_mm_begins_j9 {x : kX} {l0 : Launch} {Q : State → Prop} (C : kCx x prog_14_method_35_code "PoetFinesModel" (some .boolean) kcl yM 3 l0 R0_mm_begins) (σ : kM) (x2 : Int) {out : Int × kM} (h : mm_begins_j9 σ x2 = some out) (hR : ∀ (r : Int) (τ : kM), out = (r, τ) → Q = kQ x (some (ki r)) τ 0 0) : KW x 0 0 Q σ 9 [some (kr 0), none, some (ki x2)] [] := by
  unfold mm_begins_j9 at h
  refine kw_iload_n C (kdec dc_M_begins 5 rfl) rfl 10 rfl rfl ?_
  refine kw_if_eq C (kdec dc_M_begins 6 rfl) 18 13 (by decide) rfl (fun hc10 => ?_) (fun hc10 => ?_)
  · rw [if_pos hc10] at h
    exact kw_sub (L' := [some (kr 0), none, none]) ⟨rfl, trivial⟩ (bd_mm_begins_j18 C σ h hR)
  · rw [if_neg hc10] at h
    refine kw_aload_n C (kdec dc_M_begins 7 rfl) rfl 14 rfl rfl ?_
    refine kw_iconst C (kdec dc_M_begins 8 rfl) 15 rfl rfl ⟨by decide, by decide⟩ ?_
    obtain ⟨σ_5, hg_6, h⟩ := kbind_h h
    refine kw_callV (As := [ki 5]) C (kdec dc_M_begins 9 rfl) 18 rfl cv_M_165 rfl rfl (mt_mm_wrong l0 hg_6) ⟨rfl, rfl⟩ ⟨Nat.le_of_ble_eq_true rfl, Nat.le_of_ble_eq_true rfl⟩ ⟨Nat.zero_le _, Nat.zero_le _⟩ rfl (Nat.le_of_ble_eq_true rfl) ?_
    change KW x 0 0 Q σ_5 18 [some (kr 0), none, some (ki x2)] []
    exact kw_sub (L' := [some (kr 0), none, none]) ⟨rfl, trivial⟩ (bd_mm_begins_j18 C σ_5 h hR)
def mm_begins (σ : kM) (x1 : Int) (x2 : Int) : Option (Int × kM) :=
  if x1 = 0 then
    mm_begins_j9 σ x2
  else
    (mm_wrong σ 2).bind fun σ_7 =>
    mm_begins_j9 σ_7 x2
set_option maxHeartbeats 4000000 in
theorem bd_mm_begins {x : kX} {l0 : Launch} {Q : State → Prop} (C : kCx x prog_14_method_35_code "PoetFinesModel" (some .boolean) kcl yM 3 l0 R0_mm_begins) (σ : kM) (x1 : Int) (x2 : Int) {out : Int × kM} (h : mm_begins σ x1 x2 = some out) (hR : ∀ (r : Int) (τ : kM), out = (r, τ) → Q = kQ x (some (ki r)) τ 0 0) : KW x 0 0 Q σ 0 [some (kr 0), some (ki x1), some (ki x2)] [] := by
  unfold mm_begins at h
  refine kw_iload_n C (kdec dc_M_begins 0 rfl) rfl 1 rfl rfl ?_
  refine kw_if_eq C (kdec dc_M_begins 1 rfl) 9 4 (by decide) rfl (fun hc1 => ?_) (fun hc1 => ?_)
  · rw [if_pos hc1] at h
    exact kw_sub (L' := [some (kr 0), none, some (ki x2)]) ⟨rfl, rfl, trivial⟩ (bd_mm_begins_j9 C σ x2 h hR)
  · rw [if_neg hc1] at h
    refine kw_aload_n C (kdec dc_M_begins 2 rfl) rfl 5 rfl rfl ?_
    refine kw_iconst C (kdec dc_M_begins 3 rfl) 6 rfl rfl ⟨by decide, by decide⟩ ?_
    obtain ⟨σ_7, hg_8, h⟩ := kbind_h h
    refine kw_callV (As := [ki 2]) C (kdec dc_M_begins 4 rfl) 9 rfl cv_M_165 rfl rfl (mt_mm_wrong l0 hg_8) ⟨rfl, rfl⟩ ⟨Nat.le_of_ble_eq_true rfl, Nat.le_of_ble_eq_true rfl⟩ ⟨Nat.zero_le _, Nat.zero_le _⟩ rfl (Nat.le_of_ble_eq_true rfl) ?_
    change KW x 0 0 Q σ_7 9 [some (kr 0), some (ki x1), some (ki x2)] []
    exact kw_sub (L' := [some (kr 0), none, some (ki x2)]) ⟨rfl, rfl, trivial⟩ (bd_mm_begins_j9 C σ_7 x2 h hR)
theorem mt_mm_begins (l0 : Launch) {σ : kM} {x1 : Int} {x2 : Int} {r : Int} {τ : kM} (h : mm_begins σ x1 x2 = some (r, τ)) : kMet l0 ky_M_begins prog_14_method_35_code 3 (some .boolean) R0_mm_begins kcl yM σ [kr 0, ki x1, ki x2] (some (ki r)) τ := kMet.of' [some (kr 0), some (ki x1), some (ki x2)] (by decide) (Nat.le_of_ble_eq_true rfl) ⟨rfl, rfl, rfl, trivial⟩ (fun x C => bd_mm_begins C σ x1 x2 h (fun r τ e => by cases e; rfl))
def R0_mm_readsPerson : Room := ({ frames := 3, cells := 0, slots := 0, locals := 65 } : Room)
def mm_readsPerson_l22 (σ : kM) (x1 : Int) (x2 : Int) : Option ((kM × Int) ⊕ ((kM))) :=
  if (σ 0 21) ≤ x2 then
    some (Sum.inr σ)
  else
    (mm_number σ 0 9).bind fun (r_6, σ_7) =>
    kchk (0 ≤ (w32 ((w32 (113 + (w32 (4 * x1)))) + x2)) ∧ (w32 ((w32 (113 + (w32 (4 * x1)))) + x2)) < 145) <|
    klet (kst σ_7 4 (kup (σ_7 4) ((w32 ((w32 (113 + (w32 (4 * x1)))) + x2)).toNat) r_6)) fun σ_9 =>
    klet (w32 (x2 + 1)) fun x2_10 =>
    some (Sum.inl (σ_9, x2_10))
set_option maxHeartbeats 4000000 in
theorem bd_mm_readsPerson_l22 {x : kX} {l0 : Launch} {Q : State → Prop} (C : kCx x prog_14_method_36_code "PoetFinesModel" none kcl yM 3 l0 R0_mm_readsPerson) (σ : kM) (x1 : Int) (x2 : Int) {out : (kM × Int) ⊕ ((kM))} (h : mm_readsPerson_l22 σ x1 x2 = some out) (hC : ∀ (σ' : kM) (x2' : Int), out = Sum.inl (σ', x2') → KW x 0 0 Q σ' 22 [some (kr 0), some (ki x1), some (ki x2')] []) (hX56 : ∀ (σ' : kM), out = Sum.inr σ' → KW x 0 0 Q σ' 56 [some (kr 0), none, none] []) : KW x 0 0 Q σ 22 [some (kr 0), some (ki x1), some (ki x2)] [] := by
  unfold mm_readsPerson_l22 at h
  refine kw_iload_n C (kdec dc_M_readsPerson 15 rfl) rfl 23 rfl rfl ?_
  refine kw_aload_n C (kdec dc_M_readsPerson 16 rfl) rfl 24 rfl rfl ?_
  refine kw_getI C (kdec dc_M_readsPerson 17 rfl) 27 rfl fd_M_M_168_0 ?_
  refine kw_icmp_ge C (kdec dc_M_readsPerson 18 rfl) 56 30 (by decide) rfl (fun hc27 => ?_) (fun hc27 => ?_)
  · rw [if_pos hc27] at h
    obtain rfl := Option.some.inj h
    exact kw_sub (L' := [some (kr 0), none, none]) ⟨rfl, trivial⟩ (hX56 _ rfl)
  · rw [if_neg hc27] at h
    refine kw_aload_n C (kdec dc_M_readsPerson 19 rfl) rfl 31 rfl rfl ?_
    refine kw_getR C (kdec dc_M_readsPerson 20 rfl) 34 rfl fd_M_M_35_0 ?_
    refine kw_bipush (v := 113) C (kdec dc_M_readsPerson 21 rfl) 36 rfl (by decide) ⟨by decide, by decide⟩ ?_
    refine kw_iconst C (kdec dc_M_readsPerson 22 rfl) 37 rfl rfl ⟨by decide, by decide⟩ ?_
    refine kw_iload_n C (kdec dc_M_readsPerson 23 rfl) rfl 38 rfl rfl ?_
    refine kw_imul C (kdec dc_M_readsPerson 24 rfl) 39 rfl ?_
    refine kw_iadd C (kdec dc_M_readsPerson 25 rfl) 40 rfl ?_
    refine kw_iload_n C (kdec dc_M_readsPerson 26 rfl) rfl 41 rfl rfl ?_
    refine kw_iadd C (kdec dc_M_readsPerson 27 rfl) 42 rfl ?_
    refine kw_aload_n C (kdec dc_M_readsPerson 28 rfl) rfl 43 rfl rfl ?_
    refine kw_iconst C (kdec dc_M_readsPerson 29 rfl) 44 rfl rfl ⟨by decide, by decide⟩ ?_
    refine kw_bipush (v := 9) C (kdec dc_M_readsPerson 30 rfl) 46 rfl (by decide) ⟨by decide, by decide⟩ ?_
    obtain ⟨⟨r_6, σ_7⟩, hg_11, h⟩ := kbind_h h
    dsimp only at h
    refine kw_callV (As := [ki 0, ki 9]) C (kdec dc_M_readsPerson 31 rfl) 49 rfl cv_M_227 rfl rfl (mt_mm_number l0 hg_11) ⟨rfl, rfl⟩ ⟨Nat.le_of_ble_eq_true rfl, Nat.le_of_ble_eq_true rfl⟩ ⟨Nat.zero_le _, Nat.zero_le _⟩ rfl (Nat.le_of_ble_eq_true rfl) ?_
    change KW x 0 0 Q σ_7 49 [some (kr 0), some (ki x1), some (ki x2)] [ki r_6, ki (w32 ((w32 (113 + (w32 (4 * x1)))) + x2)), kr 4]
    obtain ⟨hc_8, h⟩ := kchk_h h
    obtain ⟨σ_9, eσ_9, h⟩ := klet_h h
    refine kw_iast C (kdec dc_M_readsPerson 32 rfl) 50 rfl rfl hc_8.1 hc_8.2 ?_
    refine kw_sig eσ_9 ?_
    obtain ⟨x2_10, ex2_10, h⟩ := klet_h h
    refine kw_iinc (L' := [some (kr 0), some (ki x1), some (ki x2_10)]) C (kdec dc_M_readsPerson 33 rfl) 53 rfl rfl (by decide) rfl (by rw [ex2_10]; rfl) ?_
    refine kw_goto C (kdec dc_M_readsPerson 34 rfl) 22 (by decide) ?_
    obtain rfl := Option.some.inj h
    exact (hC _ _ rfl)
theorem lp_mm_readsPerson_l22 {x : kX} {l0 : Launch} {Q : State → Prop} (C : kCx x prog_14_method_36_code "PoetFinesModel" none kcl yM 3 l0 R0_mm_readsPerson) (x1 : Int) {ex : (kM)} (hX56 : ∀ (σ' : kM), ex = σ' → KW x 0 0 Q σ' 56 [some (kr 0), none, none] []) (n : Nat) (σ : kM) (x2 : Int) (h : kloop (fun st => mm_readsPerson_l22 st.1 x1 st.2) n (σ, x2) = some ex) : KW x 0 0 Q σ 22 [some (kr 0), some (ki x1), some (ki x2)] [] :=
  kloop_ind (P := (fun st : kM × Int => KW x 0 0 Q st.1 22 [some (kr 0), some (ki x1), some (ki (st.2))] [])) (fun st out hb hc hx => bd_mm_readsPerson_l22 C st.1 x1 st.2 hb (fun a0 a1 e => hc _ e) (fun a0 e => hX56 _ ((hx _ e).symm))) n (σ, x2) h
def mm_readsPerson (σ : kM) : Option (kM) :=
  klet (σ 0 22) fun x1_1 =>
  (mm_number σ 0 99).bind fun (r_2, σ_3) =>
  kchk (0 ≤ (w32 (1 + x1_1)) ∧ (w32 (1 + x1_1)) < 145) <|
  klet (kst σ_3 4 (kup (σ_3 4) ((w32 (1 + x1_1)).toNat) r_2)) fun σ_5 =>
  (kloop (fun st => mm_readsPerson_l22 st.1 x1_1 st.2) kFuel (σ_5, 0)).bind fun σ_14 =>
  (mm_isGood σ_14).bind fun r_15 =>
  if r_15 = 0 then
    some σ_14
  else
    klet (kst σ_14 0 (kup (σ_14 0) 22 (w32 ((σ_14 0 22) + 1)))) fun σ_16 =>
    some σ_16
set_option maxHeartbeats 4000000 in
theorem bd_mm_readsPerson {x : kX} {l0 : Launch} {Q : State → Prop} (C : kCx x prog_14_method_36_code "PoetFinesModel" none kcl yM 3 l0 R0_mm_readsPerson) (σ : kM) {out : kM} (h : mm_readsPerson σ = some out) (hR : ∀ (τ : kM), out = τ → Q = kQ x none τ 0 0) : KW x 0 0 Q σ 0 [some (kr 0), none, none] [] := by
  unfold mm_readsPerson at h
  refine kw_aload_n C (kdec dc_M_readsPerson 0 rfl) rfl 1 rfl rfl ?_
  refine kw_getI C (kdec dc_M_readsPerson 1 rfl) 4 rfl fd_M_M_224_0 ?_
  obtain ⟨x1_1, ex1_1, h⟩ := klet_h h
  refine kw_top ex1_1 ?_
  refine kw_istore_n (L' := [some (kr 0), some (ki x1_1), none]) C (kdec dc_M_readsPerson 2 rfl) rfl 5 rfl (by decide) rfl rfl ?_
  refine kw_aload_n C (kdec dc_M_readsPerson 3 rfl) rfl 6 rfl rfl ?_
  refine kw_getR C (kdec dc_M_readsPerson 4 rfl) 9 rfl fd_M_M_35_0 ?_
  refine kw_iconst C (kdec dc_M_readsPerson 5 rfl) 10 rfl rfl ⟨by decide, by decide⟩ ?_
  refine kw_iload_n C (kdec dc_M_readsPerson 6 rfl) rfl 11 rfl rfl ?_
  refine kw_iadd C (kdec dc_M_readsPerson 7 rfl) 12 rfl ?_
  refine kw_aload_n C (kdec dc_M_readsPerson 8 rfl) rfl 13 rfl rfl ?_
  refine kw_iconst C (kdec dc_M_readsPerson 9 rfl) 14 rfl rfl ⟨by decide, by decide⟩ ?_
  refine kw_bipush (v := 99) C (kdec dc_M_readsPerson 10 rfl) 16 rfl (by decide) ⟨by decide, by decide⟩ ?_
  obtain ⟨⟨r_2, σ_3⟩, hg_18, h⟩ := kbind_h h
  dsimp only at h
  refine kw_callV (As := [ki 0, ki 99]) C (kdec dc_M_readsPerson 11 rfl) 19 rfl cv_M_227 rfl rfl (mt_mm_number l0 hg_18) ⟨rfl, rfl⟩ ⟨Nat.le_of_ble_eq_true rfl, Nat.le_of_ble_eq_true rfl⟩ ⟨Nat.zero_le _, Nat.zero_le _⟩ rfl (Nat.le_of_ble_eq_true rfl) ?_
  change KW x 0 0 Q σ_3 19 [some (kr 0), some (ki x1_1), none] [ki r_2, ki (w32 (1 + x1_1)), kr 4]
  obtain ⟨hc_4, h⟩ := kchk_h h
  obtain ⟨σ_5, eσ_5, h⟩ := klet_h h
  refine kw_iast C (kdec dc_M_readsPerson 12 rfl) 20 rfl rfl hc_4.1 hc_4.2 ?_
  refine kw_sig eσ_5 ?_
  refine kw_iconst C (kdec dc_M_readsPerson 13 rfl) 21 rfl rfl ⟨by decide, by decide⟩ ?_
  refine kw_istore_n (L' := [some (kr 0), some (ki x1_1), some (ki 0)]) C (kdec dc_M_readsPerson 14 rfl) rfl 22 rfl (by decide) rfl rfl ?_
  obtain ⟨ex_12, hl_13, h⟩ := kbind_h h
  refine lp_mm_readsPerson_l22 C x1_1 ?_ kFuel σ_5 0 hl_13
  · intro σ_14 e
    subst ex_12
    try dsimp only at h
    refine kw_aload_n C (kdec dc_M_readsPerson 35 rfl) rfl 57 rfl rfl ?_
    obtain ⟨r_15, hg_17, h⟩ := kbind_h h
    refine kw_callV (As := []) C (kdec dc_M_readsPerson 36 rfl) 60 rfl cv_M_158 rfl rfl (mt_mm_isGood l0 hg_17) ⟨rfl, rfl⟩ ⟨Nat.le_of_ble_eq_true rfl, Nat.le_of_ble_eq_true rfl⟩ ⟨Nat.zero_le _, Nat.zero_le _⟩ rfl (Nat.le_of_ble_eq_true rfl) ?_
    change KW x 0 0 Q σ_14 60 [some (kr 0), none, none] [ki r_15]
    refine kw_if_eq C (kdec dc_M_readsPerson 37 rfl) 73 63 (by decide) rfl (fun hc60 => ?_) (fun hc60 => ?_)
    · rw [if_pos hc60] at h
      obtain rfl := Option.some.inj h
      exact kw_Q (hR _ rfl) (kw_return C (kdec dc_M_readsPerson 44 rfl))
    · rw [if_neg hc60] at h
      refine kw_aload_n C (kdec dc_M_readsPerson 38 rfl) rfl 64 rfl rfl ?_
      refine kw_dup C (kdec dc_M_readsPerson 39 rfl) 65 rfl rfl ?_
      refine kw_getI C (kdec dc_M_readsPerson 40 rfl) 68 rfl fd_M_M_224_0 ?_
      refine kw_iconst C (kdec dc_M_readsPerson 41 rfl) 69 rfl rfl ⟨by decide, by decide⟩ ?_
      refine kw_iadd C (kdec dc_M_readsPerson 42 rfl) 70 rfl ?_
      obtain ⟨σ_16, eσ_16, h⟩ := klet_h h
      refine kw_putI C (kdec dc_M_readsPerson 43 rfl) 73 rfl fp_M_M_224_0 ?_
      refine kw_sig eσ_16 ?_
      obtain rfl := Option.some.inj h
      exact kw_Q (hR _ rfl) (kw_return C (kdec dc_M_readsPerson 44 rfl))
theorem mt_mm_readsPerson (l0 : Launch) {σ : kM} {τ : kM} (h : mm_readsPerson σ = some τ) : kMet l0 ky_M_readsPerson prog_14_method_36_code 3 none R0_mm_readsPerson kcl yM σ [kr 0] none τ := kMet.of' [some (kr 0), none, none] (by decide) (Nat.le_of_ble_eq_true rfl) ⟨rfl, trivial⟩ (fun x C => bd_mm_readsPerson C σ h (fun τ e => by subst e; rfl))
def R0_mm_readsPoet : Room := ({ frames := 3, cells := 0, slots := 0, locals := 65 } : Room)
def mm_readsPoet_l25_j126 (σ : kM) (x1 : Int) (x2 : Int) (s0 : Int) : Option ((kM × Int × Int) ⊕ ((kM) ⊕ (kM × Int))) :=
  some (Sum.inl (σ, x2, s0))
set_option maxHeartbeats 4000000 in
theorem bd_mm_readsPoet_l25_j126 {x : kX} {l0 : Launch} {Q : State → Prop} (C : kCx x prog_14_method_37_code "PoetFinesModel" none kcl yM 6 l0 R0_mm_readsPoet) (σ : kM) (x1 : Int) (x2 : Int) (s0 : Int) {out : (kM × Int × Int) ⊕ ((kM) ⊕ (kM × Int))} (h : mm_readsPoet_l25_j126 σ x1 x2 s0 = some out) (hC : ∀ (σ' : kM) (x2' : Int) (x3' : Int), out = Sum.inl (σ', x2', x3') → KW x 0 0 Q σ' 25 [some (kr 0), some (ki x1), some (ki x2'), some (ki x3'), none, none] []) (hX77 : ∀ (σ' : kM), out = Sum.inr (Sum.inl σ') → KW x 0 0 Q σ' 77 [none, none, none, none, none, none] []) (hX130 : ∀ (σ' : kM) (x2' : Int), out = Sum.inr (Sum.inr (σ', x2')) → KW x 0 0 Q σ' 130 [some (kr 0), some (ki x1), some (ki x2'), none, none, none] []) : KW x 0 0 Q σ 126 [some (kr 0), some (ki x1), some (ki x2), none, none, none] [ki s0] := by
  unfold mm_readsPoet_l25_j126 at h
  refine kw_istore_n (L' := [some (kr 0), some (ki x1), some (ki x2), some (ki s0), none, none]) C (kdec dc_M_readsPoet 74 rfl) rfl 127 rfl (by decide) rfl rfl ?_
  refine kw_goto C (kdec dc_M_readsPoet 75 rfl) 25 (by decide) ?_
  obtain rfl := Option.some.inj h
  exact (hC _ _ _ rfl)
def mm_readsPoet_l25_j55 (σ : kM) (x1 : Int) (x2 : Int) : Option ((kM × Int × Int) ⊕ ((kM) ⊕ (kM × Int))) :=
  (mm_topicHere σ).bind fun (r_7, σ_8) =>
  (mm_number σ_8 0 9).bind fun (r_9, σ_10) =>
  (mm_isGood σ_10).bind fun r_11 =>
  if r_11 = 0 then
    some (Sum.inr (Sum.inl σ_10))
  else
    kchk (0 ≤ (w32 ((w32 (65 + (w32 (6 * x1)))) + x2)) ∧ (w32 ((w32 (65 + (w32 (6 * x1)))) + x2)) < 145) <|
    klet (kst σ_10 4 (kup (σ_10 4) ((w32 ((w32 (65 + (w32 (6 * x1)))) + x2)).toNat) r_7)) fun σ_13 =>
    kchk (0 ≤ (w32 ((w32 (89 + (w32 (6 * x1)))) + x2)) ∧ (w32 ((w32 (89 + (w32 (6 * x1)))) + x2)) < 145) <|
    klet (kst σ_13 4 (kup (σ_13 4) ((w32 ((w32 (89 + (w32 (6 * x1)))) + x2)).toNat) r_9)) fun σ_15 =>
    klet (w32 (x2 + 1)) fun x2_16 =>
    if (σ_15 0 15) = 2 then
      mm_readsPoet_l25_j126 σ_15 x1 x2_16 1
    else
      mm_readsPoet_l25_j126 σ_15 x1 x2_16 0
set_option maxHeartbeats 4000000 in
theorem bd_mm_readsPoet_l25_j55 {x : kX} {l0 : Launch} {Q : State → Prop} (C : kCx x prog_14_method_37_code "PoetFinesModel" none kcl yM 6 l0 R0_mm_readsPoet) (σ : kM) (x1 : Int) (x2 : Int) {out : (kM × Int × Int) ⊕ ((kM) ⊕ (kM × Int))} (h : mm_readsPoet_l25_j55 σ x1 x2 = some out) (hC : ∀ (σ' : kM) (x2' : Int) (x3' : Int), out = Sum.inl (σ', x2', x3') → KW x 0 0 Q σ' 25 [some (kr 0), some (ki x1), some (ki x2'), some (ki x3'), none, none] []) (hX77 : ∀ (σ' : kM), out = Sum.inr (Sum.inl σ') → KW x 0 0 Q σ' 77 [none, none, none, none, none, none] []) (hX130 : ∀ (σ' : kM) (x2' : Int), out = Sum.inr (Sum.inr (σ', x2')) → KW x 0 0 Q σ' 130 [some (kr 0), some (ki x1), some (ki x2'), none, none, none] []) : KW x 0 0 Q σ 55 [some (kr 0), some (ki x1), some (ki x2), none, none, none] [] := by
  unfold mm_readsPoet_l25_j55 at h
  refine kw_aload_n C (kdec dc_M_readsPoet 32 rfl) rfl 56 rfl rfl ?_
  obtain ⟨⟨r_7, σ_8⟩, hg_19, h⟩ := kbind_h h
  dsimp only at h
  refine kw_callV (As := []) C (kdec dc_M_readsPoet 33 rfl) 59 rfl cv_M_234 rfl rfl (mt_mm_topicHere l0 hg_19) ⟨rfl, rfl⟩ ⟨Nat.le_of_ble_eq_true rfl, Nat.le_of_ble_eq_true rfl⟩ ⟨Nat.zero_le _, Nat.zero_le _⟩ rfl (Nat.le_of_ble_eq_true rfl) ?_
  change KW x 0 0 Q σ_8 59 [some (kr 0), some (ki x1), some (ki x2), none, none, none] [ki r_7]
  refine kw_istore (L' := [some (kr 0), some (ki x1), some (ki x2), none, some (ki r_7), none]) C (kdec dc_M_readsPoet 34 rfl) 61 rfl (by decide) rfl rfl ?_
  refine kw_aload_n C (kdec dc_M_readsPoet 35 rfl) rfl 62 rfl rfl ?_
  refine kw_iconst C (kdec dc_M_readsPoet 36 rfl) 63 rfl rfl ⟨by decide, by decide⟩ ?_
  refine kw_bipush (v := 9) C (kdec dc_M_readsPoet 37 rfl) 65 rfl (by decide) ⟨by decide, by decide⟩ ?_
  obtain ⟨⟨r_9, σ_10⟩, hg_18, h⟩ := kbind_h h
  dsimp only at h
  refine kw_callV (As := [ki 0, ki 9]) C (kdec dc_M_readsPoet 38 rfl) 68 rfl cv_M_227 rfl rfl (mt_mm_number l0 hg_18) ⟨rfl, rfl⟩ ⟨Nat.le_of_ble_eq_true rfl, Nat.le_of_ble_eq_true rfl⟩ ⟨Nat.zero_le _, Nat.zero_le _⟩ rfl (Nat.le_of_ble_eq_true rfl) ?_
  change KW x 0 0 Q σ_10 68 [some (kr 0), some (ki x1), some (ki x2), none, some (ki r_7), none] [ki r_9]
  refine kw_istore (L' := [some (kr 0), some (ki x1), some (ki x2), none, some (ki r_7), some (ki r_9)]) C (kdec dc_M_readsPoet 39 rfl) 70 rfl (by decide) rfl rfl ?_
  refine kw_aload_n C (kdec dc_M_readsPoet 40 rfl) rfl 71 rfl rfl ?_
  obtain ⟨r_11, hg_17, h⟩ := kbind_h h
  refine kw_callV (As := []) C (kdec dc_M_readsPoet 41 rfl) 74 rfl cv_M_158 rfl rfl (mt_mm_isGood l0 hg_17) ⟨rfl, rfl⟩ ⟨Nat.le_of_ble_eq_true rfl, Nat.le_of_ble_eq_true rfl⟩ ⟨Nat.zero_le _, Nat.zero_le _⟩ rfl (Nat.le_of_ble_eq_true rfl) ?_
  change KW x 0 0 Q σ_10 74 [some (kr 0), some (ki x1), some (ki x2), none, some (ki r_7), some (ki r_9)] [ki r_11]
  refine kw_if_ne C (kdec dc_M_readsPoet 42 rfl) 78 77 (by decide) rfl (fun hc74 => ?_) (fun hc74 => ?_)
  · rw [if_neg hc74] at h
    refine kw_aload_n C (kdec dc_M_readsPoet 44 rfl) rfl 79 rfl rfl ?_
    refine kw_getR C (kdec dc_M_readsPoet 45 rfl) 82 rfl fd_M_M_35_0 ?_
    refine kw_bipush (v := 65) C (kdec dc_M_readsPoet 46 rfl) 84 rfl (by decide) ⟨by decide, by decide⟩ ?_
    refine kw_bipush (v := 6) C (kdec dc_M_readsPoet 47 rfl) 86 rfl (by decide) ⟨by decide, by decide⟩ ?_
    refine kw_iload_n C (kdec dc_M_readsPoet 48 rfl) rfl 87 rfl rfl ?_
    refine kw_imul C (kdec dc_M_readsPoet 49 rfl) 88 rfl ?_
    refine kw_iadd C (kdec dc_M_readsPoet 50 rfl) 89 rfl ?_
    refine kw_iload_n C (kdec dc_M_readsPoet 51 rfl) rfl 90 rfl rfl ?_
    refine kw_iadd C (kdec dc_M_readsPoet 52 rfl) 91 rfl ?_
    refine kw_iload C (kdec dc_M_readsPoet 53 rfl) 93 rfl rfl ?_
    obtain ⟨hc_12, h⟩ := kchk_h h
    obtain ⟨σ_13, eσ_13, h⟩ := klet_h h
    refine kw_iast C (kdec dc_M_readsPoet 54 rfl) 94 rfl rfl hc_12.1 hc_12.2 ?_
    refine kw_sig eσ_13 ?_
    refine kw_aload_n C (kdec dc_M_readsPoet 55 rfl) rfl 95 rfl rfl ?_
    refine kw_getR C (kdec dc_M_readsPoet 56 rfl) 98 rfl fd_M_M_35_0 ?_
    refine kw_bipush (v := 89) C (kdec dc_M_readsPoet 57 rfl) 100 rfl (by decide) ⟨by decide, by decide⟩ ?_
    refine kw_bipush (v := 6) C (kdec dc_M_readsPoet 58 rfl) 102 rfl (by decide) ⟨by decide, by decide⟩ ?_
    refine kw_iload_n C (kdec dc_M_readsPoet 59 rfl) rfl 103 rfl rfl ?_
    refine kw_imul C (kdec dc_M_readsPoet 60 rfl) 104 rfl ?_
    refine kw_iadd C (kdec dc_M_readsPoet 61 rfl) 105 rfl ?_
    refine kw_iload_n C (kdec dc_M_readsPoet 62 rfl) rfl 106 rfl rfl ?_
    refine kw_iadd C (kdec dc_M_readsPoet 63 rfl) 107 rfl ?_
    refine kw_iload C (kdec dc_M_readsPoet 64 rfl) 109 rfl rfl ?_
    obtain ⟨hc_14, h⟩ := kchk_h h
    obtain ⟨σ_15, eσ_15, h⟩ := klet_h h
    refine kw_iast C (kdec dc_M_readsPoet 65 rfl) 110 rfl rfl hc_14.1 hc_14.2 ?_
    refine kw_sig eσ_15 ?_
    obtain ⟨x2_16, ex2_16, h⟩ := klet_h h
    refine kw_iinc (L' := [some (kr 0), some (ki x1), some (ki x2_16), none, some (ki r_7), some (ki r_9)]) C (kdec dc_M_readsPoet 66 rfl) 113 rfl rfl (by decide) rfl (by rw [ex2_16]; rfl) ?_
    refine kw_aload_n C (kdec dc_M_readsPoet 67 rfl) rfl 114 rfl rfl ?_
    refine kw_getI C (kdec dc_M_readsPoet 68 rfl) 117 rfl fd_M_M_132_0 ?_
    refine kw_iconst C (kdec dc_M_readsPoet 69 rfl) 118 rfl rfl ⟨by decide, by decide⟩ ?_
    refine kw_icmp_ne C (kdec dc_M_readsPoet 70 rfl) 125 121 (by decide) rfl (fun hc118 => ?_) (fun hc118 => ?_)
    · rw [if_neg hc118] at h
      refine kw_iconst C (kdec dc_M_readsPoet 73 rfl) 126 rfl rfl ⟨by decide, by decide⟩ ?_
      exact kw_sub (L' := [some (kr 0), some (ki x1), some (ki x2_16), none, none, none]) ⟨rfl, rfl, rfl, trivial⟩ (bd_mm_readsPoet_l25_j126 C σ_15 x1 x2_16 0 h hC hX77 hX130)
    · rw [if_pos hc118] at h
      refine kw_iconst C (kdec dc_M_readsPoet 71 rfl) 122 rfl rfl ⟨by decide, by decide⟩ ?_
      refine kw_goto C (kdec dc_M_readsPoet 72 rfl) 126 (by decide) ?_
      exact kw_sub (L' := [some (kr 0), some (ki x1), some (ki x2_16), none, none, none]) ⟨rfl, rfl, rfl, trivial⟩ (bd_mm_readsPoet_l25_j126 C σ_15 x1 x2_16 1 h hC hX77 hX130)
  · rw [if_pos hc74] at h
    obtain rfl := Option.some.inj h
    exact kw_sub (L' := [none, none, none, none, none, none]) trivial (hX77 _ rfl)
def mm_readsPoet_l25 (σ : kM) (x1 : Int) (x2 : Int) (x3 : Int) : Option ((kM × Int × Int) ⊕ ((kM) ⊕ (kM × Int))) :=
  if x3 = 0 then
    some (Sum.inr (Sum.inr (σ, x2)))
  else
    (mm_isGood σ).bind fun r_6 =>
    if r_6 = 0 then
      some (Sum.inr (Sum.inr (σ, x2)))
    else
      if x2 = 6 then
        if (σ 0 15) = 2 then
          (mm_wrong σ 2).bind fun σ_20 =>
          mm_readsPoet_l25_j55 σ_20 x1 x2
        else
          mm_readsPoet_l25_j55 σ x1 x2
      else
        mm_readsPoet_l25_j55 σ x1 x2
set_option maxHeartbeats 4000000 in
theorem bd_mm_readsPoet_l25 {x : kX} {l0 : Launch} {Q : State → Prop} (C : kCx x prog_14_method_37_code "PoetFinesModel" none kcl yM 6 l0 R0_mm_readsPoet) (σ : kM) (x1 : Int) (x2 : Int) (x3 : Int) {out : (kM × Int × Int) ⊕ ((kM) ⊕ (kM × Int))} (h : mm_readsPoet_l25 σ x1 x2 x3 = some out) (hC : ∀ (σ' : kM) (x2' : Int) (x3' : Int), out = Sum.inl (σ', x2', x3') → KW x 0 0 Q σ' 25 [some (kr 0), some (ki x1), some (ki x2'), some (ki x3'), none, none] []) (hX77 : ∀ (σ' : kM), out = Sum.inr (Sum.inl σ') → KW x 0 0 Q σ' 77 [none, none, none, none, none, none] []) (hX130 : ∀ (σ' : kM) (x2' : Int), out = Sum.inr (Sum.inr (σ', x2')) → KW x 0 0 Q σ' 130 [some (kr 0), some (ki x1), some (ki x2'), none, none, none] []) : KW x 0 0 Q σ 25 [some (kr 0), some (ki x1), some (ki x2), some (ki x3), none, none] [] := by
  unfold mm_readsPoet_l25 at h
  refine kw_iload_n C (kdec dc_M_readsPoet 17 rfl) rfl 26 rfl rfl ?_
  refine kw_if_eq C (kdec dc_M_readsPoet 18 rfl) 130 29 (by decide) rfl (fun hc26 => ?_) (fun hc26 => ?_)
  · rw [if_pos hc26] at h
    obtain rfl := Option.some.inj h
    exact kw_sub (L' := [some (kr 0), some (ki x1), some (ki x2), none, none, none]) ⟨rfl, rfl, rfl, trivial⟩ (hX130 _ _ rfl)
  · rw [if_neg hc26] at h
    refine kw_aload_n C (kdec dc_M_readsPoet 19 rfl) rfl 30 rfl rfl ?_
    obtain ⟨r_6, hg_22, h⟩ := kbind_h h
    refine kw_callV (As := []) C (kdec dc_M_readsPoet 20 rfl) 33 rfl cv_M_158 rfl rfl (mt_mm_isGood l0 hg_22) ⟨rfl, rfl⟩ ⟨Nat.le_of_ble_eq_true rfl, Nat.le_of_ble_eq_true rfl⟩ ⟨Nat.zero_le _, Nat.zero_le _⟩ rfl (Nat.le_of_ble_eq_true rfl) ?_
    change KW x 0 0 Q σ 33 [some (kr 0), some (ki x1), some (ki x2), some (ki x3), none, none] [ki r_6]
    refine kw_if_eq C (kdec dc_M_readsPoet 21 rfl) 130 36 (by decide) rfl (fun hc33 => ?_) (fun hc33 => ?_)
    · rw [if_pos hc33] at h
      obtain rfl := Option.some.inj h
      exact kw_sub (L' := [some (kr 0), some (ki x1), some (ki x2), none, none, none]) ⟨rfl, rfl, rfl, trivial⟩ (hX130 _ _ rfl)
    · rw [if_neg hc33] at h
      refine kw_iload_n C (kdec dc_M_readsPoet 22 rfl) rfl 37 rfl rfl ?_
      refine kw_bipush (v := 6) C (kdec dc_M_readsPoet 23 rfl) 39 rfl (by decide) ⟨by decide, by decide⟩ ?_
      refine kw_icmp_ne C (kdec dc_M_readsPoet 24 rfl) 55 42 (by decide) rfl (fun hc39 => ?_) (fun hc39 => ?_)
      · rw [if_neg hc39] at h
        exact kw_sub (L' := [some (kr 0), some (ki x1), some (ki x2), none, none, none]) ⟨rfl, rfl, rfl, trivial⟩ (bd_mm_readsPoet_l25_j55 C σ x1 x2 h hC hX77 hX130)
      · rw [if_pos hc39] at h
        refine kw_aload_n C (kdec dc_M_readsPoet 25 rfl) rfl 43 rfl rfl ?_
        refine kw_getI C (kdec dc_M_readsPoet 26 rfl) 46 rfl fd_M_M_132_0 ?_
        refine kw_iconst C (kdec dc_M_readsPoet 27 rfl) 47 rfl rfl ⟨by decide, by decide⟩ ?_
        refine kw_icmp_ne C (kdec dc_M_readsPoet 28 rfl) 55 50 (by decide) rfl (fun hc47 => ?_) (fun hc47 => ?_)
        · rw [if_neg hc47] at h
          exact kw_sub (L' := [some (kr 0), some (ki x1), some (ki x2), none, none, none]) ⟨rfl, rfl, rfl, trivial⟩ (bd_mm_readsPoet_l25_j55 C σ x1 x2 h hC hX77 hX130)
        · rw [if_pos hc47] at h
          refine kw_aload_n C (kdec dc_M_readsPoet 29 rfl) rfl 51 rfl rfl ?_
          refine kw_iconst C (kdec dc_M_readsPoet 30 rfl) 52 rfl rfl ⟨by decide, by decide⟩ ?_
          obtain ⟨σ_20, hg_21, h⟩ := kbind_h h
          refine kw_callV (As := [ki 2]) C (kdec dc_M_readsPoet 31 rfl) 55 rfl cv_M_165 rfl rfl (mt_mm_wrong l0 hg_21) ⟨rfl, rfl⟩ ⟨Nat.le_of_ble_eq_true rfl, Nat.le_of_ble_eq_true rfl⟩ ⟨Nat.zero_le _, Nat.zero_le _⟩ rfl (Nat.le_of_ble_eq_true rfl) ?_
          change KW x 0 0 Q σ_20 55 [some (kr 0), some (ki x1), some (ki x2), some (ki x3), none, none] []
          exact kw_sub (L' := [some (kr 0), some (ki x1), some (ki x2), none, none, none]) ⟨rfl, rfl, rfl, trivial⟩ (bd_mm_readsPoet_l25_j55 C σ_20 x1 x2 h hC hX77 hX130)
theorem lp_mm_readsPoet_l25 {x : kX} {l0 : Launch} {Q : State → Prop} (C : kCx x prog_14_method_37_code "PoetFinesModel" none kcl yM 6 l0 R0_mm_readsPoet) (x1 : Int) {ex : (kM) ⊕ (kM × Int)} (hX77 : ∀ (σ' : kM), ex = (Sum.inl σ') → KW x 0 0 Q σ' 77 [none, none, none, none, none, none] []) (hX130 : ∀ (σ' : kM) (x2' : Int), ex = (Sum.inr (σ', x2')) → KW x 0 0 Q σ' 130 [some (kr 0), some (ki x1), some (ki x2'), none, none, none] []) (n : Nat) (σ : kM) (x2 : Int) (x3 : Int) (h : kloop (fun st => mm_readsPoet_l25 st.1 x1 st.2.1 st.2.2) n (σ, x2, x3) = some ex) : KW x 0 0 Q σ 25 [some (kr 0), some (ki x1), some (ki x2), some (ki x3), none, none] [] :=
  kloop_ind (P := (fun st : kM × Int × Int => KW x 0 0 Q st.1 25 [some (kr 0), some (ki x1), some (ki (st.2.1)), some (ki (st.2.2)), none, none] [])) (fun st out hb hc hx => bd_mm_readsPoet_l25 C st.1 x1 st.2.1 st.2.2 hb (fun a0 a1 a2 e => hc _ e) (fun a0 e => hX77 _ ((hx _ e).symm)) (fun a0 a1 e => hX130 _ _ ((hx _ e).symm))) n (σ, x2, x3) h
def mm_readsPoet (σ : kM) : Option (kM) :=
  klet (σ 0 23) fun x1_1 =>
  (mm_number σ 0 99).bind fun (r_2, σ_3) =>
  kchk (0 ≤ (w32 (17 + x1_1)) ∧ (w32 (17 + x1_1)) < 145) <|
  klet (kst σ_3 4 (kup (σ_3 4) ((w32 (17 + x1_1)).toNat) r_2)) fun σ_5 =>
  (kloop (fun st => mm_readsPoet_l25 st.1 x1_1 st.2.1 st.2.2) kFuel (σ_5, 0, 1)).bind fun ex_23 => match ex_23 with
    | (Sum.inl σ_25) =>
      some σ_25
    | (Sum.inr (σ_26, x2_27)) =>
      kchk (0 ≤ (w32 (61 + x1_1)) ∧ (w32 (61 + x1_1)) < 145) <|
      klet (kst σ_26 4 (kup (σ_26 4) ((w32 (61 + x1_1)).toNat) x2_27)) fun σ_29 =>
      (mm_isGood σ_29).bind fun r_30 =>
      if r_30 = 0 then
        some σ_29
      else
        klet (kst σ_29 0 (kup (σ_29 0) 23 (w32 ((σ_29 0 23) + 1)))) fun σ_31 =>
        some σ_31
set_option maxHeartbeats 4000000 in
theorem bd_mm_readsPoet {x : kX} {l0 : Launch} {Q : State → Prop} (C : kCx x prog_14_method_37_code "PoetFinesModel" none kcl yM 6 l0 R0_mm_readsPoet) (σ : kM) {out : kM} (h : mm_readsPoet σ = some out) (hR : ∀ (τ : kM), out = τ → Q = kQ x none τ 0 0) : KW x 0 0 Q σ 0 [some (kr 0), none, none, none, none, none] [] := by
  unfold mm_readsPoet at h
  refine kw_aload_n C (kdec dc_M_readsPoet 0 rfl) rfl 1 rfl rfl ?_
  refine kw_getI C (kdec dc_M_readsPoet 1 rfl) 4 rfl fd_M_M_231_0 ?_
  obtain ⟨x1_1, ex1_1, h⟩ := klet_h h
  refine kw_top ex1_1 ?_
  refine kw_istore_n (L' := [some (kr 0), some (ki x1_1), none, none, none, none]) C (kdec dc_M_readsPoet 2 rfl) rfl 5 rfl (by decide) rfl rfl ?_
  refine kw_aload_n C (kdec dc_M_readsPoet 3 rfl) rfl 6 rfl rfl ?_
  refine kw_getR C (kdec dc_M_readsPoet 4 rfl) 9 rfl fd_M_M_35_0 ?_
  refine kw_bipush (v := 17) C (kdec dc_M_readsPoet 5 rfl) 11 rfl (by decide) ⟨by decide, by decide⟩ ?_
  refine kw_iload_n C (kdec dc_M_readsPoet 6 rfl) rfl 12 rfl rfl ?_
  refine kw_iadd C (kdec dc_M_readsPoet 7 rfl) 13 rfl ?_
  refine kw_aload_n C (kdec dc_M_readsPoet 8 rfl) rfl 14 rfl rfl ?_
  refine kw_iconst C (kdec dc_M_readsPoet 9 rfl) 15 rfl rfl ⟨by decide, by decide⟩ ?_
  refine kw_bipush (v := 99) C (kdec dc_M_readsPoet 10 rfl) 17 rfl (by decide) ⟨by decide, by decide⟩ ?_
  obtain ⟨⟨r_2, σ_3⟩, hg_33, h⟩ := kbind_h h
  dsimp only at h
  refine kw_callV (As := [ki 0, ki 99]) C (kdec dc_M_readsPoet 11 rfl) 20 rfl cv_M_227 rfl rfl (mt_mm_number l0 hg_33) ⟨rfl, rfl⟩ ⟨Nat.le_of_ble_eq_true rfl, Nat.le_of_ble_eq_true rfl⟩ ⟨Nat.zero_le _, Nat.zero_le _⟩ rfl (Nat.le_of_ble_eq_true rfl) ?_
  change KW x 0 0 Q σ_3 20 [some (kr 0), some (ki x1_1), none, none, none, none] [ki r_2, ki (w32 (17 + x1_1)), kr 4]
  obtain ⟨hc_4, h⟩ := kchk_h h
  obtain ⟨σ_5, eσ_5, h⟩ := klet_h h
  refine kw_iast C (kdec dc_M_readsPoet 12 rfl) 21 rfl rfl hc_4.1 hc_4.2 ?_
  refine kw_sig eσ_5 ?_
  refine kw_iconst C (kdec dc_M_readsPoet 13 rfl) 22 rfl rfl ⟨by decide, by decide⟩ ?_
  refine kw_istore_n (L' := [some (kr 0), some (ki x1_1), some (ki 0), none, none, none]) C (kdec dc_M_readsPoet 14 rfl) rfl 23 rfl (by decide) rfl rfl ?_
  refine kw_iconst C (kdec dc_M_readsPoet 15 rfl) 24 rfl rfl ⟨by decide, by decide⟩ ?_
  refine kw_istore_n (L' := [some (kr 0), some (ki x1_1), some (ki 0), some (ki 1), none, none]) C (kdec dc_M_readsPoet 16 rfl) rfl 25 rfl (by decide) rfl rfl ?_
  obtain ⟨ex_23, hl_24, h⟩ := kbind_h h
  refine lp_mm_readsPoet_l25 C x1_1 ?_ ?_ kFuel σ_5 0 1 hl_24
  · intro σ_25 e
    subst ex_23
    try dsimp only at h
    obtain rfl := Option.some.inj h
    exact kw_Q (hR _ rfl) (kw_return C (kdec dc_M_readsPoet 43 rfl))
  · intro σ_26 x2_27 e
    subst ex_23
    try dsimp only at h
    refine kw_aload_n C (kdec dc_M_readsPoet 76 rfl) rfl 131 rfl rfl ?_
    refine kw_getR C (kdec dc_M_readsPoet 77 rfl) 134 rfl fd_M_M_35_0 ?_
    refine kw_bipush (v := 61) C (kdec dc_M_readsPoet 78 rfl) 136 rfl (by decide) ⟨by decide, by decide⟩ ?_
    refine kw_iload_n C (kdec dc_M_readsPoet 79 rfl) rfl 137 rfl rfl ?_
    refine kw_iadd C (kdec dc_M_readsPoet 80 rfl) 138 rfl ?_
    refine kw_iload_n C (kdec dc_M_readsPoet 81 rfl) rfl 139 rfl rfl ?_
    obtain ⟨hc_28, h⟩ := kchk_h h
    obtain ⟨σ_29, eσ_29, h⟩ := klet_h h
    refine kw_iast C (kdec dc_M_readsPoet 82 rfl) 140 rfl rfl hc_28.1 hc_28.2 ?_
    refine kw_sig eσ_29 ?_
    refine kw_aload_n C (kdec dc_M_readsPoet 83 rfl) rfl 141 rfl rfl ?_
    obtain ⟨r_30, hg_32, h⟩ := kbind_h h
    refine kw_callV (As := []) C (kdec dc_M_readsPoet 84 rfl) 144 rfl cv_M_158 rfl rfl (mt_mm_isGood l0 hg_32) ⟨rfl, rfl⟩ ⟨Nat.le_of_ble_eq_true rfl, Nat.le_of_ble_eq_true rfl⟩ ⟨Nat.zero_le _, Nat.zero_le _⟩ rfl (Nat.le_of_ble_eq_true rfl) ?_
    change KW x 0 0 Q σ_29 144 [some (kr 0), some (ki x1_1), some (ki x2_27), none, none, none] [ki r_30]
    refine kw_if_eq C (kdec dc_M_readsPoet 85 rfl) 157 147 (by decide) rfl (fun hc144 => ?_) (fun hc144 => ?_)
    · rw [if_pos hc144] at h
      obtain rfl := Option.some.inj h
      exact kw_Q (hR _ rfl) (kw_return C (kdec dc_M_readsPoet 92 rfl))
    · rw [if_neg hc144] at h
      refine kw_aload_n C (kdec dc_M_readsPoet 86 rfl) rfl 148 rfl rfl ?_
      refine kw_dup C (kdec dc_M_readsPoet 87 rfl) 149 rfl rfl ?_
      refine kw_getI C (kdec dc_M_readsPoet 88 rfl) 152 rfl fd_M_M_231_0 ?_
      refine kw_iconst C (kdec dc_M_readsPoet 89 rfl) 153 rfl rfl ⟨by decide, by decide⟩ ?_
      refine kw_iadd C (kdec dc_M_readsPoet 90 rfl) 154 rfl ?_
      obtain ⟨σ_31, eσ_31, h⟩ := klet_h h
      refine kw_putI C (kdec dc_M_readsPoet 91 rfl) 157 rfl fp_M_M_231_0 ?_
      refine kw_sig eσ_31 ?_
      obtain rfl := Option.some.inj h
      exact kw_Q (hR _ rfl) (kw_return C (kdec dc_M_readsPoet 92 rfl))
theorem mt_mm_readsPoet (l0 : Launch) {σ : kM} {τ : kM} (h : mm_readsPoet σ = some τ) : kMet l0 ky_M_readsPoet prog_14_method_37_code 6 none R0_mm_readsPoet kcl yM σ [kr 0] none τ := kMet.of' [some (kr 0), none, none, none, none, none] (by decide) (Nat.le_of_ble_eq_true rfl) ⟨rfl, trivial⟩ (fun x C => bd_mm_readsPoet C σ h (fun τ e => by subst e; rfl))
def R0_mm_clause : Room := ({ frames := 6, cells := 0, slots := 0, locals := 137 } : Room)
def mm_clause_j212 (σ : kM) : Option (kM) :=
  (mm_isSign σ 59).bind fun r_3 =>
  (mm_need σ r_3).bind fun σ_4 =>
  some σ_4
set_option maxHeartbeats 4000000 in
theorem bd_mm_clause_j212 {x : kX} {l0 : Launch} {Q : State → Prop} (C : kCx x prog_14_method_38_code "PoetFinesModel" none kcl yM 2 l0 R0_mm_clause) (σ : kM) {out : kM} (h : mm_clause_j212 σ = some out) (hR : ∀ (τ : kM), out = τ → Q = kQ x none τ 0 0) : KW x 0 0 Q σ 212 [some (kr 0), none] [] := by
  unfold mm_clause_j212 at h
  refine kw_aload_n C (kdec dc_M_clause 109 rfl) rfl 213 rfl rfl ?_
  refine kw_aload_n C (kdec dc_M_clause 110 rfl) rfl 214 rfl rfl ?_
  refine kw_bipush (v := 59) C (kdec dc_M_clause 111 rfl) 216 rfl (by decide) ⟨by decide, by decide⟩ ?_
  obtain ⟨r_3, hg_6, h⟩ := kbind_h h
  refine kw_callV (As := [ki 59]) C (kdec dc_M_clause 112 rfl) 219 rfl cv_M_199 rfl rfl (mt_mm_isSign l0 hg_6) ⟨rfl, rfl⟩ ⟨Nat.le_of_ble_eq_true rfl, Nat.le_of_ble_eq_true rfl⟩ ⟨Nat.zero_le _, Nat.zero_le _⟩ rfl (Nat.le_of_ble_eq_true rfl) ?_
  change KW x 0 0 Q σ 219 [some (kr 0), none] [ki r_3, kr 0]
  obtain ⟨σ_4, hg_5, h⟩ := kbind_h h
  refine kw_callV (As := [ki r_3]) C (kdec dc_M_clause 113 rfl) 222 rfl cv_M_260 rfl rfl (mt_mm_need l0 hg_5) ⟨rfl, rfl⟩ ⟨Nat.le_of_ble_eq_true rfl, Nat.le_of_ble_eq_true rfl⟩ ⟨Nat.zero_le _, Nat.zero_le _⟩ rfl (Nat.le_of_ble_eq_true rfl) ?_
  change KW x 0 0 Q σ_4 222 [some (kr 0), none] []
  obtain rfl := Option.some.inj h
  exact kw_Q (hR _ rfl) (kw_return C (kdec dc_M_clause 114 rfl))
def mm_clause_j184 (σ : kM) (s0 : Int) (s1 : Int) : Option (kM) :=
  (mm_begins σ s1 s0).bind fun (r_8, σ_9) =>
  if r_8 = 0 then
    mm_clause_j212 σ_9
  else
    klet (kst σ_9 0 (kup (σ_9 0) 26 (σ_9 0 27))) fun σ_10 =>
    (mm_expression σ_10 2 5).bind fun σ_11 =>
    mm_clause_j212 σ_11
set_option maxHeartbeats 4000000 in
theorem bd_mm_clause_j184 {x : kX} {l0 : Launch} {Q : State → Prop} (C : kCx x prog_14_method_38_code "PoetFinesModel" none kcl yM 2 l0 R0_mm_clause) (σ : kM) (s0 : Int) (s1 : Int) {out : kM} (h : mm_clause_j184 σ s0 s1 = some out) (hR : ∀ (τ : kM), out = τ → Q = kQ x none τ 0 0) : KW x 0 0 Q σ 184 [some (kr 0), none] [ki s0, ki s1, kr 0] := by
  unfold mm_clause_j184 at h
  obtain ⟨⟨r_8, σ_9⟩, hg_13, h⟩ := kbind_h h
  dsimp only at h
  refine kw_callV (As := [ki s1, ki s0]) C (kdec dc_M_clause 95 rfl) 187 rfl cv_M_237 rfl rfl (mt_mm_begins l0 hg_13) ⟨rfl, rfl⟩ ⟨Nat.le_of_ble_eq_true rfl, Nat.le_of_ble_eq_true rfl⟩ ⟨Nat.zero_le _, Nat.zero_le _⟩ rfl (Nat.le_of_ble_eq_true rfl) ?_
  change KW x 0 0 Q σ_9 187 [some (kr 0), none] [ki r_8]
  refine kw_if_eq C (kdec dc_M_clause 96 rfl) 212 190 (by decide) rfl (fun hc187 => ?_) (fun hc187 => ?_)
  · rw [if_pos hc187] at h
    exact bd_mm_clause_j212 C σ_9 h hR
  · rw [if_neg hc187] at h
    refine kw_aload_n C (kdec dc_M_clause 97 rfl) rfl 191 rfl rfl ?_
    refine kw_aload_n C (kdec dc_M_clause 98 rfl) rfl 192 rfl rfl ?_
    refine kw_getI C (kdec dc_M_clause 99 rfl) 195 rfl fd_M_M_171_0 ?_
    obtain ⟨σ_10, eσ_10, h⟩ := klet_h h
    refine kw_putI C (kdec dc_M_clause 100 rfl) 198 rfl fp_M_M_257_0 ?_
    refine kw_sig eσ_10 ?_
    refine kw_aload_n C (kdec dc_M_clause 101 rfl) rfl 199 rfl rfl ?_
    refine kw_iconst C (kdec dc_M_clause 102 rfl) 200 rfl rfl ⟨by decide, by decide⟩ ?_
    refine kw_iconst C (kdec dc_M_clause 103 rfl) 201 rfl rfl ⟨by decide, by decide⟩ ?_
    obtain ⟨σ_11, hg_12, h⟩ := kbind_h h
    refine kw_callV (As := [ki 2, ki 5]) C (kdec dc_M_clause 104 rfl) 204 rfl cv_M_250 rfl rfl (mt_mm_expression l0 hg_12) ⟨rfl, rfl⟩ ⟨Nat.le_of_ble_eq_true rfl, Nat.le_of_ble_eq_true rfl⟩ ⟨Nat.zero_le _, Nat.zero_le _⟩ rfl (Nat.le_of_ble_eq_true rfl) ?_
    change KW x 0 0 Q σ_11 204 [some (kr 0), none] []
    refine kw_goto C (kdec dc_M_clause 105 rfl) 212 (by decide) ?_
    exact bd_mm_clause_j212 C σ_11 h hR
def mm_clause_j139 (σ : kM) (s0 : Int) (s1 : Int) : Option (kM) :=
  (mm_begins σ s1 s0).bind fun (r_14, σ_15) =>
  if r_14 = 0 then
    mm_clause_j212 σ_15
  else
    klet (kst σ_15 0 (kup (σ_15 0) 25 (σ_15 0 27))) fun σ_16 =>
    (mm_expression σ_16 2 7).bind fun σ_17 =>
    mm_clause_j212 σ_17
set_option maxHeartbeats 4000000 in
theorem bd_mm_clause_j139 {x : kX} {l0 : Launch} {Q : State → Prop} (C : kCx x prog_14_method_38_code "PoetFinesModel" none kcl yM 2 l0 R0_mm_clause) (σ : kM) (s0 : Int) (s1 : Int) {out : kM} (h : mm_clause_j139 σ s0 s1 = some out) (hR : ∀ (τ : kM), out = τ → Q = kQ x none τ 0 0) : KW x 0 0 Q σ 139 [some (kr 0), none] [ki s0, ki s1, kr 0] := by
  unfold mm_clause_j139 at h
  obtain ⟨⟨r_14, σ_15⟩, hg_19, h⟩ := kbind_h h
  dsimp only at h
  refine kw_callV (As := [ki s1, ki s0]) C (kdec dc_M_clause 72 rfl) 142 rfl cv_M_237 rfl rfl (mt_mm_begins l0 hg_19) ⟨rfl, rfl⟩ ⟨Nat.le_of_ble_eq_true rfl, Nat.le_of_ble_eq_true rfl⟩ ⟨Nat.zero_le _, Nat.zero_le _⟩ rfl (Nat.le_of_ble_eq_true rfl) ?_
  change KW x 0 0 Q σ_15 142 [some (kr 0), none] [ki r_14]
  refine kw_if_eq C (kdec dc_M_clause 73 rfl) 212 145 (by decide) rfl (fun hc142 => ?_) (fun hc142 => ?_)
  · rw [if_pos hc142] at h
    exact bd_mm_clause_j212 C σ_15 h hR
  · rw [if_neg hc142] at h
    refine kw_aload_n C (kdec dc_M_clause 74 rfl) rfl 146 rfl rfl ?_
    refine kw_aload_n C (kdec dc_M_clause 75 rfl) rfl 147 rfl rfl ?_
    refine kw_getI C (kdec dc_M_clause 76 rfl) 150 rfl fd_M_M_171_0 ?_
    obtain ⟨σ_16, eσ_16, h⟩ := klet_h h
    refine kw_putI C (kdec dc_M_clause 77 rfl) 153 rfl fp_M_M_254_0 ?_
    refine kw_sig eσ_16 ?_
    refine kw_aload_n C (kdec dc_M_clause 78 rfl) rfl 154 rfl rfl ?_
    refine kw_iconst C (kdec dc_M_clause 79 rfl) 155 rfl rfl ⟨by decide, by decide⟩ ?_
    refine kw_bipush (v := 7) C (kdec dc_M_clause 80 rfl) 157 rfl (by decide) ⟨by decide, by decide⟩ ?_
    obtain ⟨σ_17, hg_18, h⟩ := kbind_h h
    refine kw_callV (As := [ki 2, ki 7]) C (kdec dc_M_clause 81 rfl) 160 rfl cv_M_250 rfl rfl (mt_mm_expression l0 hg_18) ⟨rfl, rfl⟩ ⟨Nat.le_of_ble_eq_true rfl, Nat.le_of_ble_eq_true rfl⟩ ⟨Nat.zero_le _, Nat.zero_le _⟩ rfl (Nat.le_of_ble_eq_true rfl) ?_
    change KW x 0 0 Q σ_17 160 [some (kr 0), none] []
    refine kw_goto C (kdec dc_M_clause 82 rfl) 212 (by decide) ?_
    exact bd_mm_clause_j212 C σ_17 h hR
def mm_clause_j95 (σ : kM) (s0 : Int) (s1 : Int) : Option (kM) :=
  (mm_begins σ s1 s0).bind fun (r_20, σ_21) =>
  if r_20 = 0 then
    mm_clause_j212 σ_21
  else
    klet (kst σ_21 0 (kup (σ_21 0) 24 (σ_21 0 27))) fun σ_22 =>
    (mm_expression σ_22 0 5).bind fun σ_23 =>
    mm_clause_j212 σ_23
set_option maxHeartbeats 4000000 in
theorem bd_mm_clause_j95 {x : kX} {l0 : Launch} {Q : State → Prop} (C : kCx x prog_14_method_38_code "PoetFinesModel" none kcl yM 2 l0 R0_mm_clause) (σ : kM) (s0 : Int) (s1 : Int) {out : kM} (h : mm_clause_j95 σ s0 s1 = some out) (hR : ∀ (τ : kM), out = τ → Q = kQ x none τ 0 0) : KW x 0 0 Q σ 95 [some (kr 0), none] [ki s0, ki s1, kr 0] := by
  unfold mm_clause_j95 at h
  obtain ⟨⟨r_20, σ_21⟩, hg_25, h⟩ := kbind_h h
  dsimp only at h
  refine kw_callV (As := [ki s1, ki s0]) C (kdec dc_M_clause 49 rfl) 98 rfl cv_M_237 rfl rfl (mt_mm_begins l0 hg_25) ⟨rfl, rfl⟩ ⟨Nat.le_of_ble_eq_true rfl, Nat.le_of_ble_eq_true rfl⟩ ⟨Nat.zero_le _, Nat.zero_le _⟩ rfl (Nat.le_of_ble_eq_true rfl) ?_
  change KW x 0 0 Q σ_21 98 [some (kr 0), none] [ki r_20]
  refine kw_if_eq C (kdec dc_M_clause 50 rfl) 212 101 (by decide) rfl (fun hc98 => ?_) (fun hc98 => ?_)
  · rw [if_pos hc98] at h
    exact bd_mm_clause_j212 C σ_21 h hR
  · rw [if_neg hc98] at h
    refine kw_aload_n C (kdec dc_M_clause 51 rfl) rfl 102 rfl rfl ?_
    refine kw_aload_n C (kdec dc_M_clause 52 rfl) rfl 103 rfl rfl ?_
    refine kw_getI C (kdec dc_M_clause 53 rfl) 106 rfl fd_M_M_171_0 ?_
    obtain ⟨σ_22, eσ_22, h⟩ := klet_h h
    refine kw_putI C (kdec dc_M_clause 54 rfl) 109 rfl fp_M_M_247_0 ?_
    refine kw_sig eσ_22 ?_
    refine kw_aload_n C (kdec dc_M_clause 55 rfl) rfl 110 rfl rfl ?_
    refine kw_iconst C (kdec dc_M_clause 56 rfl) 111 rfl rfl ⟨by decide, by decide⟩ ?_
    refine kw_iconst C (kdec dc_M_clause 57 rfl) 112 rfl rfl ⟨by decide, by decide⟩ ?_
    obtain ⟨σ_23, hg_24, h⟩ := kbind_h h
    refine kw_callV (As := [ki 0, ki 5]) C (kdec dc_M_clause 58 rfl) 115 rfl cv_M_250 rfl rfl (mt_mm_expression l0 hg_24) ⟨rfl, rfl⟩ ⟨Nat.le_of_ble_eq_true rfl, Nat.le_of_ble_eq_true rfl⟩ ⟨Nat.zero_le _, Nat.zero_le _⟩ rfl (Nat.le_of_ble_eq_true rfl) ?_
    change KW x 0 0 Q σ_23 115 [some (kr 0), none] []
    refine kw_goto C (kdec dc_M_clause 59 rfl) 212 (by decide) ?_
    exact bd_mm_clause_j212 C σ_23 h hR
def mm_clause_j60 (σ : kM) (s0 : Int) : Option (kM) :=
  (mm_begins σ s0 0).bind fun (r_26, σ_27) =>
  if r_26 = 0 then
    mm_clause_j212 σ_27
  else
    (mm_readsPoet σ_27).bind fun σ_28 =>
    mm_clause_j212 σ_28
set_option maxHeartbeats 4000000 in
theorem bd_mm_clause_j60 {x : kX} {l0 : Launch} {Q : State → Prop} (C : kCx x prog_14_method_38_code "PoetFinesModel" none kcl yM 2 l0 R0_mm_clause) (σ : kM) (s0 : Int) {out : kM} (h : mm_clause_j60 σ s0 = some out) (hR : ∀ (τ : kM), out = τ → Q = kQ x none τ 0 0) : KW x 0 0 Q σ 60 [some (kr 0), none] [ki s0, kr 0] := by
  unfold mm_clause_j60 at h
  refine kw_iconst C (kdec dc_M_clause 31 rfl) 61 rfl rfl ⟨by decide, by decide⟩ ?_
  obtain ⟨⟨r_26, σ_27⟩, hg_30, h⟩ := kbind_h h
  dsimp only at h
  refine kw_callV (As := [ki s0, ki 0]) C (kdec dc_M_clause 32 rfl) 64 rfl cv_M_237 rfl rfl (mt_mm_begins l0 hg_30) ⟨rfl, rfl⟩ ⟨Nat.le_of_ble_eq_true rfl, Nat.le_of_ble_eq_true rfl⟩ ⟨Nat.zero_le _, Nat.zero_le _⟩ rfl (Nat.le_of_ble_eq_true rfl) ?_
  change KW x 0 0 Q σ_27 64 [some (kr 0), none] [ki r_26]
  refine kw_if_eq C (kdec dc_M_clause 33 rfl) 212 67 (by decide) rfl (fun hc64 => ?_) (fun hc64 => ?_)
  · rw [if_pos hc64] at h
    exact bd_mm_clause_j212 C σ_27 h hR
  · rw [if_neg hc64] at h
    refine kw_aload_n C (kdec dc_M_clause 34 rfl) rfl 68 rfl rfl ?_
    obtain ⟨σ_28, hg_29, h⟩ := kbind_h h
    refine kw_callV (As := []) C (kdec dc_M_clause 35 rfl) 71 rfl cv_M_244 rfl rfl (mt_mm_readsPoet l0 hg_29) ⟨rfl, rfl⟩ ⟨Nat.le_of_ble_eq_true rfl, Nat.le_of_ble_eq_true rfl⟩ ⟨Nat.zero_le _, Nat.zero_le _⟩ rfl (Nat.le_of_ble_eq_true rfl) ?_
    change KW x 0 0 Q σ_28 71 [some (kr 0), none] []
    refine kw_goto C (kdec dc_M_clause 36 rfl) 212 (by decide) ?_
    exact bd_mm_clause_j212 C σ_28 h hR
def mm_clause_j26 (σ : kM) (s0 : Int) : Option (kM) :=
  (mm_begins σ s0 0).bind fun (r_31, σ_32) =>
  if r_31 = 0 then
    mm_clause_j212 σ_32
  else
    (mm_readsPerson σ_32).bind fun σ_33 =>
    mm_clause_j212 σ_33
set_option maxHeartbeats 4000000 in
theorem bd_mm_clause_j26 {x : kX} {l0 : Launch} {Q : State → Prop} (C : kCx x prog_14_method_38_code "PoetFinesModel" none kcl yM 2 l0 R0_mm_clause) (σ : kM) (s0 : Int) {out : kM} (h : mm_clause_j26 σ s0 = some out) (hR : ∀ (τ : kM), out = τ → Q = kQ x none τ 0 0) : KW x 0 0 Q σ 26 [some (kr 0), none] [ki s0, kr 0] := by
  unfold mm_clause_j26 at h
  refine kw_iconst C (kdec dc_M_clause 14 rfl) 27 rfl rfl ⟨by decide, by decide⟩ ?_
  obtain ⟨⟨r_31, σ_32⟩, hg_35, h⟩ := kbind_h h
  dsimp only at h
  refine kw_callV (As := [ki s0, ki 0]) C (kdec dc_M_clause 15 rfl) 30 rfl cv_M_237 rfl rfl (mt_mm_begins l0 hg_35) ⟨rfl, rfl⟩ ⟨Nat.le_of_ble_eq_true rfl, Nat.le_of_ble_eq_true rfl⟩ ⟨Nat.zero_le _, Nat.zero_le _⟩ rfl (Nat.le_of_ble_eq_true rfl) ?_
  change KW x 0 0 Q σ_32 30 [some (kr 0), none] [ki r_31]
  refine kw_if_eq C (kdec dc_M_clause 16 rfl) 212 33 (by decide) rfl (fun hc30 => ?_) (fun hc30 => ?_)
  · rw [if_pos hc30] at h
    exact bd_mm_clause_j212 C σ_32 h hR
  · rw [if_neg hc30] at h
    refine kw_aload_n C (kdec dc_M_clause 17 rfl) rfl 34 rfl rfl ?_
    obtain ⟨σ_33, hg_34, h⟩ := kbind_h h
    refine kw_callV (As := []) C (kdec dc_M_clause 18 rfl) 37 rfl cv_M_241 rfl rfl (mt_mm_readsPerson l0 hg_34) ⟨rfl, rfl⟩ ⟨Nat.le_of_ble_eq_true rfl, Nat.le_of_ble_eq_true rfl⟩ ⟨Nat.zero_le _, Nat.zero_le _⟩ rfl (Nat.le_of_ble_eq_true rfl) ?_
    change KW x 0 0 Q σ_33 37 [some (kr 0), none] []
    refine kw_goto C (kdec dc_M_clause 19 rfl) 212 (by decide) ?_
    exact bd_mm_clause_j212 C σ_33 h hR
def mm_clause (σ : kM) : Option (kM) :=
  (mm_knownWord σ).bind fun r_1 =>
  if r_1 = 9 then
    if (σ 0 22) = 8 then
      mm_clause_j26 σ 1
    else
      mm_clause_j26 σ 0
  else
    if r_1 = 10 then
      if (σ 0 23) = 4 then
        mm_clause_j60 σ 1
      else
        mm_clause_j60 σ 0
    else
      if r_1 = 11 then
        if (σ 0 24) = ((-1)) then
          mm_clause_j95 σ 0 0
        else
          mm_clause_j95 σ 1 0
      else
        if r_1 = 12 then
          if (σ 0 25) = ((-1)) then
            mm_clause_j139 σ 0 0
          else
            mm_clause_j139 σ 1 0
        else
          if r_1 = 13 then
            if (σ 0 26) = ((-1)) then
              mm_clause_j184 σ 0 0
            else
              mm_clause_j184 σ 1 0
          else
            (mm_wrong σ 1).bind fun σ_2 =>
            mm_clause_j212 σ_2
set_option maxHeartbeats 4000000 in
theorem bd_mm_clause {x : kX} {l0 : Launch} {Q : State → Prop} (C : kCx x prog_14_method_38_code "PoetFinesModel" none kcl yM 2 l0 R0_mm_clause) (σ : kM) {out : kM} (h : mm_clause σ = some out) (hR : ∀ (τ : kM), out = τ → Q = kQ x none τ 0 0) : KW x 0 0 Q σ 0 [some (kr 0), none] [] := by
  unfold mm_clause at h
  refine kw_aload_n C (kdec dc_M_clause 0 rfl) rfl 1 rfl rfl ?_
  obtain ⟨r_1, hg_36, h⟩ := kbind_h h
  refine kw_callV (As := []) C (kdec dc_M_clause 1 rfl) 4 rfl cv_M_186 rfl rfl (mt_mm_knownWord l0 hg_36) ⟨rfl, rfl⟩ ⟨Nat.le_of_ble_eq_true rfl, Nat.le_of_ble_eq_true rfl⟩ ⟨Nat.zero_le _, Nat.zero_le _⟩ rfl (Nat.le_of_ble_eq_true rfl) ?_
  change KW x 0 0 Q σ 4 [some (kr 0), none] [ki r_1]
  refine kw_istore_n (L' := [some (kr 0), some (ki r_1)]) C (kdec dc_M_clause 2 rfl) rfl 5 rfl (by decide) rfl rfl ?_
  refine kw_iload_n C (kdec dc_M_clause 3 rfl) rfl 6 rfl rfl ?_
  refine kw_bipush (v := 9) C (kdec dc_M_clause 4 rfl) 8 rfl (by decide) ⟨by decide, by decide⟩ ?_
  refine kw_icmp_ne C (kdec dc_M_clause 5 rfl) 40 11 (by decide) rfl (fun hc8 => ?_) (fun hc8 => ?_)
  · rw [if_neg hc8] at h
    refine kw_iload_n C (kdec dc_M_clause 20 rfl) rfl 41 rfl rfl ?_
    refine kw_bipush (v := 10) C (kdec dc_M_clause 21 rfl) 43 rfl (by decide) ⟨by decide, by decide⟩ ?_
    refine kw_icmp_ne C (kdec dc_M_clause 22 rfl) 74 46 (by decide) rfl (fun hc43 => ?_) (fun hc43 => ?_)
    · rw [if_neg hc43] at h
      refine kw_iload_n C (kdec dc_M_clause 37 rfl) rfl 75 rfl rfl ?_
      refine kw_bipush (v := 11) C (kdec dc_M_clause 38 rfl) 77 rfl (by decide) ⟨by decide, by decide⟩ ?_
      refine kw_icmp_ne C (kdec dc_M_clause 39 rfl) 118 80 (by decide) rfl (fun hc77 => ?_) (fun hc77 => ?_)
      · rw [if_neg hc77] at h
        refine kw_iload_n C (kdec dc_M_clause 60 rfl) rfl 119 rfl rfl ?_
        refine kw_bipush (v := 12) C (kdec dc_M_clause 61 rfl) 121 rfl (by decide) ⟨by decide, by decide⟩ ?_
        refine kw_icmp_ne C (kdec dc_M_clause 62 rfl) 163 124 (by decide) rfl (fun hc121 => ?_) (fun hc121 => ?_)
        · rw [if_neg hc121] at h
          refine kw_iload_n C (kdec dc_M_clause 83 rfl) rfl 164 rfl rfl ?_
          refine kw_bipush (v := 13) C (kdec dc_M_clause 84 rfl) 166 rfl (by decide) ⟨by decide, by decide⟩ ?_
          refine kw_icmp_ne C (kdec dc_M_clause 85 rfl) 207 169 (by decide) rfl (fun hc166 => ?_) (fun hc166 => ?_)
          · rw [if_neg hc166] at h
            refine kw_aload_n C (kdec dc_M_clause 106 rfl) rfl 208 rfl rfl ?_
            refine kw_iconst C (kdec dc_M_clause 107 rfl) 209 rfl rfl ⟨by decide, by decide⟩ ?_
            obtain ⟨σ_2, hg_7, h⟩ := kbind_h h
            refine kw_callV (As := [ki 1]) C (kdec dc_M_clause 108 rfl) 212 rfl cv_M_165 rfl rfl (mt_mm_wrong l0 hg_7) ⟨rfl, rfl⟩ ⟨Nat.le_of_ble_eq_true rfl, Nat.le_of_ble_eq_true rfl⟩ ⟨Nat.zero_le _, Nat.zero_le _⟩ rfl (Nat.le_of_ble_eq_true rfl) ?_
            change KW x 0 0 Q σ_2 212 [some (kr 0), some (ki r_1)] []
            exact kw_sub (L' := [some (kr 0), none]) ⟨rfl, trivial⟩ (bd_mm_clause_j212 C σ_2 h hR)
          · rw [if_pos hc166] at h
            refine kw_aload_n C (kdec dc_M_clause 86 rfl) rfl 170 rfl rfl ?_
            refine kw_iconst C (kdec dc_M_clause 87 rfl) 171 rfl rfl ⟨by decide, by decide⟩ ?_
            refine kw_aload_n C (kdec dc_M_clause 88 rfl) rfl 172 rfl rfl ?_
            refine kw_getI C (kdec dc_M_clause 89 rfl) 175 rfl fd_M_M_257_0 ?_
            refine kw_iconst C (kdec dc_M_clause 90 rfl) 176 rfl rfl ⟨by decide, by decide⟩ ?_
            refine kw_icmp_eq C (kdec dc_M_clause 91 rfl) 183 179 (by decide) rfl (fun hc176 => ?_) (fun hc176 => ?_)
            · rw [if_pos hc176] at h
              refine kw_iconst C (kdec dc_M_clause 94 rfl) 184 rfl rfl ⟨by decide, by decide⟩ ?_
              exact kw_sub (L' := [some (kr 0), none]) ⟨rfl, trivial⟩ (bd_mm_clause_j184 C σ 0 0 h hR)
            · rw [if_neg hc176] at h
              refine kw_iconst C (kdec dc_M_clause 92 rfl) 180 rfl rfl ⟨by decide, by decide⟩ ?_
              refine kw_goto C (kdec dc_M_clause 93 rfl) 184 (by decide) ?_
              exact kw_sub (L' := [some (kr 0), none]) ⟨rfl, trivial⟩ (bd_mm_clause_j184 C σ 1 0 h hR)
        · rw [if_pos hc121] at h
          refine kw_aload_n C (kdec dc_M_clause 63 rfl) rfl 125 rfl rfl ?_
          refine kw_iconst C (kdec dc_M_clause 64 rfl) 126 rfl rfl ⟨by decide, by decide⟩ ?_
          refine kw_aload_n C (kdec dc_M_clause 65 rfl) rfl 127 rfl rfl ?_
          refine kw_getI C (kdec dc_M_clause 66 rfl) 130 rfl fd_M_M_254_0 ?_
          refine kw_iconst C (kdec dc_M_clause 67 rfl) 131 rfl rfl ⟨by decide, by decide⟩ ?_
          refine kw_icmp_eq C (kdec dc_M_clause 68 rfl) 138 134 (by decide) rfl (fun hc131 => ?_) (fun hc131 => ?_)
          · rw [if_pos hc131] at h
            refine kw_iconst C (kdec dc_M_clause 71 rfl) 139 rfl rfl ⟨by decide, by decide⟩ ?_
            exact kw_sub (L' := [some (kr 0), none]) ⟨rfl, trivial⟩ (bd_mm_clause_j139 C σ 0 0 h hR)
          · rw [if_neg hc131] at h
            refine kw_iconst C (kdec dc_M_clause 69 rfl) 135 rfl rfl ⟨by decide, by decide⟩ ?_
            refine kw_goto C (kdec dc_M_clause 70 rfl) 139 (by decide) ?_
            exact kw_sub (L' := [some (kr 0), none]) ⟨rfl, trivial⟩ (bd_mm_clause_j139 C σ 1 0 h hR)
      · rw [if_pos hc77] at h
        refine kw_aload_n C (kdec dc_M_clause 40 rfl) rfl 81 rfl rfl ?_
        refine kw_iconst C (kdec dc_M_clause 41 rfl) 82 rfl rfl ⟨by decide, by decide⟩ ?_
        refine kw_aload_n C (kdec dc_M_clause 42 rfl) rfl 83 rfl rfl ?_
        refine kw_getI C (kdec dc_M_clause 43 rfl) 86 rfl fd_M_M_247_0 ?_
        refine kw_iconst C (kdec dc_M_clause 44 rfl) 87 rfl rfl ⟨by decide, by decide⟩ ?_
        refine kw_icmp_eq C (kdec dc_M_clause 45 rfl) 94 90 (by decide) rfl (fun hc87 => ?_) (fun hc87 => ?_)
        · rw [if_pos hc87] at h
          refine kw_iconst C (kdec dc_M_clause 48 rfl) 95 rfl rfl ⟨by decide, by decide⟩ ?_
          exact kw_sub (L' := [some (kr 0), none]) ⟨rfl, trivial⟩ (bd_mm_clause_j95 C σ 0 0 h hR)
        · rw [if_neg hc87] at h
          refine kw_iconst C (kdec dc_M_clause 46 rfl) 91 rfl rfl ⟨by decide, by decide⟩ ?_
          refine kw_goto C (kdec dc_M_clause 47 rfl) 95 (by decide) ?_
          exact kw_sub (L' := [some (kr 0), none]) ⟨rfl, trivial⟩ (bd_mm_clause_j95 C σ 1 0 h hR)
    · rw [if_pos hc43] at h
      refine kw_aload_n C (kdec dc_M_clause 23 rfl) rfl 47 rfl rfl ?_
      refine kw_aload_n C (kdec dc_M_clause 24 rfl) rfl 48 rfl rfl ?_
      refine kw_getI C (kdec dc_M_clause 25 rfl) 51 rfl fd_M_M_231_0 ?_
      refine kw_iconst C (kdec dc_M_clause 26 rfl) 52 rfl rfl ⟨by decide, by decide⟩ ?_
      refine kw_icmp_ne C (kdec dc_M_clause 27 rfl) 59 55 (by decide) rfl (fun hc52 => ?_) (fun hc52 => ?_)
      · rw [if_neg hc52] at h
        refine kw_iconst C (kdec dc_M_clause 30 rfl) 60 rfl rfl ⟨by decide, by decide⟩ ?_
        exact kw_sub (L' := [some (kr 0), none]) ⟨rfl, trivial⟩ (bd_mm_clause_j60 C σ 0 h hR)
      · rw [if_pos hc52] at h
        refine kw_iconst C (kdec dc_M_clause 28 rfl) 56 rfl rfl ⟨by decide, by decide⟩ ?_
        refine kw_goto C (kdec dc_M_clause 29 rfl) 60 (by decide) ?_
        exact kw_sub (L' := [some (kr 0), none]) ⟨rfl, trivial⟩ (bd_mm_clause_j60 C σ 1 h hR)
  · rw [if_pos hc8] at h
    refine kw_aload_n C (kdec dc_M_clause 6 rfl) rfl 12 rfl rfl ?_
    refine kw_aload_n C (kdec dc_M_clause 7 rfl) rfl 13 rfl rfl ?_
    refine kw_getI C (kdec dc_M_clause 8 rfl) 16 rfl fd_M_M_224_0 ?_
    refine kw_bipush (v := 8) C (kdec dc_M_clause 9 rfl) 18 rfl (by decide) ⟨by decide, by decide⟩ ?_
    refine kw_icmp_ne C (kdec dc_M_clause 10 rfl) 25 21 (by decide) rfl (fun hc18 => ?_) (fun hc18 => ?_)
    · rw [if_neg hc18] at h
      refine kw_iconst C (kdec dc_M_clause 13 rfl) 26 rfl rfl ⟨by decide, by decide⟩ ?_
      exact kw_sub (L' := [some (kr 0), none]) ⟨rfl, trivial⟩ (bd_mm_clause_j26 C σ 0 h hR)
    · rw [if_pos hc18] at h
      refine kw_iconst C (kdec dc_M_clause 11 rfl) 22 rfl rfl ⟨by decide, by decide⟩ ?_
      refine kw_goto C (kdec dc_M_clause 12 rfl) 26 (by decide) ?_
      exact kw_sub (L' := [some (kr 0), none]) ⟨rfl, trivial⟩ (bd_mm_clause_j26 C σ 1 h hR)
theorem mt_mm_clause (l0 : Launch) {σ : kM} {τ : kM} (h : mm_clause σ = some τ) : kMet l0 ky_M_clause prog_14_method_38_code 2 none R0_mm_clause kcl yM σ [kr 0] none τ := kMet.of' [some (kr 0), none] (by decide) (Nat.le_of_ble_eq_true rfl) ⟨rfl, trivial⟩ (fun x C => bd_mm_clause C σ h (fun τ e => by subst e; rfl))

def R0_mm_gains : Room := ({ frames := 6, cells := 0, slots := 0, locals := 146 } : Room)
def mm_gains_l34 (σ : kM) (x1 : Int) (x5 : Int) : Option ((kM × Int) ⊕ ((kM))) :=
  if 4 ≤ x5 then
    some (Sum.inr σ)
  else
    (mm_yearGoes σ 145).bind fun σ_2 =>
    klet (w32 (x5 + 1)) fun x5_3 =>
    some (Sum.inl (σ_2, x5_3))
set_option maxHeartbeats 4000000 in
theorem bd_mm_gains_l34 {x : kX} {l0 : Launch} {Q : State → Prop} (C : kCx x prog_14_method_109_code "PoetFinesModel" (some .int) kcl yM 6 l0 R0_mm_gains) (σ : kM) (x1 : Int) (x5 : Int) {out : (kM × Int) ⊕ ((kM))} (h : mm_gains_l34 σ x1 x5 = some out) (hC : ∀ (σ' : kM) (x5' : Int), out = Sum.inl (σ', x5') → KW x 0 0 Q σ' 34 [some (kr 0), some (ki x1), none, none, none, some (ki x5')] []) (hX53 : ∀ (σ' : kM), out = Sum.inr σ' → KW x 0 0 Q σ' 53 [some (kr 0), some (ki x1), none, none, none, none] []) : KW x 0 0 Q σ 34 [some (kr 0), some (ki x1), none, none, none, some (ki x5)] [] := by
  unfold mm_gains_l34 at h
  refine kw_iload C (kdec dc_M_gains 18 rfl) 36 rfl rfl ?_
  refine kw_iconst C (kdec dc_M_gains 19 rfl) 37 rfl rfl ⟨by decide, by decide⟩ ?_
  refine kw_icmp_ge C (kdec dc_M_gains 20 rfl) 53 40 (by decide) rfl (fun hc37 => ?_) (fun hc37 => ?_)
  · rw [if_pos hc37] at h
    obtain rfl := Option.some.inj h
    exact kw_sub (L' := [some (kr 0), some (ki x1), none, none, none, none]) ⟨rfl, rfl, trivial⟩ (hX53 _ rfl)
  · rw [if_neg hc37] at h
    refine kw_aload_n C (kdec dc_M_gains 21 rfl) rfl 41 rfl rfl ?_
    refine kw_sipush (v := 145) C (kdec dc_M_gains 22 rfl) 44 rfl (by decide) ⟨by decide, by decide⟩ ?_
    obtain ⟨σ_2, hg_4, h⟩ := kbind_h h
    refine kw_callV (As := [ki 145]) C (kdec dc_M_gains 23 rfl) 47 rfl cv_M_352 rfl rfl (mt_mm_yearGoes l0 hg_4) ⟨rfl, rfl⟩ ⟨Nat.le_of_ble_eq_true rfl, Nat.le_of_ble_eq_true rfl⟩ ⟨Nat.zero_le _, Nat.zero_le _⟩ rfl (Nat.le_of_ble_eq_true rfl) ?_
    change KW x 0 0 Q σ_2 47 [some (kr 0), some (ki x1), none, none, none, some (ki x5)] []
    obtain ⟨x5_3, ex5_3, h⟩ := klet_h h
    refine kw_iinc (L' := [some (kr 0), some (ki x1), none, none, none, some (ki x5_3)]) C (kdec dc_M_gains 24 rfl) 50 rfl rfl (by decide) rfl (by rw [ex5_3]; rfl) ?_
    refine kw_goto C (kdec dc_M_gains 25 rfl) 34 (by decide) ?_
    obtain rfl := Option.some.inj h
    exact (hC _ _ rfl)
theorem lp_mm_gains_l34 {x : kX} {l0 : Launch} {Q : State → Prop} (C : kCx x prog_14_method_109_code "PoetFinesModel" (some .int) kcl yM 6 l0 R0_mm_gains) (x1 : Int) {ex : (kM)} (hX53 : ∀ (σ' : kM), ex = σ' → KW x 0 0 Q σ' 53 [some (kr 0), some (ki x1), none, none, none, none] []) (n : Nat) (σ : kM) (x5 : Int) (h : kloop (fun st => mm_gains_l34 st.1 x1 st.2) n (σ, x5) = some ex) : KW x 0 0 Q σ 34 [some (kr 0), some (ki x1), none, none, none, some (ki x5)] [] :=
  kloop_ind (P := (fun st : kM × Int => KW x 0 0 Q st.1 34 [some (kr 0), some (ki x1), none, none, none, some (ki (st.2))] [])) (fun st out hb hc hx => bd_mm_gains_l34 C st.1 x1 st.2 hb (fun a0 a1 e => hc _ e) (fun a0 e => hX53 _ ((hx _ e).symm))) n (σ, x5) h
def mm_gains_j31 (σ : kM) (x1 : Int) : Option (Int × kM) :=
  (kloop (fun st => mm_gains_l34 st.1 x1 st.2) kFuel (σ, 0)).bind fun σ_7 =>
  kchk (0 ≤ (w32 (162 + x1)) ∧ (w32 (162 + x1)) < 290) <|
  kchk (0 ≤ (w32 (170 + x1)) ∧ (w32 (170 + x1)) < 290) <|
  some ((w32 ((σ_7 8 (w32 (162 + x1)).toNat) - (w32 (3 * (σ_7 8 (w32 (170 + x1)).toNat)))), σ_7))
set_option maxHeartbeats 4000000 in
theorem bd_mm_gains_j31 {x : kX} {l0 : Launch} {Q : State → Prop} (C : kCx x prog_14_method_109_code "PoetFinesModel" (some .int) kcl yM 6 l0 R0_mm_gains) (σ : kM) (x1 : Int) {out : Int × kM} (h : mm_gains_j31 σ x1 = some out) (hR : ∀ (r : Int) (τ : kM), out = (r, τ) → Q = kQ x (some (ki r)) τ 0 0) : KW x 0 0 Q σ 31 [some (kr 0), some (ki x1), none, none, none, none] [] := by
  unfold mm_gains_j31 at h
  refine kw_iconst C (kdec dc_M_gains 16 rfl) 32 rfl rfl ⟨by decide, by decide⟩ ?_
  refine kw_istore (L' := [some (kr 0), some (ki x1), none, none, none, some (ki 0)]) C (kdec dc_M_gains 17 rfl) 34 rfl (by decide) rfl rfl ?_
  obtain ⟨ex_5, hl_6, h⟩ := kbind_h h
  refine lp_mm_gains_l34 C x1 ?_ kFuel σ 0 hl_6
  · intro σ_7 e
    subst ex_5
    try dsimp only at h
    refine kw_aload_n C (kdec dc_M_gains 26 rfl) rfl 54 rfl rfl ?_
    refine kw_getR C (kdec dc_M_gains 27 rfl) 57 rfl fd_M_M_48_0 ?_
    refine kw_sipush (v := 162) C (kdec dc_M_gains 28 rfl) 60 rfl (by decide) ⟨by decide, by decide⟩ ?_
    refine kw_iload_n C (kdec dc_M_gains 29 rfl) rfl 61 rfl rfl ?_
    refine kw_iadd C (kdec dc_M_gains 30 rfl) 62 rfl ?_
    obtain ⟨hc_8, h⟩ := kchk_h h
    refine kw_iald C (kdec dc_M_gains 31 rfl) 63 rfl rfl hc_8.1 hc_8.2 ?_
    refine kw_iconst C (kdec dc_M_gains 32 rfl) 64 rfl rfl ⟨by decide, by decide⟩ ?_
    refine kw_aload_n C (kdec dc_M_gains 33 rfl) rfl 65 rfl rfl ?_
    refine kw_getR C (kdec dc_M_gains 34 rfl) 68 rfl fd_M_M_48_0 ?_
    refine kw_sipush (v := 170) C (kdec dc_M_gains 35 rfl) 71 rfl (by decide) ⟨by decide, by decide⟩ ?_
    refine kw_iload_n C (kdec dc_M_gains 36 rfl) rfl 72 rfl rfl ?_
    refine kw_iadd C (kdec dc_M_gains 37 rfl) 73 rfl ?_
    obtain ⟨hc_9, h⟩ := kchk_h h
    refine kw_iald C (kdec dc_M_gains 38 rfl) 74 rfl rfl hc_9.1 hc_9.2 ?_
    refine kw_imul C (kdec dc_M_gains 39 rfl) 75 rfl ?_
    refine kw_isub C (kdec dc_M_gains 40 rfl) 76 rfl ?_
    obtain rfl := Option.some.inj h
    exact kw_Q (hR _ _ rfl) (kw_ireturn C (kdec dc_M_gains 41 rfl))
def mm_gains_j17 (σ : kM) (x1 : Int) (x2 : Int) (x4 : Int) : Option (Int × kM) :=
  if x4 = 1 then
    (mm_burns σ 145 x2).bind fun σ_10 =>
    mm_gains_j31 σ_10 x1
  else
    mm_gains_j31 σ x1
set_option maxHeartbeats 4000000 in
theorem bd_mm_gains_j17 {x : kX} {l0 : Launch} {Q : State → Prop} (C : kCx x prog_14_method_109_code "PoetFinesModel" (some .int) kcl yM 6 l0 R0_mm_gains) (σ : kM) (x1 : Int) (x2 : Int) (x4 : Int) {out : Int × kM} (h : mm_gains_j17 σ x1 x2 x4 = some out) (hR : ∀ (r : Int) (τ : kM), out = (r, τ) → Q = kQ x (some (ki r)) τ 0 0) : KW x 0 0 Q σ 17 [some (kr 0), some (ki x1), some (ki x2), none, some (ki x4), none] [] := by
  unfold mm_gains_j17 at h
  refine kw_iload C (kdec dc_M_gains 9 rfl) 19 rfl rfl ?_
  refine kw_iconst C (kdec dc_M_gains 10 rfl) 20 rfl rfl ⟨by decide, by decide⟩ ?_
  refine kw_icmp_ne C (kdec dc_M_gains 11 rfl) 31 23 (by decide) rfl (fun hc20 => ?_) (fun hc20 => ?_)
  · rw [if_neg hc20] at h
    exact kw_sub (L' := [some (kr 0), some (ki x1), none, none, none, none]) ⟨rfl, rfl, trivial⟩ (bd_mm_gains_j31 C σ x1 h hR)
  · rw [if_pos hc20] at h
    refine kw_aload_n C (kdec dc_M_gains 12 rfl) rfl 24 rfl rfl ?_
    refine kw_sipush (v := 145) C (kdec dc_M_gains 13 rfl) 27 rfl (by decide) ⟨by decide, by decide⟩ ?_
    refine kw_iload_n C (kdec dc_M_gains 14 rfl) rfl 28 rfl rfl ?_
    obtain ⟨σ_10, hg_11, h⟩ := kbind_h h
    refine kw_callV (As := [ki 145, ki x2]) C (kdec dc_M_gains 15 rfl) 31 rfl cv_M_401 rfl rfl (mt_mm_burns l0 hg_11) ⟨rfl, rfl⟩ ⟨Nat.le_of_ble_eq_true rfl, Nat.le_of_ble_eq_true rfl⟩ ⟨Nat.zero_le _, Nat.zero_le _⟩ rfl (Nat.le_of_ble_eq_true rfl) ?_
    change KW x 0 0 Q σ_10 31 [some (kr 0), some (ki x1), some (ki x2), none, some (ki x4), none] []
    exact kw_sub (L' := [some (kr 0), some (ki x1), none, none, none, none]) ⟨rfl, rfl, trivial⟩ (bd_mm_gains_j31 C σ_10 x1 h hR)
def mm_gains (σ : kM) (x1 : Int) (x2 : Int) (x3 : Int) (x4 : Int) : Option (Int × kM) :=
  (mm_tries σ).bind fun σ_1 =>
  if x3 = 1 then
    (mm_burns σ_1 145 x1).bind fun σ_12 =>
    mm_gains_j17 σ_12 x1 x2 x4
  else
    mm_gains_j17 σ_1 x1 x2 x4
set_option maxHeartbeats 4000000 in
theorem bd_mm_gains {x : kX} {l0 : Launch} {Q : State → Prop} (C : kCx x prog_14_method_109_code "PoetFinesModel" (some .int) kcl yM 6 l0 R0_mm_gains) (σ : kM) (x1 : Int) (x2 : Int) (x3 : Int) (x4 : Int) {out : Int × kM} (h : mm_gains σ x1 x2 x3 x4 = some out) (hR : ∀ (r : Int) (τ : kM), out = (r, τ) → Q = kQ x (some (ki r)) τ 0 0) : KW x 0 0 Q σ 0 [some (kr 0), some (ki x1), some (ki x2), some (ki x3), some (ki x4), none] [] := by
  unfold mm_gains at h
  refine kw_aload_n C (kdec dc_M_gains 0 rfl) rfl 1 rfl rfl ?_
  obtain ⟨σ_1, hg_14, h⟩ := kbind_h h
  refine kw_callV (As := []) C (kdec dc_M_gains 1 rfl) 4 rfl cv_M_349 rfl rfl (mt_mm_tries l0 hg_14) ⟨rfl, rfl⟩ ⟨Nat.le_of_ble_eq_true rfl, Nat.le_of_ble_eq_true rfl⟩ ⟨Nat.zero_le _, Nat.zero_le _⟩ rfl (Nat.le_of_ble_eq_true rfl) ?_
  change KW x 0 0 Q σ_1 4 [some (kr 0), some (ki x1), some (ki x2), some (ki x3), some (ki x4), none] []
  refine kw_iload_n C (kdec dc_M_gains 2 rfl) rfl 5 rfl rfl ?_
  refine kw_iconst C (kdec dc_M_gains 3 rfl) 6 rfl rfl ⟨by decide, by decide⟩ ?_
  refine kw_icmp_ne C (kdec dc_M_gains 4 rfl) 17 9 (by decide) rfl (fun hc6 => ?_) (fun hc6 => ?_)
  · rw [if_neg hc6] at h
    exact kw_sub (L' := [some (kr 0), some (ki x1), some (ki x2), none, some (ki x4), none]) ⟨rfl, rfl, rfl, rfl, trivial⟩ (bd_mm_gains_j17 C σ_1 x1 x2 x4 h hR)
  · rw [if_pos hc6] at h
    refine kw_aload_n C (kdec dc_M_gains 5 rfl) rfl 10 rfl rfl ?_
    refine kw_sipush (v := 145) C (kdec dc_M_gains 6 rfl) 13 rfl (by decide) ⟨by decide, by decide⟩ ?_
    refine kw_iload_n C (kdec dc_M_gains 7 rfl) rfl 14 rfl rfl ?_
    obtain ⟨σ_12, hg_13, h⟩ := kbind_h h
    refine kw_callV (As := [ki 145, ki x1]) C (kdec dc_M_gains 8 rfl) 17 rfl cv_M_401 rfl rfl (mt_mm_burns l0 hg_13) ⟨rfl, rfl⟩ ⟨Nat.le_of_ble_eq_true rfl, Nat.le_of_ble_eq_true rfl⟩ ⟨Nat.zero_le _, Nat.zero_le _⟩ rfl (Nat.le_of_ble_eq_true rfl) ?_
    change KW x 0 0 Q σ_12 17 [some (kr 0), some (ki x1), some (ki x2), some (ki x3), some (ki x4), none] []
    exact kw_sub (L' := [some (kr 0), some (ki x1), some (ki x2), none, some (ki x4), none]) ⟨rfl, rfl, rfl, rfl, trivial⟩ (bd_mm_gains_j17 C σ_12 x1 x2 x4 h hR)
theorem mt_mm_gains (l0 : Launch) {σ : kM} {x1 : Int} {x2 : Int} {x3 : Int} {x4 : Int} {r : Int} {τ : kM} (h : mm_gains σ x1 x2 x3 x4 = some (r, τ)) : kMet l0 ky_M_gains prog_14_method_109_code 6 (some .int) R0_mm_gains kcl yM σ [kr 0, ki x1, ki x2, ki x3, ki x4] (some (ki r)) τ := kMet.of' [some (kr 0), some (ki x1), some (ki x2), some (ki x3), some (ki x4), none] (by decide) (Nat.le_of_ble_eq_true rfl) ⟨rfl, rfl, rfl, rfl, rfl, trivial⟩ (fun x C => bd_mm_gains C σ x1 x2 x3 x4 h (fun r τ e => by cases e; rfl))
def R0_mm_game : Room := ({ frames := 7, cells := 0, slots := 0, locals := 171 } : Room)
def mm_game_l59_j149 (σ : kM) (x1 : Int) (x2 : Int) (x3 : Int) (x4 : Int) (x5 : Int) (x6 : Int) : Option ((kM × Int × Int × Int) ⊕ ((kM × Int × Int))) :=
  klet (w32 (x6 + 1)) fun x6_17 =>
  some (Sum.inl (σ, x4, x5, x6_17))
set_option maxHeartbeats 4000000 in
theorem bd_mm_game_l59_j149 {x : kX} {l0 : Launch} {Q : State → Prop} (C : kCx x prog_14_method_110_code "PoetFinesModel" (some .int) kcl yM 9 l0 R0_mm_game) (σ : kM) (x1 : Int) (x2 : Int) (x3 : Int) (x4 : Int) (x5 : Int) (x6 : Int) {out : (kM × Int × Int × Int) ⊕ ((kM × Int × Int))} (h : mm_game_l59_j149 σ x1 x2 x3 x4 x5 x6 = some out) (hC : ∀ (σ' : kM) (x4' : Int) (x5' : Int) (x6' : Int), out = Sum.inl (σ', x4', x5', x6') → KW x 0 0 Q σ' 59 [some (kr 0), some (ki x1), some (ki x2), some (ki x3), some (ki x4'), some (ki x5'), some (ki x6'), none, none] []) (hX155 : ∀ (σ' : kM) (x4' : Int) (x5' : Int), out = Sum.inr (σ', x4', x5') → KW x 0 0 Q σ' 155 [none, none, none, some (ki x3), some (ki x4'), some (ki x5'), none, none, none] []) : KW x 0 0 Q σ 149 [some (kr 0), some (ki x1), some (ki x2), some (ki x3), some (ki x4), some (ki x5), some (ki x6), none, none] [] := by
  unfold mm_game_l59_j149 at h
  obtain ⟨x6_17, ex6_17, h⟩ := klet_h h
  refine kw_iinc (L' := [some (kr 0), some (ki x1), some (ki x2), some (ki x3), some (ki x4), some (ki x5), some (ki x6_17), none, none]) C (kdec dc_M_game 86 rfl) 152 rfl rfl (by decide) rfl (by rw [ex6_17]; rfl) ?_
  refine kw_goto C (kdec dc_M_game 87 rfl) 59 (by decide) ?_
  obtain rfl := Option.some.inj h
  exact (hC _ _ _ _ rfl)
def mm_game_l59 (σ : kM) (x1 : Int) (x2 : Int) (x3 : Int) (x4 : Int) (x5 : Int) (x6 : Int) : Option ((kM × Int × Int × Int) ⊕ ((kM × Int × Int))) :=
  if 4 ≤ x6 then
    some (Sum.inr (σ, x4, x5))
  else
    klet (kdiv x6 2) fun x7_11 =>
    klet (krem x6 2) fun x8_12 =>
    (mm_gains σ x1 x2 (w32 (1 - x7_11)) x8_12).bind fun (r_13, σ_14) =>
    (mm_gains σ_14 x1 x2 x7_11 x8_12).bind fun (r_15, σ_16) =>
    if r_15 < r_13 then
      mm_game_l59_j149 σ_16 x1 x2 x3 x4 x5 x6
    else
      (mm_gains σ_16 x2 x1 (w32 (1 - x8_12)) x7_11).bind fun (r_18, σ_19) =>
      (mm_gains σ_19 x2 x1 x8_12 x7_11).bind fun (r_20, σ_21) =>
      if r_18 ≤ r_20 then
        klet (w32 (x4 + 1)) fun x4_22 =>
        if x5 = ((-1)) then
          klet (w32 ((w32 (10 * x7_11)) + x8_12)) fun x5_23 =>
          mm_game_l59_j149 σ_21 x1 x2 x3 x4_22 x5_23 x6
        else
          mm_game_l59_j149 σ_21 x1 x2 x3 x4_22 x5 x6
      else
        mm_game_l59_j149 σ_21 x1 x2 x3 x4 x5 x6
set_option maxHeartbeats 4000000 in
theorem bd_mm_game_l59 {x : kX} {l0 : Launch} {Q : State → Prop} (C : kCx x prog_14_method_110_code "PoetFinesModel" (some .int) kcl yM 9 l0 R0_mm_game) (σ : kM) (x1 : Int) (x2 : Int) (x3 : Int) (x4 : Int) (x5 : Int) (x6 : Int) {out : (kM × Int × Int × Int) ⊕ ((kM × Int × Int))} (h : mm_game_l59 σ x1 x2 x3 x4 x5 x6 = some out) (hC : ∀ (σ' : kM) (x4' : Int) (x5' : Int) (x6' : Int), out = Sum.inl (σ', x4', x5', x6') → KW x 0 0 Q σ' 59 [some (kr 0), some (ki x1), some (ki x2), some (ki x3), some (ki x4'), some (ki x5'), some (ki x6'), none, none] []) (hX155 : ∀ (σ' : kM) (x4' : Int) (x5' : Int), out = Sum.inr (σ', x4', x5') → KW x 0 0 Q σ' 155 [none, none, none, some (ki x3), some (ki x4'), some (ki x5'), none, none, none] []) : KW x 0 0 Q σ 59 [some (kr 0), some (ki x1), some (ki x2), some (ki x3), some (ki x4), some (ki x5), some (ki x6), none, none] [] := by
  unfold mm_game_l59 at h
  refine kw_iload C (kdec dc_M_game 34 rfl) 61 rfl rfl ?_
  refine kw_iconst C (kdec dc_M_game 35 rfl) 62 rfl rfl ⟨by decide, by decide⟩ ?_
  refine kw_icmp_ge C (kdec dc_M_game 36 rfl) 155 65 (by decide) rfl (fun hc62 => ?_) (fun hc62 => ?_)
  · rw [if_pos hc62] at h
    obtain rfl := Option.some.inj h
    exact kw_sub (L' := [none, none, none, some (ki x3), some (ki x4), some (ki x5), none, none, none]) ⟨rfl, rfl, rfl, trivial⟩ (hX155 _ _ _ rfl)
  · rw [if_neg hc62] at h
    refine kw_iload C (kdec dc_M_game 37 rfl) 67 rfl rfl ?_
    refine kw_iconst C (kdec dc_M_game 38 rfl) 68 rfl rfl ⟨by decide, by decide⟩ ?_
    refine kw_idiv C (kdec dc_M_game 39 rfl) 69 rfl (by decide) ?_
    obtain ⟨x7_11, ex7_11, h⟩ := klet_h h
    refine kw_top ex7_11 ?_
    refine kw_istore (L' := [some (kr 0), some (ki x1), some (ki x2), some (ki x3), some (ki x4), some (ki x5), some (ki x6), some (ki x7_11), none]) C (kdec dc_M_game 40 rfl) 71 rfl (by decide) rfl rfl ?_
    refine kw_iload C (kdec dc_M_game 41 rfl) 73 rfl rfl ?_
    refine kw_iconst C (kdec dc_M_game 42 rfl) 74 rfl rfl ⟨by decide, by decide⟩ ?_
    refine kw_irem C (kdec dc_M_game 43 rfl) 75 rfl (by decide) ?_
    obtain ⟨x8_12, ex8_12, h⟩ := klet_h h
    refine kw_top ex8_12 ?_
    refine kw_istore (L' := [some (kr 0), some (ki x1), some (ki x2), some (ki x3), some (ki x4), some (ki x5), some (ki x6), some (ki x7_11), some (ki x8_12)]) C (kdec dc_M_game 44 rfl) 77 rfl (by decide) rfl rfl ?_
    refine kw_aload_n C (kdec dc_M_game 45 rfl) rfl 78 rfl rfl ?_
    refine kw_iload_n C (kdec dc_M_game 46 rfl) rfl 79 rfl rfl ?_
    refine kw_iload_n C (kdec dc_M_game 47 rfl) rfl 80 rfl rfl ?_
    refine kw_iconst C (kdec dc_M_game 48 rfl) 81 rfl rfl ⟨by decide, by decide⟩ ?_
    refine kw_iload C (kdec dc_M_game 49 rfl) 83 rfl rfl ?_
    refine kw_isub C (kdec dc_M_game 50 rfl) 84 rfl ?_
    refine kw_iload C (kdec dc_M_game 51 rfl) 86 rfl rfl ?_
    obtain ⟨⟨r_13, σ_14⟩, hg_27, h⟩ := kbind_h h
    dsimp only at h
    refine kw_callV (As := [ki x1, ki x2, ki (w32 (1 - x7_11)), ki x8_12]) C (kdec dc_M_game 52 rfl) 89 rfl cv_M_434 rfl rfl (mt_mm_gains l0 hg_27) ⟨rfl, rfl⟩ ⟨Nat.le_of_ble_eq_true rfl, Nat.le_of_ble_eq_true rfl⟩ ⟨Nat.zero_le _, Nat.zero_le _⟩ rfl (Nat.le_of_ble_eq_true rfl) ?_
    change KW x 0 0 Q σ_14 89 [some (kr 0), some (ki x1), some (ki x2), some (ki x3), some (ki x4), some (ki x5), some (ki x6), some (ki x7_11), some (ki x8_12)] [ki r_13]
    refine kw_aload_n C (kdec dc_M_game 53 rfl) rfl 90 rfl rfl ?_
    refine kw_iload_n C (kdec dc_M_game 54 rfl) rfl 91 rfl rfl ?_
    refine kw_iload_n C (kdec dc_M_game 55 rfl) rfl 92 rfl rfl ?_
    refine kw_iload C (kdec dc_M_game 56 rfl) 94 rfl rfl ?_
    refine kw_iload C (kdec dc_M_game 57 rfl) 96 rfl rfl ?_
    obtain ⟨⟨r_15, σ_16⟩, hg_26, h⟩ := kbind_h h
    dsimp only at h
    refine kw_callV (As := [ki x1, ki x2, ki x7_11, ki x8_12]) C (kdec dc_M_game 58 rfl) 99 rfl cv_M_434 rfl rfl (mt_mm_gains l0 hg_26) ⟨rfl, rfl⟩ ⟨Nat.le_of_ble_eq_true rfl, Nat.le_of_ble_eq_true rfl⟩ ⟨Nat.zero_le _, Nat.zero_le _⟩ rfl (Nat.le_of_ble_eq_true rfl) ?_
    change KW x 0 0 Q σ_16 99 [some (kr 0), some (ki x1), some (ki x2), some (ki x3), some (ki x4), some (ki x5), some (ki x6), some (ki x7_11), some (ki x8_12)] [ki r_15, ki r_13]
    refine kw_icmp_gt C (kdec dc_M_game 59 rfl) 149 102 (by decide) rfl (fun hc99 => ?_) (fun hc99 => ?_)
    · rw [if_pos hc99] at h
      exact kw_sub (L' := [some (kr 0), some (ki x1), some (ki x2), some (ki x3), some (ki x4), some (ki x5), some (ki x6), none, none]) ⟨rfl, rfl, rfl, rfl, rfl, rfl, rfl, trivial⟩ (bd_mm_game_l59_j149 C σ_16 x1 x2 x3 x4 x5 x6 h hC hX155)
    · rw [if_neg hc99] at h
      refine kw_aload_n C (kdec dc_M_game 60 rfl) rfl 103 rfl rfl ?_
      refine kw_iload_n C (kdec dc_M_game 61 rfl) rfl 104 rfl rfl ?_
      refine kw_iload_n C (kdec dc_M_game 62 rfl) rfl 105 rfl rfl ?_
      refine kw_iconst C (kdec dc_M_game 63 rfl) 106 rfl rfl ⟨by decide, by decide⟩ ?_
      refine kw_iload C (kdec dc_M_game 64 rfl) 108 rfl rfl ?_
      refine kw_isub C (kdec dc_M_game 65 rfl) 109 rfl ?_
      refine kw_iload C (kdec dc_M_game 66 rfl) 111 rfl rfl ?_
      obtain ⟨⟨r_18, σ_19⟩, hg_25, h⟩ := kbind_h h
      dsimp only at h
      refine kw_callV (As := [ki x2, ki x1, ki (w32 (1 - x8_12)), ki x7_11]) C (kdec dc_M_game 67 rfl) 114 rfl cv_M_434 rfl rfl (mt_mm_gains l0 hg_25) ⟨rfl, rfl⟩ ⟨Nat.le_of_ble_eq_true rfl, Nat.le_of_ble_eq_true rfl⟩ ⟨Nat.zero_le _, Nat.zero_le _⟩ rfl (Nat.le_of_ble_eq_true rfl) ?_
      change KW x 0 0 Q σ_19 114 [some (kr 0), some (ki x1), some (ki x2), some (ki x3), some (ki x4), some (ki x5), some (ki x6), some (ki x7_11), some (ki x8_12)] [ki r_18]
      refine kw_aload_n C (kdec dc_M_game 68 rfl) rfl 115 rfl rfl ?_
      refine kw_iload_n C (kdec dc_M_game 69 rfl) rfl 116 rfl rfl ?_
      refine kw_iload_n C (kdec dc_M_game 70 rfl) rfl 117 rfl rfl ?_
      refine kw_iload C (kdec dc_M_game 71 rfl) 119 rfl rfl ?_
      refine kw_iload C (kdec dc_M_game 72 rfl) 121 rfl rfl ?_
      obtain ⟨⟨r_20, σ_21⟩, hg_24, h⟩ := kbind_h h
      dsimp only at h
      refine kw_callV (As := [ki x2, ki x1, ki x8_12, ki x7_11]) C (kdec dc_M_game 73 rfl) 124 rfl cv_M_434 rfl rfl (mt_mm_gains l0 hg_24) ⟨rfl, rfl⟩ ⟨Nat.le_of_ble_eq_true rfl, Nat.le_of_ble_eq_true rfl⟩ ⟨Nat.zero_le _, Nat.zero_le _⟩ rfl (Nat.le_of_ble_eq_true rfl) ?_
      change KW x 0 0 Q σ_21 124 [some (kr 0), some (ki x1), some (ki x2), some (ki x3), some (ki x4), some (ki x5), some (ki x6), some (ki x7_11), some (ki x8_12)] [ki r_20, ki r_18]
      refine kw_icmp_le C (kdec dc_M_game 74 rfl) 130 127 (by decide) rfl (fun hc124 => ?_) (fun hc124 => ?_)
      · rw [if_pos hc124] at h
        obtain ⟨x4_22, ex4_22, h⟩ := klet_h h
        refine kw_iinc (L' := [some (kr 0), some (ki x1), some (ki x2), some (ki x3), some (ki x4_22), some (ki x5), some (ki x6), some (ki x7_11), some (ki x8_12)]) C (kdec dc_M_game 76 rfl) 133 rfl rfl (by decide) rfl (by rw [ex4_22]; rfl) ?_
        refine kw_iload C (kdec dc_M_game 77 rfl) 135 rfl rfl ?_
        refine kw_iconst C (kdec dc_M_game 78 rfl) 136 rfl rfl ⟨by decide, by decide⟩ ?_
        refine kw_icmp_ne C (kdec dc_M_game 79 rfl) 149 139 (by decide) rfl (fun hc136 => ?_) (fun hc136 => ?_)
        · rw [if_neg hc136] at h
          exact kw_sub (L' := [some (kr 0), some (ki x1), some (ki x2), some (ki x3), some (ki x4_22), some (ki x5), some (ki x6), none, none]) ⟨rfl, rfl, rfl, rfl, rfl, rfl, rfl, trivial⟩ (bd_mm_game_l59_j149 C σ_21 x1 x2 x3 x4_22 x5 x6 h hC hX155)
        · rw [if_pos hc136] at h
          refine kw_bipush (v := 10) C (kdec dc_M_game 80 rfl) 141 rfl (by decide) ⟨by decide, by decide⟩ ?_
          refine kw_iload C (kdec dc_M_game 81 rfl) 143 rfl rfl ?_
          refine kw_imul C (kdec dc_M_game 82 rfl) 144 rfl ?_
          refine kw_iload C (kdec dc_M_game 83 rfl) 146 rfl rfl ?_
          refine kw_iadd C (kdec dc_M_game 84 rfl) 147 rfl ?_
          obtain ⟨x5_23, ex5_23, h⟩ := klet_h h
          refine kw_top ex5_23 ?_
          refine kw_istore (L' := [some (kr 0), some (ki x1), some (ki x2), some (ki x3), some (ki x4_22), some (ki x5_23), some (ki x6), some (ki x7_11), some (ki x8_12)]) C (kdec dc_M_game 85 rfl) 149 rfl (by decide) rfl rfl ?_
          exact kw_sub (L' := [some (kr 0), some (ki x1), some (ki x2), some (ki x3), some (ki x4_22), some (ki x5_23), some (ki x6), none, none]) ⟨rfl, rfl, rfl, rfl, rfl, rfl, rfl, trivial⟩ (bd_mm_game_l59_j149 C σ_21 x1 x2 x3 x4_22 x5_23 x6 h hC hX155)
      · rw [if_neg hc124] at h
        refine kw_goto C (kdec dc_M_game 75 rfl) 149 (by decide) ?_
        exact kw_sub (L' := [some (kr 0), some (ki x1), some (ki x2), some (ki x3), some (ki x4), some (ki x5), some (ki x6), none, none]) ⟨rfl, rfl, rfl, rfl, rfl, rfl, rfl, trivial⟩ (bd_mm_game_l59_j149 C σ_21 x1 x2 x3 x4 x5 x6 h hC hX155)
theorem lp_mm_game_l59 {x : kX} {l0 : Launch} {Q : State → Prop} (C : kCx x prog_14_method_110_code "PoetFinesModel" (some .int) kcl yM 9 l0 R0_mm_game) (x1 : Int) (x2 : Int) (x3 : Int) {ex : (kM × Int × Int)} (hX155 : ∀ (σ' : kM) (x4' : Int) (x5' : Int), ex = (σ', x4', x5') → KW x 0 0 Q σ' 155 [none, none, none, some (ki x3), some (ki x4'), some (ki x5'), none, none, none] []) (n : Nat) (σ : kM) (x4 : Int) (x5 : Int) (x6 : Int) (h : kloop (fun st => mm_game_l59 st.1 x1 x2 x3 st.2.1 st.2.2.1 st.2.2.2) n (σ, x4, x5, x6) = some ex) : KW x 0 0 Q σ 59 [some (kr 0), some (ki x1), some (ki x2), some (ki x3), some (ki x4), some (ki x5), some (ki x6), none, none] [] :=
  kloop_ind (P := (fun st : kM × Int × Int × Int => KW x 0 0 Q st.1 59 [some (kr 0), some (ki x1), some (ki x2), some (ki x3), some (ki (st.2.1)), some (ki (st.2.2.1)), some (ki (st.2.2.2)), none, none] [])) (fun st out hb hc hx => bd_mm_game_l59 C st.1 x1 x2 x3 st.2.1 st.2.2.1 st.2.2.2 hb (fun a0 a1 a2 a3 e => hc _ e) (fun a0 a1 a2 e => hX155 _ _ _ ((hx _ e).symm))) n (σ, x4, x5, x6) h
def mm_game_j41 (σ : kM) (x1 : Int) (x2 : Int) (x3 : Int) (s0 : Int) : Option (Int × kM) :=
  (mm_right σ s0 2).bind fun (r_8, σ_9) =>
  if r_8 = 0 then
    some ((0, σ_9))
  else
    klet ((-1)) fun x5_10 =>
    (kloop (fun st => mm_game_l59 st.1 x1 x2 x3 st.2.1 st.2.2.1 st.2.2.2) kFuel (σ_9, 0, x5_10, 0)).bind fun (σ_30, x4_31, x5_32) =>
    if x3 = 0 then
      some ((x4_31, σ_30))
    else
      some ((x5_32, σ_30))
set_option maxHeartbeats 4000000 in
theorem bd_mm_game_j41 {x : kX} {l0 : Launch} {Q : State → Prop} (C : kCx x prog_14_method_110_code "PoetFinesModel" (some .int) kcl yM 9 l0 R0_mm_game) (σ : kM) (x1 : Int) (x2 : Int) (x3 : Int) (s0 : Int) {out : Int × kM} (h : mm_game_j41 σ x1 x2 x3 s0 = some out) (hR : ∀ (r : Int) (τ : kM), out = (r, τ) → Q = kQ x (some (ki r)) τ 0 0) : KW x 0 0 Q σ 41 [some (kr 0), some (ki x1), some (ki x2), some (ki x3), none, none, none, none, none] [ki s0, kr 0] := by
  unfold mm_game_j41 at h
  refine kw_iconst C (kdec dc_M_game 23 rfl) 42 rfl rfl ⟨by decide, by decide⟩ ?_
  obtain ⟨⟨r_8, σ_9⟩, hg_33, h⟩ := kbind_h h
  dsimp only at h
  refine kw_callV (As := [ki s0, ki 2]) C (kdec dc_M_game 24 rfl) 45 rfl cv_M_263 rfl rfl (mt_mm_right l0 hg_33) ⟨rfl, rfl⟩ ⟨Nat.le_of_ble_eq_true rfl, Nat.le_of_ble_eq_true rfl⟩ ⟨Nat.zero_le _, Nat.zero_le _⟩ rfl (Nat.le_of_ble_eq_true rfl) ?_
  change KW x 0 0 Q σ_9 45 [some (kr 0), some (ki x1), some (ki x2), some (ki x3), none, none, none, none, none] [ki r_8]
  refine kw_if_ne C (kdec dc_M_game 25 rfl) 50 48 (by decide) rfl (fun hc45 => ?_) (fun hc45 => ?_)
  · rw [if_neg hc45] at h
    refine kw_iconst C (kdec dc_M_game 28 rfl) 51 rfl rfl ⟨by decide, by decide⟩ ?_
    refine kw_istore (L' := [some (kr 0), some (ki x1), some (ki x2), some (ki x3), some (ki 0), none, none, none, none]) C (kdec dc_M_game 29 rfl) 53 rfl (by decide) rfl rfl ?_
    refine kw_iconst C (kdec dc_M_game 30 rfl) 54 rfl rfl ⟨by decide, by decide⟩ ?_
    obtain ⟨x5_10, ex5_10, h⟩ := klet_h h
    refine kw_top ex5_10 ?_
    refine kw_istore (L' := [some (kr 0), some (ki x1), some (ki x2), some (ki x3), some (ki 0), some (ki x5_10), none, none, none]) C (kdec dc_M_game 31 rfl) 56 rfl (by decide) rfl rfl ?_
    refine kw_iconst C (kdec dc_M_game 32 rfl) 57 rfl rfl ⟨by decide, by decide⟩ ?_
    refine kw_istore (L' := [some (kr 0), some (ki x1), some (ki x2), some (ki x3), some (ki 0), some (ki x5_10), some (ki 0), none, none]) C (kdec dc_M_game 33 rfl) 59 rfl (by decide) rfl rfl ?_
    obtain ⟨ex_28, hl_29, h⟩ := kbind_h h
    refine lp_mm_game_l59 C x1 x2 x3 ?_ kFuel σ_9 0 x5_10 0 hl_29
    · intro σ_30 x4_31 x5_32 e
      subst ex_28
      try dsimp only at h
      refine kw_iload_n C (kdec dc_M_game 88 rfl) rfl 156 rfl rfl ?_
      refine kw_if_ne C (kdec dc_M_game 89 rfl) 164 159 (by decide) rfl (fun hc156 => ?_) (fun hc156 => ?_)
      · rw [if_neg hc156] at h
        refine kw_iload C (kdec dc_M_game 92 rfl) 166 rfl rfl ?_
        obtain rfl := Option.some.inj h
        exact kw_Q (hR _ _ rfl) (kw_ireturn C (kdec dc_M_game 93 rfl))
      · rw [if_pos hc156] at h
        refine kw_iload C (kdec dc_M_game 90 rfl) 161 rfl rfl ?_
        refine kw_goto C (kdec dc_M_game 91 rfl) 166 (by decide) ?_
        obtain rfl := Option.some.inj h
        exact kw_Q (hR _ _ rfl) (kw_ireturn C (kdec dc_M_game 93 rfl))
  · rw [if_pos hc45] at h
    refine kw_iconst C (kdec dc_M_game 26 rfl) 49 rfl rfl ⟨by decide, by decide⟩ ?_
    obtain rfl := Option.some.inj h
    exact kw_Q (hR _ _ rfl) (kw_ireturn C (kdec dc_M_game 27 rfl))
def mm_game (σ : kM) (x1 : Int) (x2 : Int) (x3 : Int) : Option (Int × kM) :=
  klet (kst σ 0 (kup (σ 0) 0 0)) fun σ_1 =>
  (mm_isPoet σ_1 x1).bind fun (r_2, σ_3) =>
  if r_2 = 0 then
    some ((0, σ_3))
  else
    (mm_isPoet σ_3 x2).bind fun (r_4, σ_5) =>
    if r_4 = 0 then
      some ((0, σ_5))
    else
      (mm_isWhat σ_5 x3 1).bind fun (r_6, σ_7) =>
      if r_6 = 0 then
        some ((0, σ_7))
      else
        if x1 = x2 then
          mm_game_j41 σ_7 x1 x2 x3 0
        else
          mm_game_j41 σ_7 x1 x2 x3 1
set_option maxHeartbeats 4000000 in
theorem bd_mm_game {x : kX} {l0 : Launch} {Q : State → Prop} (C : kCx x prog_14_method_110_code "PoetFinesModel" (some .int) kcl yM 9 l0 R0_mm_game) (σ : kM) (x1 : Int) (x2 : Int) (x3 : Int) {out : Int × kM} (h : mm_game σ x1 x2 x3 = some out) (hR : ∀ (r : Int) (τ : kM), out = (r, τ) → Q = kQ x (some (ki r)) τ 0 0) : KW x 0 0 Q σ 0 [some (kr 0), some (ki x1), some (ki x2), some (ki x3), none, none, none, none, none] [] := by
  unfold mm_game at h
  refine kw_aload_n C (kdec dc_M_game 0 rfl) rfl 1 rfl rfl ?_
  refine kw_iconst C (kdec dc_M_game 1 rfl) 2 rfl rfl ⟨by decide, by decide⟩ ?_
  obtain ⟨σ_1, eσ_1, h⟩ := klet_h h
  refine kw_putI C (kdec dc_M_game 2 rfl) 5 rfl fp_M_M_99_0 ?_
  refine kw_sig eσ_1 ?_
  refine kw_aload_n C (kdec dc_M_game 3 rfl) rfl 6 rfl rfl ?_
  refine kw_iload_n C (kdec dc_M_game 4 rfl) rfl 7 rfl rfl ?_
  obtain ⟨⟨r_2, σ_3⟩, hg_36, h⟩ := kbind_h h
  dsimp only at h
  refine kw_callV (As := [ki x1]) C (kdec dc_M_game 5 rfl) 10 rfl cv_M_367 rfl rfl (mt_mm_isPoet l0 hg_36) ⟨rfl, rfl⟩ ⟨Nat.le_of_ble_eq_true rfl, Nat.le_of_ble_eq_true rfl⟩ ⟨Nat.zero_le _, Nat.zero_le _⟩ rfl (Nat.le_of_ble_eq_true rfl) ?_
  change KW x 0 0 Q σ_3 10 [some (kr 0), some (ki x1), some (ki x2), some (ki x3), none, none, none, none, none] [ki r_2]
  refine kw_if_eq C (kdec dc_M_game 6 rfl) 48 13 (by decide) rfl (fun hc10 => ?_) (fun hc10 => ?_)
  · rw [if_pos hc10] at h
    refine kw_iconst C (kdec dc_M_game 26 rfl) 49 rfl rfl ⟨by decide, by decide⟩ ?_
    obtain rfl := Option.some.inj h
    exact kw_Q (hR _ _ rfl) (kw_ireturn C (kdec dc_M_game 27 rfl))
  · rw [if_neg hc10] at h
    refine kw_aload_n C (kdec dc_M_game 7 rfl) rfl 14 rfl rfl ?_
    refine kw_iload_n C (kdec dc_M_game 8 rfl) rfl 15 rfl rfl ?_
    obtain ⟨⟨r_4, σ_5⟩, hg_35, h⟩ := kbind_h h
    dsimp only at h
    refine kw_callV (As := [ki x2]) C (kdec dc_M_game 9 rfl) 18 rfl cv_M_367 rfl rfl (mt_mm_isPoet l0 hg_35) ⟨rfl, rfl⟩ ⟨Nat.le_of_ble_eq_true rfl, Nat.le_of_ble_eq_true rfl⟩ ⟨Nat.zero_le _, Nat.zero_le _⟩ rfl (Nat.le_of_ble_eq_true rfl) ?_
    change KW x 0 0 Q σ_5 18 [some (kr 0), some (ki x1), some (ki x2), some (ki x3), none, none, none, none, none] [ki r_4]
    refine kw_if_eq C (kdec dc_M_game 10 rfl) 48 21 (by decide) rfl (fun hc18 => ?_) (fun hc18 => ?_)
    · rw [if_pos hc18] at h
      refine kw_iconst C (kdec dc_M_game 26 rfl) 49 rfl rfl ⟨by decide, by decide⟩ ?_
      obtain rfl := Option.some.inj h
      exact kw_Q (hR _ _ rfl) (kw_ireturn C (kdec dc_M_game 27 rfl))
    · rw [if_neg hc18] at h
      refine kw_aload_n C (kdec dc_M_game 11 rfl) rfl 22 rfl rfl ?_
      refine kw_iload_n C (kdec dc_M_game 12 rfl) rfl 23 rfl rfl ?_
      refine kw_iconst C (kdec dc_M_game 13 rfl) 24 rfl rfl ⟨by decide, by decide⟩ ?_
      obtain ⟨⟨r_6, σ_7⟩, hg_34, h⟩ := kbind_h h
      dsimp only at h
      refine kw_callV (As := [ki x3, ki 1]) C (kdec dc_M_game 14 rfl) 27 rfl cv_M_376 rfl rfl (mt_mm_isWhat l0 hg_34) ⟨rfl, rfl⟩ ⟨Nat.le_of_ble_eq_true rfl, Nat.le_of_ble_eq_true rfl⟩ ⟨Nat.zero_le _, Nat.zero_le _⟩ rfl (Nat.le_of_ble_eq_true rfl) ?_
      change KW x 0 0 Q σ_7 27 [some (kr 0), some (ki x1), some (ki x2), some (ki x3), none, none, none, none, none] [ki r_6]
      refine kw_if_eq C (kdec dc_M_game 15 rfl) 48 30 (by decide) rfl (fun hc27 => ?_) (fun hc27 => ?_)
      · rw [if_pos hc27] at h
        refine kw_iconst C (kdec dc_M_game 26 rfl) 49 rfl rfl ⟨by decide, by decide⟩ ?_
        obtain rfl := Option.some.inj h
        exact kw_Q (hR _ _ rfl) (kw_ireturn C (kdec dc_M_game 27 rfl))
      · rw [if_neg hc27] at h
        refine kw_aload_n C (kdec dc_M_game 16 rfl) rfl 31 rfl rfl ?_
        refine kw_iload_n C (kdec dc_M_game 17 rfl) rfl 32 rfl rfl ?_
        refine kw_iload_n C (kdec dc_M_game 18 rfl) rfl 33 rfl rfl ?_
        refine kw_icmp_eq C (kdec dc_M_game 19 rfl) 40 36 (by decide) rfl (fun hc33 => ?_) (fun hc33 => ?_)
        · rw [if_pos hc33] at h
          refine kw_iconst C (kdec dc_M_game 22 rfl) 41 rfl rfl ⟨by decide, by decide⟩ ?_
          exact bd_mm_game_j41 C σ_7 x1 x2 x3 0 h hR
        · rw [if_neg hc33] at h
          refine kw_iconst C (kdec dc_M_game 20 rfl) 37 rfl rfl ⟨by decide, by decide⟩ ?_
          refine kw_goto C (kdec dc_M_game 21 rfl) 41 (by decide) ?_
          exact bd_mm_game_j41 C σ_7 x1 x2 x3 1 h hR
theorem mt_mm_game (l0 : Launch) {σ : kM} {x1 : Int} {x2 : Int} {x3 : Int} {r : Int} {τ : kM} (h : mm_game σ x1 x2 x3 = some (r, τ)) : kMet l0 ky_M_game prog_14_method_110_code 9 (some .int) R0_mm_game kcl yM σ [kr 0, ki x1, ki x2, ki x3] (some (ki r)) τ := kMet.of' [some (kr 0), some (ki x1), some (ki x2), some (ki x3), none, none, none, none, none] (by decide) (Nat.le_of_ble_eq_true rfl) ⟨rfl, rfl, rfl, rfl, trivial⟩ (fun x C => bd_mm_game C σ x1 x2 x3 h (fun r τ e => by cases e; rfl))
def R0_mm_draw : Room := ({ frames := 0, cells := 0, slots := 0, locals := 0 } : Room)
def mm_draw (σ : kM) (x1 : Int) : Option (Int × kM) :=
  klet (kst σ 0 (kup (σ 0) 57 (w32 ((w32 ((σ 0 57) * 1103515245)) + 12345)))) fun σ_1 =>
  kchk (¬ x1 = 0) <|
  some ((krem (kand (kshr (σ_1 0 57) 16) 32767) x1, σ_1))
set_option maxHeartbeats 4000000 in
theorem bd_mm_draw {x : kX} {l0 : Launch} {Q : State → Prop} (C : kCx x prog_14_method_111_code "PoetFinesModel" (some .int) kcl yM 2 l0 R0_mm_draw) (σ : kM) (x1 : Int) {out : Int × kM} (h : mm_draw σ x1 = some out) (hR : ∀ (r : Int) (τ : kM), out = (r, τ) → Q = kQ x (some (ki r)) τ 0 0) : KW x 0 0 Q σ 0 [some (kr 0), some (ki x1)] [] := by
  unfold mm_draw at h
  refine kw_aload_n C (kdec dc_M_draw 0 rfl) rfl 1 rfl rfl ?_
  refine kw_aload_n C (kdec dc_M_draw 1 rfl) rfl 2 rfl rfl ?_
  refine kw_getI C (kdec dc_M_draw 2 rfl) 5 rfl fd_M_M_437_0 ?_
  refine kw_ldcw (v := 1103515245) C (kdec dc_M_draw 3 rfl) 8 rfl wd_2192 ⟨by decide, by decide⟩ ?_
  refine kw_imul C (kdec dc_M_draw 4 rfl) 9 rfl ?_
  refine kw_sipush (v := 12345) C (kdec dc_M_draw 5 rfl) 12 rfl (by decide) ⟨by decide, by decide⟩ ?_
  refine kw_iadd C (kdec dc_M_draw 6 rfl) 13 rfl ?_
  obtain ⟨σ_1, eσ_1, h⟩ := klet_h h
  refine kw_putI C (kdec dc_M_draw 7 rfl) 16 rfl fp_M_M_437_0 ?_
  refine kw_sig eσ_1 ?_
  refine kw_aload_n C (kdec dc_M_draw 8 rfl) rfl 17 rfl rfl ?_
  refine kw_getI C (kdec dc_M_draw 9 rfl) 20 rfl fd_M_M_437_0 ?_
  refine kw_bipush (v := 16) C (kdec dc_M_draw 10 rfl) 22 rfl (by decide) ⟨by decide, by decide⟩ ?_
  refine kw_ishr C (kdec dc_M_draw 11 rfl) 23 rfl ?_
  refine kw_sipush (v := 32767) C (kdec dc_M_draw 12 rfl) 26 rfl (by decide) ⟨by decide, by decide⟩ ?_
  refine kw_iand C (kdec dc_M_draw 13 rfl) 27 rfl ?_
  refine kw_iload_n C (kdec dc_M_draw 14 rfl) rfl 28 rfl rfl ?_
  obtain ⟨hc_2, h⟩ := kchk_h h
  refine kw_irem C (kdec dc_M_draw 15 rfl) 29 rfl hc_2 ?_
  obtain rfl := Option.some.inj h
  exact kw_Q (hR _ _ rfl) (kw_ireturn C (kdec dc_M_draw 16 rfl))
theorem mt_mm_draw (l0 : Launch) {σ : kM} {x1 : Int} {r : Int} {τ : kM} (h : mm_draw σ x1 = some (r, τ)) : kMet l0 ky_M_draw prog_14_method_111_code 2 (some .int) R0_mm_draw kcl yM σ [kr 0, ki x1] (some (ki r)) τ := kMet.of' [some (kr 0), some (ki x1)] (by decide) (Nat.le_of_ble_eq_true rfl) ⟨rfl, rfl, trivial⟩ (fun x C => bd_mm_draw C σ x1 h (fun r τ e => by cases e; rfl))
def R0_mm_happens : Room := ({ frames := 1, cells := 0, slots := 0, locals := 21 } : Room)
def mm_happens_j66 (σ : kM) (x1 : Int) : Option (kM) :=
  if x1 = 2 then
    if (σ 0 3) ≤ 0 then
      some σ
    else
      (mm_draw σ (σ 0 3)).bind fun (r_3, σ_4) =>
      kchk (0 ≤ (w32 (166 + r_3)) ∧ (w32 (166 + r_3)) < 290) <|
      (mm_draw σ_4 10).bind fun (r_6, σ_7) =>
      kchk (0 ≤ (w32 ((w32 (234 + (w32 (6 * r_3)))) + (σ_4 8 (w32 (166 + r_3)).toNat))) ∧ (w32 ((w32 (234 + (w32 (6 * r_3)))) + (σ_4 8 (w32 (166 + r_3)).toNat))) < 290) <|
      klet (kst σ_7 8 (kup (σ_7 8) ((w32 ((w32 (234 + (w32 (6 * r_3)))) + (σ_4 8 (w32 (166 + r_3)).toNat))).toNat) r_6)) fun σ_9 =>
      some σ_9
  else
    some σ
set_option maxHeartbeats 4000000 in
theorem bd_mm_happens_j66 {x : kX} {l0 : Launch} {Q : State → Prop} (C : kCx x prog_14_method_112_code "PoetFinesModel" none kcl yM 3 l0 R0_mm_happens) (σ : kM) (x1 : Int) {out : kM} (h : mm_happens_j66 σ x1 = some out) (hR : ∀ (τ : kM), out = τ → Q = kQ x none τ 0 0) : KW x 0 0 Q σ 66 [some (kr 0), some (ki x1), none] [] := by
  unfold mm_happens_j66 at h
  refine kw_iload_n C (kdec dc_M_happens 35 rfl) rfl 67 rfl rfl ?_
  refine kw_iconst C (kdec dc_M_happens 36 rfl) 68 rfl rfl ⟨by decide, by decide⟩ ?_
  refine kw_icmp_ne C (kdec dc_M_happens 37 rfl) 117 71 (by decide) rfl (fun hc68 => ?_) (fun hc68 => ?_)
  · rw [if_neg hc68] at h
    obtain rfl := Option.some.inj h
    exact kw_Q (hR _ rfl) (kw_return C (kdec dc_M_happens 64 rfl))
  · rw [if_pos hc68] at h
    refine kw_aload_n C (kdec dc_M_happens 38 rfl) rfl 72 rfl rfl ?_
    refine kw_getI C (kdec dc_M_happens 39 rfl) 75 rfl fd_M_M_273_0 ?_
    refine kw_if_le C (kdec dc_M_happens 40 rfl) 117 78 (by decide) rfl (fun hc75 => ?_) (fun hc75 => ?_)
    · rw [if_pos hc75] at h
      obtain rfl := Option.some.inj h
      exact kw_Q (hR _ rfl) (kw_return C (kdec dc_M_happens 64 rfl))
    · rw [if_neg hc75] at h
      refine kw_aload_n C (kdec dc_M_happens 41 rfl) rfl 79 rfl rfl ?_
      refine kw_aload_n C (kdec dc_M_happens 42 rfl) rfl 80 rfl rfl ?_
      refine kw_getI C (kdec dc_M_happens 43 rfl) 83 rfl fd_M_M_273_0 ?_
      obtain ⟨⟨r_3, σ_4⟩, hg_11, h⟩ := kbind_h h
      dsimp only at h
      refine kw_callV (As := [ki (σ 0 3)]) C (kdec dc_M_happens 44 rfl) 86 rfl cv_M_441 rfl rfl (mt_mm_draw l0 hg_11) ⟨rfl, rfl⟩ ⟨Nat.le_of_ble_eq_true rfl, Nat.le_of_ble_eq_true rfl⟩ ⟨Nat.zero_le _, Nat.zero_le _⟩ rfl (Nat.le_of_ble_eq_true rfl) ?_
      change KW x 0 0 Q σ_4 86 [some (kr 0), some (ki x1), none] [ki r_3]
      refine kw_istore_n (L' := [some (kr 0), some (ki x1), some (ki r_3)]) C (kdec dc_M_happens 45 rfl) rfl 87 rfl (by decide) rfl rfl ?_
      refine kw_aload_n C (kdec dc_M_happens 46 rfl) rfl 88 rfl rfl ?_
      refine kw_getR C (kdec dc_M_happens 47 rfl) 91 rfl fd_M_M_48_0 ?_
      refine kw_sipush (v := 234) C (kdec dc_M_happens 48 rfl) 94 rfl (by decide) ⟨by decide, by decide⟩ ?_
      refine kw_bipush (v := 6) C (kdec dc_M_happens 49 rfl) 96 rfl (by decide) ⟨by decide, by decide⟩ ?_
      refine kw_iload_n C (kdec dc_M_happens 50 rfl) rfl 97 rfl rfl ?_
      refine kw_imul C (kdec dc_M_happens 51 rfl) 98 rfl ?_
      refine kw_iadd C (kdec dc_M_happens 52 rfl) 99 rfl ?_
      refine kw_aload_n C (kdec dc_M_happens 53 rfl) rfl 100 rfl rfl ?_
      refine kw_getR C (kdec dc_M_happens 54 rfl) 103 rfl fd_M_M_48_0 ?_
      refine kw_sipush (v := 166) C (kdec dc_M_happens 55 rfl) 106 rfl (by decide) ⟨by decide, by decide⟩ ?_
      refine kw_iload_n C (kdec dc_M_happens 56 rfl) rfl 107 rfl rfl ?_
      refine kw_iadd C (kdec dc_M_happens 57 rfl) 108 rfl ?_
      obtain ⟨hc_5, h⟩ := kchk_h h
      refine kw_iald C (kdec dc_M_happens 58 rfl) 109 rfl rfl hc_5.1 hc_5.2 ?_
      refine kw_iadd C (kdec dc_M_happens 59 rfl) 110 rfl ?_
      refine kw_aload_n C (kdec dc_M_happens 60 rfl) rfl 111 rfl rfl ?_
      refine kw_bipush (v := 10) C (kdec dc_M_happens 61 rfl) 113 rfl (by decide) ⟨by decide, by decide⟩ ?_
      obtain ⟨⟨r_6, σ_7⟩, hg_10, h⟩ := kbind_h h
      dsimp only at h
      refine kw_callV (As := [ki 10]) C (kdec dc_M_happens 62 rfl) 116 rfl cv_M_441 rfl rfl (mt_mm_draw l0 hg_10) ⟨rfl, rfl⟩ ⟨Nat.le_of_ble_eq_true rfl, Nat.le_of_ble_eq_true rfl⟩ ⟨Nat.zero_le _, Nat.zero_le _⟩ rfl (Nat.le_of_ble_eq_true rfl) ?_
      change KW x 0 0 Q σ_7 116 [some (kr 0), some (ki x1), some (ki r_3)] [ki r_6, ki (w32 ((w32 (234 + (w32 (6 * r_3)))) + (σ_4 8 (w32 (166 + r_3)).toNat))), kr 8]
      obtain ⟨hc_8, h⟩ := kchk_h h
      obtain ⟨σ_9, eσ_9, h⟩ := klet_h h
      refine kw_iast C (kdec dc_M_happens 63 rfl) 117 rfl rfl hc_8.1 hc_8.2 ?_
      refine kw_sig eσ_9 ?_
      obtain rfl := Option.some.inj h
      exact kw_Q (hR _ rfl) (kw_return C (kdec dc_M_happens 64 rfl))
def mm_happens_j36 (σ : kM) (x1 : Int) : Option (kM) :=
  if x1 = 1 then
    if (σ 0 2) ≤ 0 then
      mm_happens_j66 σ x1
    else
      (mm_draw σ (σ 0 2)).bind fun (r_12, σ_13) =>
      kchk (0 ≤ (w32 (154 + r_12)) ∧ (w32 (154 + r_12)) < 290) <|
      klet (kst σ_13 8 (kup (σ_13 8) ((w32 (154 + r_12)).toNat) 0)) fun σ_15 =>
      mm_happens_j66 σ_15 x1
  else
    mm_happens_j66 σ x1
set_option maxHeartbeats 4000000 in
theorem bd_mm_happens_j36 {x : kX} {l0 : Launch} {Q : State → Prop} (C : kCx x prog_14_method_112_code "PoetFinesModel" none kcl yM 3 l0 R0_mm_happens) (σ : kM) (x1 : Int) {out : kM} (h : mm_happens_j36 σ x1 = some out) (hR : ∀ (τ : kM), out = τ → Q = kQ x none τ 0 0) : KW x 0 0 Q σ 36 [some (kr 0), some (ki x1), none] [] := by
  unfold mm_happens_j36 at h
  refine kw_iload_n C (kdec dc_M_happens 19 rfl) rfl 37 rfl rfl ?_
  refine kw_iconst C (kdec dc_M_happens 20 rfl) 38 rfl rfl ⟨by decide, by decide⟩ ?_
  refine kw_icmp_ne C (kdec dc_M_happens 21 rfl) 66 41 (by decide) rfl (fun hc38 => ?_) (fun hc38 => ?_)
  · rw [if_neg hc38] at h
    exact bd_mm_happens_j66 C σ x1 h hR
  · rw [if_pos hc38] at h
    refine kw_aload_n C (kdec dc_M_happens 22 rfl) rfl 42 rfl rfl ?_
    refine kw_getI C (kdec dc_M_happens 23 rfl) 45 rfl fd_M_M_270_0 ?_
    refine kw_if_le C (kdec dc_M_happens 24 rfl) 66 48 (by decide) rfl (fun hc45 => ?_) (fun hc45 => ?_)
    · rw [if_pos hc45] at h
      exact bd_mm_happens_j66 C σ x1 h hR
    · rw [if_neg hc45] at h
      refine kw_aload_n C (kdec dc_M_happens 25 rfl) rfl 49 rfl rfl ?_
      refine kw_getR C (kdec dc_M_happens 26 rfl) 52 rfl fd_M_M_48_0 ?_
      refine kw_sipush (v := 154) C (kdec dc_M_happens 27 rfl) 55 rfl (by decide) ⟨by decide, by decide⟩ ?_
      refine kw_aload_n C (kdec dc_M_happens 28 rfl) rfl 56 rfl rfl ?_
      refine kw_aload_n C (kdec dc_M_happens 29 rfl) rfl 57 rfl rfl ?_
      refine kw_getI C (kdec dc_M_happens 30 rfl) 60 rfl fd_M_M_270_0 ?_
      obtain ⟨⟨r_12, σ_13⟩, hg_16, h⟩ := kbind_h h
      dsimp only at h
      refine kw_callV (As := [ki (σ 0 2)]) C (kdec dc_M_happens 31 rfl) 63 rfl cv_M_441 rfl rfl (mt_mm_draw l0 hg_16) ⟨rfl, rfl⟩ ⟨Nat.le_of_ble_eq_true rfl, Nat.le_of_ble_eq_true rfl⟩ ⟨Nat.zero_le _, Nat.zero_le _⟩ rfl (Nat.le_of_ble_eq_true rfl) ?_
      change KW x 0 0 Q σ_13 63 [some (kr 0), some (ki x1), none] [ki r_12, ki 154, kr 8]
      refine kw_iadd C (kdec dc_M_happens 32 rfl) 64 rfl ?_
      refine kw_iconst C (kdec dc_M_happens 33 rfl) 65 rfl rfl ⟨by decide, by decide⟩ ?_
      obtain ⟨hc_14, h⟩ := kchk_h h
      obtain ⟨σ_15, eσ_15, h⟩ := klet_h h
      refine kw_iast C (kdec dc_M_happens 34 rfl) 66 rfl rfl hc_14.1 hc_14.2 ?_
      refine kw_sig eσ_15 ?_
      exact bd_mm_happens_j66 C σ_15 x1 h hR
def mm_happens (σ : kM) : Option (kM) :=
  (mm_draw σ 6).bind fun (r_1, σ_2) =>
  if r_1 = 0 then
    if (σ_2 0 3) ≤ 0 then
      mm_happens_j36 σ_2 r_1
    else
      (mm_draw σ_2 (σ_2 0 3)).bind fun (r_17, σ_18) =>
      kchk (0 ≤ (w32 (170 + r_17)) ∧ (w32 (170 + r_17)) < 290) <|
      klet (kst σ_18 8 (kup (σ_18 8) ((w32 (170 + r_17)).toNat) 0)) fun σ_20 =>
      mm_happens_j36 σ_20 r_1
  else
    mm_happens_j36 σ_2 r_1
set_option maxHeartbeats 4000000 in
theorem bd_mm_happens {x : kX} {l0 : Launch} {Q : State → Prop} (C : kCx x prog_14_method_112_code "PoetFinesModel" none kcl yM 3 l0 R0_mm_happens) (σ : kM) {out : kM} (h : mm_happens σ = some out) (hR : ∀ (τ : kM), out = τ → Q = kQ x none τ 0 0) : KW x 0 0 Q σ 0 [some (kr 0), none, none] [] := by
  unfold mm_happens at h
  refine kw_aload_n C (kdec dc_M_happens 0 rfl) rfl 1 rfl rfl ?_
  refine kw_bipush (v := 6) C (kdec dc_M_happens 1 rfl) 3 rfl (by decide) ⟨by decide, by decide⟩ ?_
  obtain ⟨⟨r_1, σ_2⟩, hg_22, h⟩ := kbind_h h
  dsimp only at h
  refine kw_callV (As := [ki 6]) C (kdec dc_M_happens 2 rfl) 6 rfl cv_M_441 rfl rfl (mt_mm_draw l0 hg_22) ⟨rfl, rfl⟩ ⟨Nat.le_of_ble_eq_true rfl, Nat.le_of_ble_eq_true rfl⟩ ⟨Nat.zero_le _, Nat.zero_le _⟩ rfl (Nat.le_of_ble_eq_true rfl) ?_
  change KW x 0 0 Q σ_2 6 [some (kr 0), none, none] [ki r_1]
  refine kw_istore_n (L' := [some (kr 0), some (ki r_1), none]) C (kdec dc_M_happens 3 rfl) rfl 7 rfl (by decide) rfl rfl ?_
  refine kw_iload_n C (kdec dc_M_happens 4 rfl) rfl 8 rfl rfl ?_
  refine kw_if_ne C (kdec dc_M_happens 5 rfl) 36 11 (by decide) rfl (fun hc8 => ?_) (fun hc8 => ?_)
  · rw [if_neg hc8] at h
    exact bd_mm_happens_j36 C σ_2 r_1 h hR
  · rw [if_pos hc8] at h
    refine kw_aload_n C (kdec dc_M_happens 6 rfl) rfl 12 rfl rfl ?_
    refine kw_getI C (kdec dc_M_happens 7 rfl) 15 rfl fd_M_M_273_0 ?_
    refine kw_if_le C (kdec dc_M_happens 8 rfl) 36 18 (by decide) rfl (fun hc15 => ?_) (fun hc15 => ?_)
    · rw [if_pos hc15] at h
      exact bd_mm_happens_j36 C σ_2 r_1 h hR
    · rw [if_neg hc15] at h
      refine kw_aload_n C (kdec dc_M_happens 9 rfl) rfl 19 rfl rfl ?_
      refine kw_getR C (kdec dc_M_happens 10 rfl) 22 rfl fd_M_M_48_0 ?_
      refine kw_sipush (v := 170) C (kdec dc_M_happens 11 rfl) 25 rfl (by decide) ⟨by decide, by decide⟩ ?_
      refine kw_aload_n C (kdec dc_M_happens 12 rfl) rfl 26 rfl rfl ?_
      refine kw_aload_n C (kdec dc_M_happens 13 rfl) rfl 27 rfl rfl ?_
      refine kw_getI C (kdec dc_M_happens 14 rfl) 30 rfl fd_M_M_273_0 ?_
      obtain ⟨⟨r_17, σ_18⟩, hg_21, h⟩ := kbind_h h
      dsimp only at h
      refine kw_callV (As := [ki (σ_2 0 3)]) C (kdec dc_M_happens 15 rfl) 33 rfl cv_M_441 rfl rfl (mt_mm_draw l0 hg_21) ⟨rfl, rfl⟩ ⟨Nat.le_of_ble_eq_true rfl, Nat.le_of_ble_eq_true rfl⟩ ⟨Nat.zero_le _, Nat.zero_le _⟩ rfl (Nat.le_of_ble_eq_true rfl) ?_
      change KW x 0 0 Q σ_18 33 [some (kr 0), some (ki r_1), none] [ki r_17, ki 170, kr 8]
      refine kw_iadd C (kdec dc_M_happens 16 rfl) 34 rfl ?_
      refine kw_iconst C (kdec dc_M_happens 17 rfl) 35 rfl rfl ⟨by decide, by decide⟩ ?_
      obtain ⟨hc_19, h⟩ := kchk_h h
      obtain ⟨σ_20, eσ_20, h⟩ := klet_h h
      refine kw_iast C (kdec dc_M_happens 18 rfl) 36 rfl rfl hc_19.1 hc_19.2 ?_
      refine kw_sig eσ_20 ?_
      exact bd_mm_happens_j36 C σ_20 r_1 h hR
theorem mt_mm_happens (l0 : Launch) {σ : kM} {τ : kM} (h : mm_happens σ = some τ) : kMet l0 ky_M_happens prog_14_method_112_code 3 none R0_mm_happens kcl yM σ [kr 0] none τ := kMet.of' [some (kr 0), none, none] (by decide) (Nat.le_of_ble_eq_true rfl) ⟨rfl, trivial⟩ (fun x C => bd_mm_happens C σ h (fun τ e => by subst e; rfl))
def R0_mm_decades : Room := ({ frames := 6, cells := 0, slots := 0, locals := 146 } : Room)
def mm_decades_l41 (σ : kM) (x2 : Int) (x3 : Int) (x4 : Int) (x5 : Int) : Option ((kM × Int × Int) ⊕ ((kM × Int))) :=
  if x2 ≤ x5 then
    some (Sum.inr (σ, x4))
  else
    (mm_happens σ).bind fun σ_8 =>
    (mm_yearGoes σ_8 145).bind fun σ_9 =>
    klet (w32 (x4 + (σ_9 0 50))) fun x4_10 =>
    klet (w32 (x5 + 1)) fun x5_11 =>
    some (Sum.inl (σ_9, x4_10, x5_11))
set_option maxHeartbeats 4000000 in
theorem bd_mm_decades_l41 {x : kX} {l0 : Launch} {Q : State → Prop} (C : kCx x prog_14_method_113_code "PoetFinesModel" (some .int) kcl yM 6 l0 R0_mm_decades) (σ : kM) (x2 : Int) (x3 : Int) (x4 : Int) (x5 : Int) {out : (kM × Int × Int) ⊕ ((kM × Int))} (h : mm_decades_l41 σ x2 x3 x4 x5 = some out) (hC : ∀ (σ' : kM) (x4' : Int) (x5' : Int), out = Sum.inl (σ', x4', x5') → KW x 0 0 Q σ' 41 [some (kr 0), none, some (ki x2), some (ki x3), some (ki x4'), some (ki x5')] []) (hX73 : ∀ (σ' : kM) (x4' : Int), out = Sum.inr (σ', x4') → KW x 0 0 Q σ' 73 [some (kr 0), none, none, some (ki x3), some (ki x4'), none] []) : KW x 0 0 Q σ 41 [some (kr 0), none, some (ki x2), some (ki x3), some (ki x4), some (ki x5)] [] := by
  unfold mm_decades_l41 at h
  refine kw_iload C (kdec dc_M_decades 25 rfl) 43 rfl rfl ?_
  refine kw_iload_n C (kdec dc_M_decades 26 rfl) rfl 44 rfl rfl ?_
  refine kw_icmp_ge C (kdec dc_M_decades 27 rfl) 73 47 (by decide) rfl (fun hc44 => ?_) (fun hc44 => ?_)
  · rw [if_pos hc44] at h
    obtain rfl := Option.some.inj h
    exact kw_sub (L' := [some (kr 0), none, none, some (ki x3), some (ki x4), none]) ⟨rfl, rfl, rfl, trivial⟩ (hX73 _ _ rfl)
  · rw [if_neg hc44] at h
    refine kw_aload_n C (kdec dc_M_decades 28 rfl) rfl 48 rfl rfl ?_
    obtain ⟨σ_8, hg_13, h⟩ := kbind_h h
    refine kw_callV (As := []) C (kdec dc_M_decades 29 rfl) 51 rfl cv_M_444 rfl rfl (mt_mm_happens l0 hg_13) ⟨rfl, rfl⟩ ⟨Nat.le_of_ble_eq_true rfl, Nat.le_of_ble_eq_true rfl⟩ ⟨Nat.zero_le _, Nat.zero_le _⟩ rfl (Nat.le_of_ble_eq_true rfl) ?_
    change KW x 0 0 Q σ_8 51 [some (kr 0), none, some (ki x2), some (ki x3), some (ki x4), some (ki x5)] []
    refine kw_aload_n C (kdec dc_M_decades 30 rfl) rfl 52 rfl rfl ?_
    refine kw_sipush (v := 145) C (kdec dc_M_decades 31 rfl) 55 rfl (by decide) ⟨by decide, by decide⟩ ?_
    obtain ⟨σ_9, hg_12, h⟩ := kbind_h h
    refine kw_callV (As := [ki 145]) C (kdec dc_M_decades 32 rfl) 58 rfl cv_M_352 rfl rfl (mt_mm_yearGoes l0 hg_12) ⟨rfl, rfl⟩ ⟨Nat.le_of_ble_eq_true rfl, Nat.le_of_ble_eq_true rfl⟩ ⟨Nat.zero_le _, Nat.zero_le _⟩ rfl (Nat.le_of_ble_eq_true rfl) ?_
    change KW x 0 0 Q σ_9 58 [some (kr 0), none, some (ki x2), some (ki x3), some (ki x4), some (ki x5)] []
    refine kw_iload C (kdec dc_M_decades 33 rfl) 60 rfl rfl ?_
    refine kw_aload_n C (kdec dc_M_decades 34 rfl) rfl 61 rfl rfl ?_
    refine kw_getI C (kdec dc_M_decades 35 rfl) 64 rfl fd_M_M_340_0 ?_
    refine kw_iadd C (kdec dc_M_decades 36 rfl) 65 rfl ?_
    obtain ⟨x4_10, ex4_10, h⟩ := klet_h h
    refine kw_top ex4_10 ?_
    refine kw_istore (L' := [some (kr 0), none, some (ki x2), some (ki x3), some (ki x4_10), some (ki x5)]) C (kdec dc_M_decades 37 rfl) 67 rfl (by decide) rfl rfl ?_
    obtain ⟨x5_11, ex5_11, h⟩ := klet_h h
    refine kw_iinc (L' := [some (kr 0), none, some (ki x2), some (ki x3), some (ki x4_10), some (ki x5_11)]) C (kdec dc_M_decades 38 rfl) 70 rfl rfl (by decide) rfl (by rw [ex5_11]; rfl) ?_
    refine kw_goto C (kdec dc_M_decades 39 rfl) 41 (by decide) ?_
    obtain rfl := Option.some.inj h
    exact (hC _ _ _ rfl)
theorem lp_mm_decades_l41 {x : kX} {l0 : Launch} {Q : State → Prop} (C : kCx x prog_14_method_113_code "PoetFinesModel" (some .int) kcl yM 6 l0 R0_mm_decades) (x2 : Int) (x3 : Int) {ex : (kM × Int)} (hX73 : ∀ (σ' : kM) (x4' : Int), ex = (σ', x4') → KW x 0 0 Q σ' 73 [some (kr 0), none, none, some (ki x3), some (ki x4'), none] []) (n : Nat) (σ : kM) (x4 : Int) (x5 : Int) (h : kloop (fun st => mm_decades_l41 st.1 x2 x3 st.2.1 st.2.2) n (σ, x4, x5) = some ex) : KW x 0 0 Q σ 41 [some (kr 0), none, some (ki x2), some (ki x3), some (ki x4), some (ki x5)] [] :=
  kloop_ind (P := (fun st : kM × Int × Int => KW x 0 0 Q st.1 41 [some (kr 0), none, some (ki x2), some (ki x3), some (ki (st.2.1)), some (ki (st.2.2))] [])) (fun st out hb hc hx => bd_mm_decades_l41 C st.1 x2 x3 st.2.1 st.2.2 hb (fun a0 a1 a2 e => hc _ e) (fun a0 a1 e => hX73 _ _ ((hx _ e).symm))) n (σ, x4, x5) h
def mm_decades (σ : kM) (x1 : Int) (x2 : Int) (x3 : Int) : Option (Int × kM) :=
  klet (kst σ 0 (kup (σ 0) 0 0)) fun σ_1 =>
  (mm_isWhat σ_1 x3 2).bind fun (r_2, σ_3) =>
  if r_2 = 0 then
    some ((0, σ_3))
  else
    (mm_isSoon σ_3 x2 0 2).bind fun (r_4, σ_5) =>
    if r_4 = 0 then
      some ((0, σ_5))
    else
      (mm_tries σ_5).bind fun σ_6 =>
      klet (kst σ_6 0 (kup (σ_6 0) 57 x1)) fun σ_7 =>
      (kloop (fun st => mm_decades_l41 st.1 x2 x3 st.2.1 st.2.2) kFuel (σ_7, 0, 0)).bind fun (σ_16, x4_17) =>
      if x3 = 0 then
        some ((x4_17, σ_16))
      else
        if x3 = 1 then
          (mm_sumOf σ_16 145 9 (σ_16 0 2)).bind fun r_20 =>
          some ((r_20, σ_16))
        else
          (mm_sumOf σ_16 145 1 (σ_16 0 2)).bind fun r_18 =>
          some ((r_18, σ_16))
set_option maxHeartbeats 4000000 in
theorem bd_mm_decades {x : kX} {l0 : Launch} {Q : State → Prop} (C : kCx x prog_14_method_113_code "PoetFinesModel" (some .int) kcl yM 6 l0 R0_mm_decades) (σ : kM) (x1 : Int) (x2 : Int) (x3 : Int) {out : Int × kM} (h : mm_decades σ x1 x2 x3 = some out) (hR : ∀ (r : Int) (τ : kM), out = (r, τ) → Q = kQ x (some (ki r)) τ 0 0) : KW x 0 0 Q σ 0 [some (kr 0), some (ki x1), some (ki x2), some (ki x3), none, none] [] := by
  unfold mm_decades at h
  refine kw_aload_n C (kdec dc_M_decades 0 rfl) rfl 1 rfl rfl ?_
  refine kw_iconst C (kdec dc_M_decades 1 rfl) 2 rfl rfl ⟨by decide, by decide⟩ ?_
  obtain ⟨σ_1, eσ_1, h⟩ := klet_h h
  refine kw_putI C (kdec dc_M_decades 2 rfl) 5 rfl fp_M_M_99_0 ?_
  refine kw_sig eσ_1 ?_
  refine kw_aload_n C (kdec dc_M_decades 3 rfl) rfl 6 rfl rfl ?_
  refine kw_iload_n C (kdec dc_M_decades 4 rfl) rfl 7 rfl rfl ?_
  refine kw_iconst C (kdec dc_M_decades 5 rfl) 8 rfl rfl ⟨by decide, by decide⟩ ?_
  obtain ⟨⟨r_2, σ_3⟩, hg_24, h⟩ := kbind_h h
  dsimp only at h
  refine kw_callV (As := [ki x3, ki 2]) C (kdec dc_M_decades 6 rfl) 11 rfl cv_M_376 rfl rfl (mt_mm_isWhat l0 hg_24) ⟨rfl, rfl⟩ ⟨Nat.le_of_ble_eq_true rfl, Nat.le_of_ble_eq_true rfl⟩ ⟨Nat.zero_le _, Nat.zero_le _⟩ rfl (Nat.le_of_ble_eq_true rfl) ?_
  change KW x 0 0 Q σ_3 11 [some (kr 0), some (ki x1), some (ki x2), some (ki x3), none, none] [ki r_2]
  refine kw_if_eq C (kdec dc_M_decades 7 rfl) 24 14 (by decide) rfl (fun hc11 => ?_) (fun hc11 => ?_)
  · rw [if_pos hc11] at h
    refine kw_iconst C (kdec dc_M_decades 14 rfl) 25 rfl rfl ⟨by decide, by decide⟩ ?_
    obtain rfl := Option.some.inj h
    exact kw_Q (hR _ _ rfl) (kw_ireturn C (kdec dc_M_decades 15 rfl))
  · rw [if_neg hc11] at h
    refine kw_aload_n C (kdec dc_M_decades 8 rfl) rfl 15 rfl rfl ?_
    refine kw_iload_n C (kdec dc_M_decades 9 rfl) rfl 16 rfl rfl ?_
    refine kw_iconst C (kdec dc_M_decades 10 rfl) 17 rfl rfl ⟨by decide, by decide⟩ ?_
    refine kw_iconst C (kdec dc_M_decades 11 rfl) 18 rfl rfl ⟨by decide, by decide⟩ ?_
    obtain ⟨⟨r_4, σ_5⟩, hg_23, h⟩ := kbind_h h
    dsimp only at h
    refine kw_callV (As := [ki x2, ki 0, ki 2]) C (kdec dc_M_decades 12 rfl) 21 rfl cv_M_407 rfl rfl (mt_mm_isSoon l0 hg_23) ⟨rfl, rfl⟩ ⟨Nat.le_of_ble_eq_true rfl, Nat.le_of_ble_eq_true rfl⟩ ⟨Nat.zero_le _, Nat.zero_le _⟩ rfl (Nat.le_of_ble_eq_true rfl) ?_
    change KW x 0 0 Q σ_5 21 [some (kr 0), some (ki x1), some (ki x2), some (ki x3), none, none] [ki r_4]
    refine kw_if_ne C (kdec dc_M_decades 13 rfl) 26 24 (by decide) rfl (fun hc21 => ?_) (fun hc21 => ?_)
    · rw [if_neg hc21] at h
      refine kw_aload_n C (kdec dc_M_decades 16 rfl) rfl 27 rfl rfl ?_
      obtain ⟨σ_6, hg_22, h⟩ := kbind_h h
      refine kw_callV (As := []) C (kdec dc_M_decades 17 rfl) 30 rfl cv_M_349 rfl rfl (mt_mm_tries l0 hg_22) ⟨rfl, rfl⟩ ⟨Nat.le_of_ble_eq_true rfl, Nat.le_of_ble_eq_true rfl⟩ ⟨Nat.zero_le _, Nat.zero_le _⟩ rfl (Nat.le_of_ble_eq_true rfl) ?_
      change KW x 0 0 Q σ_6 30 [some (kr 0), some (ki x1), some (ki x2), some (ki x3), none, none] []
      refine kw_aload_n C (kdec dc_M_decades 18 rfl) rfl 31 rfl rfl ?_
      refine kw_iload_n C (kdec dc_M_decades 19 rfl) rfl 32 rfl rfl ?_
      obtain ⟨σ_7, eσ_7, h⟩ := klet_h h
      refine kw_putI C (kdec dc_M_decades 20 rfl) 35 rfl fp_M_M_437_0 ?_
      refine kw_sig eσ_7 ?_
      refine kw_iconst C (kdec dc_M_decades 21 rfl) 36 rfl rfl ⟨by decide, by decide⟩ ?_
      refine kw_istore (L' := [some (kr 0), some (ki x1), some (ki x2), some (ki x3), some (ki 0), none]) C (kdec dc_M_decades 22 rfl) 38 rfl (by decide) rfl rfl ?_
      refine kw_iconst C (kdec dc_M_decades 23 rfl) 39 rfl rfl ⟨by decide, by decide⟩ ?_
      refine kw_istore (L' := [some (kr 0), some (ki x1), some (ki x2), some (ki x3), some (ki 0), some (ki 0)]) C (kdec dc_M_decades 24 rfl) 41 rfl (by decide) rfl rfl ?_
      obtain ⟨ex_14, hl_15, h⟩ := kbind_h h
      refine kw_sub (L' := [some (kr 0), none, some (ki x2), some (ki x3), some (ki 0), some (ki 0)]) ⟨rfl, rfl, rfl, rfl, rfl, trivial⟩ (lp_mm_decades_l41 C x2 x3 ?_ kFuel σ_7 0 0 hl_15)
      · intro σ_16 x4_17 e
        subst ex_14
        try dsimp only at h
        refine kw_iload_n C (kdec dc_M_decades 40 rfl) rfl 74 rfl rfl ?_
        refine kw_if_ne C (kdec dc_M_decades 41 rfl) 82 77 (by decide) rfl (fun hc74 => ?_) (fun hc74 => ?_)
        · rw [if_neg hc74] at h
          refine kw_iload_n C (kdec dc_M_decades 44 rfl) rfl 83 rfl rfl ?_
          refine kw_iconst C (kdec dc_M_decades 45 rfl) 84 rfl rfl ⟨by decide, by decide⟩ ?_
          refine kw_icmp_ne C (kdec dc_M_decades 46 rfl) 103 87 (by decide) rfl (fun hc84 => ?_) (fun hc84 => ?_)
          · rw [if_neg hc84] at h
            refine kw_aload_n C (kdec dc_M_decades 54 rfl) rfl 104 rfl rfl ?_
            refine kw_sipush (v := 145) C (kdec dc_M_decades 55 rfl) 107 rfl (by decide) ⟨by decide, by decide⟩ ?_
            refine kw_iconst C (kdec dc_M_decades 56 rfl) 108 rfl rfl ⟨by decide, by decide⟩ ?_
            refine kw_aload_n C (kdec dc_M_decades 57 rfl) rfl 109 rfl rfl ?_
            refine kw_getI C (kdec dc_M_decades 58 rfl) 112 rfl fd_M_M_270_0 ?_
            obtain ⟨r_18, hg_19, h⟩ := kbind_h h
            refine kw_callV (As := [ki 145, ki 1, ki (σ_16 0 2)]) C (kdec dc_M_decades 59 rfl) 115 rfl cv_M_358 rfl rfl (mt_mm_sumOf l0 hg_19) ⟨rfl, rfl⟩ ⟨Nat.le_of_ble_eq_true rfl, Nat.le_of_ble_eq_true rfl⟩ ⟨Nat.zero_le _, Nat.zero_le _⟩ rfl (Nat.le_of_ble_eq_true rfl) ?_
            change KW x 0 0 Q σ_16 115 [some (kr 0), none, none, some (ki x3), some (ki x4_17), none] [ki r_18]
            obtain rfl := Option.some.inj h
            exact kw_Q (hR _ _ rfl) (kw_ireturn C (kdec dc_M_decades 60 rfl))
          · rw [if_pos hc84] at h
            refine kw_aload_n C (kdec dc_M_decades 47 rfl) rfl 88 rfl rfl ?_
            refine kw_sipush (v := 145) C (kdec dc_M_decades 48 rfl) 91 rfl (by decide) ⟨by decide, by decide⟩ ?_
            refine kw_bipush (v := 9) C (kdec dc_M_decades 49 rfl) 93 rfl (by decide) ⟨by decide, by decide⟩ ?_
            refine kw_aload_n C (kdec dc_M_decades 50 rfl) rfl 94 rfl rfl ?_
            refine kw_getI C (kdec dc_M_decades 51 rfl) 97 rfl fd_M_M_270_0 ?_
            obtain ⟨r_20, hg_21, h⟩ := kbind_h h
            refine kw_callV (As := [ki 145, ki 9, ki (σ_16 0 2)]) C (kdec dc_M_decades 52 rfl) 100 rfl cv_M_358 rfl rfl (mt_mm_sumOf l0 hg_21) ⟨rfl, rfl⟩ ⟨Nat.le_of_ble_eq_true rfl, Nat.le_of_ble_eq_true rfl⟩ ⟨Nat.zero_le _, Nat.zero_le _⟩ rfl (Nat.le_of_ble_eq_true rfl) ?_
            change KW x 0 0 Q σ_16 100 [some (kr 0), none, none, some (ki x3), some (ki x4_17), none] [ki r_20]
            refine kw_goto C (kdec dc_M_decades 53 rfl) 115 (by decide) ?_
            obtain rfl := Option.some.inj h
            exact kw_Q (hR _ _ rfl) (kw_ireturn C (kdec dc_M_decades 60 rfl))
        · rw [if_pos hc74] at h
          refine kw_iload C (kdec dc_M_decades 42 rfl) 79 rfl rfl ?_
          refine kw_goto C (kdec dc_M_decades 43 rfl) 115 (by decide) ?_
          obtain rfl := Option.some.inj h
          exact kw_Q (hR _ _ rfl) (kw_ireturn C (kdec dc_M_decades 60 rfl))
    · rw [if_pos hc21] at h
      refine kw_iconst C (kdec dc_M_decades 14 rfl) 25 rfl rfl ⟨by decide, by decide⟩ ?_
      obtain rfl := Option.some.inj h
      exact kw_Q (hR _ _ rfl) (kw_ireturn C (kdec dc_M_decades 15 rfl))
theorem mt_mm_decades (l0 : Launch) {σ : kM} {x1 : Int} {x2 : Int} {x3 : Int} {r : Int} {τ : kM} (h : mm_decades σ x1 x2 x3 = some (r, τ)) : kMet l0 ky_M_decades prog_14_method_113_code 6 (some .int) R0_mm_decades kcl yM σ [kr 0, ki x1, ki x2, ki x3] (some (ki r)) τ := kMet.of' [some (kr 0), some (ki x1), some (ki x2), some (ki x3), none, none] (by decide) (Nat.le_of_ble_eq_true rfl) ⟨rfl, rfl, rfl, rfl, trivial⟩ (fun x C => bd_mm_decades C σ x1 x2 x3 h (fun r τ e => by cases e; rfl))
def R0_mm_copies_0_9_23 : Room := ({ frames := 0, cells := 0, slots := 0, locals := 0 } : Room)
def mm_copies_0_9_23_l2 (σ : kM) (x3 : Int) : Option ((kM × Int) ⊕ ((kM))) :=
  if 5800 ≤ x3 then
    some (Sum.inr σ)
  else
    kchk (0 ≤ x3 ∧ x3 < 5800) <|
    kchk (0 ≤ x3 ∧ x3 < 5800) <|
    klet (kst σ 23 (kup (σ 23) x3.toNat (σ 9 x3.toNat))) fun σ_3 =>
    klet (w32 (x3 + 1)) fun x3_4 =>
    some (Sum.inl (σ_3, x3_4))
set_option maxHeartbeats 4000000 in
theorem bd_mm_copies_0_9_23_l2 {x : kX} {l0 : Launch} {Q : State → Prop} (C : kCx x prog_14_method_7_code "PoetFinesModel" none kcl yM 4 l0 R0_mm_copies_0_9_23) (σ : kM) (x3 : Int) {out : (kM × Int) ⊕ ((kM))} (h : mm_copies_0_9_23_l2 σ x3 = some out) (hC : ∀ (σ' : kM) (x3' : Int), out = Sum.inl (σ', x3') → KW x 0 0 Q σ' 2 [none, some (kr 9), some (kr 23), some (ki x3')] []) (hX20 : ∀ (σ' : kM), out = Sum.inr σ' → KW x 0 0 Q σ' 20 [none, none, none, none] []) : KW x 0 0 Q σ 2 [none, some (kr 9), some (kr 23), some (ki x3)] [] := by
  unfold mm_copies_0_9_23_l2 at h
  refine kw_iload_n C (kdec dc_M_copies 2 rfl) rfl 3 rfl rfl ?_
  refine kw_aload_n C (kdec dc_M_copies 3 rfl) rfl 4 rfl rfl ?_
  refine kw_alen (v := 5800) C (kdec dc_M_copies 4 rfl) 5 rfl rfl (by decide) rfl ⟨by decide, by decide⟩ ?_
  refine kw_icmp_ge C (kdec dc_M_copies 5 rfl) 20 8 (by decide) rfl (fun hc5 => ?_) (fun hc5 => ?_)
  · rw [if_pos hc5] at h
    obtain rfl := Option.some.inj h
    exact kw_sub (L' := [none, none, none, none]) trivial (hX20 _ rfl)
  · rw [if_neg hc5] at h
    refine kw_aload_n C (kdec dc_M_copies 6 rfl) rfl 9 rfl rfl ?_
    refine kw_iload_n C (kdec dc_M_copies 7 rfl) rfl 10 rfl rfl ?_
    refine kw_aload_n C (kdec dc_M_copies 8 rfl) rfl 11 rfl rfl ?_
    refine kw_iload_n C (kdec dc_M_copies 9 rfl) rfl 12 rfl rfl ?_
    obtain ⟨hc_1, h⟩ := kchk_h h
    refine kw_iald C (kdec dc_M_copies 10 rfl) 13 rfl rfl hc_1.1 hc_1.2 ?_
    obtain ⟨hc_2, h⟩ := kchk_h h
    obtain ⟨σ_3, eσ_3, h⟩ := klet_h h
    refine kw_iast C (kdec dc_M_copies 11 rfl) 14 rfl rfl hc_2.1 hc_2.2 ?_
    refine kw_sig eσ_3 ?_
    obtain ⟨x3_4, ex3_4, h⟩ := klet_h h
    refine kw_iinc (L' := [none, some (kr 9), some (kr 23), some (ki x3_4)]) C (kdec dc_M_copies 12 rfl) 17 rfl rfl (by decide) rfl (by rw [ex3_4]; rfl) ?_
    refine kw_goto C (kdec dc_M_copies 13 rfl) 2 (by decide) ?_
    obtain rfl := Option.some.inj h
    exact (hC _ _ rfl)
theorem lp_mm_copies_0_9_23_l2 {x : kX} {l0 : Launch} {Q : State → Prop} (C : kCx x prog_14_method_7_code "PoetFinesModel" none kcl yM 4 l0 R0_mm_copies_0_9_23) {ex : (kM)} (hX20 : ∀ (σ' : kM), ex = σ' → KW x 0 0 Q σ' 20 [none, none, none, none] []) (n : Nat) (σ : kM) (x3 : Int) (h : kloop (fun st => mm_copies_0_9_23_l2 st.1 st.2) n (σ, x3) = some ex) : KW x 0 0 Q σ 2 [none, some (kr 9), some (kr 23), some (ki x3)] [] :=
  kloop_ind (P := (fun st : kM × Int => KW x 0 0 Q st.1 2 [none, some (kr 9), some (kr 23), some (ki (st.2))] [])) (fun st out hb hc hx => bd_mm_copies_0_9_23_l2 C st.1 st.2 hb (fun a0 a1 e => hc _ e) (fun a0 e => hX20 _ ((hx _ e).symm))) n (σ, x3) h
def mm_copies_0_9_23 (σ : kM) : Option (kM) :=
  (kloop (fun st => mm_copies_0_9_23_l2 st.1 st.2) kFuel (σ, 0)).bind fun σ_7 =>
  some σ_7
set_option maxHeartbeats 4000000 in
theorem bd_mm_copies_0_9_23 {x : kX} {l0 : Launch} {Q : State → Prop} (C : kCx x prog_14_method_7_code "PoetFinesModel" none kcl yM 4 l0 R0_mm_copies_0_9_23) (σ : kM) {out : kM} (h : mm_copies_0_9_23 σ = some out) (hR : ∀ (τ : kM), out = τ → Q = kQ x none τ 0 0) : KW x 0 0 Q σ 0 [some (kr 0), some (kr 9), some (kr 23), none] [] := by
  unfold mm_copies_0_9_23 at h
  refine kw_iconst C (kdec dc_M_copies 0 rfl) 1 rfl rfl ⟨by decide, by decide⟩ ?_
  refine kw_istore_n (L' := [some (kr 0), some (kr 9), some (kr 23), some (ki 0)]) C (kdec dc_M_copies 1 rfl) rfl 2 rfl (by decide) rfl rfl ?_
  obtain ⟨ex_5, hl_6, h⟩ := kbind_h h
  refine kw_sub (L' := [none, some (kr 9), some (kr 23), some (ki 0)]) ⟨rfl, rfl, rfl, trivial⟩ (lp_mm_copies_0_9_23_l2 C ?_ kFuel σ 0 hl_6)
  · intro σ_7 e
    subst ex_5
    try dsimp only at h
    obtain rfl := Option.some.inj h
    exact kw_Q (hR _ rfl) (kw_return C (kdec dc_M_copies 14 rfl))
theorem mt_mm_copies_0_9_23 (l0 : Launch) {σ : kM} {τ : kM} (h : mm_copies_0_9_23 σ = some τ) : kMet l0 ky_M_copies prog_14_method_7_code 4 none R0_mm_copies_0_9_23 kcl yM σ [kr 0, kr 9, kr 23] none τ := kMet.of' [some (kr 0), some (kr 9), some (kr 23), none] (by decide) (Nat.le_of_ble_eq_true rfl) ⟨rfl, rfl, rfl, trivial⟩ (fun x C => bd_mm_copies_0_9_23 C σ h (fun τ e => by subst e; rfl))
def R0_mm_copies_0_19_24 : Room := ({ frames := 0, cells := 0, slots := 0, locals := 0 } : Room)
def mm_copies_0_19_24_l2 (σ : kM) (x3 : Int) : Option ((kM × Int) ⊕ ((kM))) :=
  if 24 ≤ x3 then
    some (Sum.inr σ)
  else
    kchk (0 ≤ x3 ∧ x3 < 24) <|
    kchk (0 ≤ x3 ∧ x3 < 24) <|
    klet (kst σ 24 (kup (σ 24) x3.toNat (σ 19 x3.toNat))) fun σ_3 =>
    klet (w32 (x3 + 1)) fun x3_4 =>
    some (Sum.inl (σ_3, x3_4))
set_option maxHeartbeats 4000000 in
theorem bd_mm_copies_0_19_24_l2 {x : kX} {l0 : Launch} {Q : State → Prop} (C : kCx x prog_14_method_7_code "PoetFinesModel" none kcl yM 4 l0 R0_mm_copies_0_19_24) (σ : kM) (x3 : Int) {out : (kM × Int) ⊕ ((kM))} (h : mm_copies_0_19_24_l2 σ x3 = some out) (hC : ∀ (σ' : kM) (x3' : Int), out = Sum.inl (σ', x3') → KW x 0 0 Q σ' 2 [none, some (kr 19), some (kr 24), some (ki x3')] []) (hX20 : ∀ (σ' : kM), out = Sum.inr σ' → KW x 0 0 Q σ' 20 [none, none, none, none] []) : KW x 0 0 Q σ 2 [none, some (kr 19), some (kr 24), some (ki x3)] [] := by
  unfold mm_copies_0_19_24_l2 at h
  refine kw_iload_n C (kdec dc_M_copies 2 rfl) rfl 3 rfl rfl ?_
  refine kw_aload_n C (kdec dc_M_copies 3 rfl) rfl 4 rfl rfl ?_
  refine kw_alen (v := 24) C (kdec dc_M_copies 4 rfl) 5 rfl rfl (by decide) rfl ⟨by decide, by decide⟩ ?_
  refine kw_icmp_ge C (kdec dc_M_copies 5 rfl) 20 8 (by decide) rfl (fun hc5 => ?_) (fun hc5 => ?_)
  · rw [if_pos hc5] at h
    obtain rfl := Option.some.inj h
    exact kw_sub (L' := [none, none, none, none]) trivial (hX20 _ rfl)
  · rw [if_neg hc5] at h
    refine kw_aload_n C (kdec dc_M_copies 6 rfl) rfl 9 rfl rfl ?_
    refine kw_iload_n C (kdec dc_M_copies 7 rfl) rfl 10 rfl rfl ?_
    refine kw_aload_n C (kdec dc_M_copies 8 rfl) rfl 11 rfl rfl ?_
    refine kw_iload_n C (kdec dc_M_copies 9 rfl) rfl 12 rfl rfl ?_
    obtain ⟨hc_1, h⟩ := kchk_h h
    refine kw_iald C (kdec dc_M_copies 10 rfl) 13 rfl rfl hc_1.1 hc_1.2 ?_
    obtain ⟨hc_2, h⟩ := kchk_h h
    obtain ⟨σ_3, eσ_3, h⟩ := klet_h h
    refine kw_iast C (kdec dc_M_copies 11 rfl) 14 rfl rfl hc_2.1 hc_2.2 ?_
    refine kw_sig eσ_3 ?_
    obtain ⟨x3_4, ex3_4, h⟩ := klet_h h
    refine kw_iinc (L' := [none, some (kr 19), some (kr 24), some (ki x3_4)]) C (kdec dc_M_copies 12 rfl) 17 rfl rfl (by decide) rfl (by rw [ex3_4]; rfl) ?_
    refine kw_goto C (kdec dc_M_copies 13 rfl) 2 (by decide) ?_
    obtain rfl := Option.some.inj h
    exact (hC _ _ rfl)
theorem lp_mm_copies_0_19_24_l2 {x : kX} {l0 : Launch} {Q : State → Prop} (C : kCx x prog_14_method_7_code "PoetFinesModel" none kcl yM 4 l0 R0_mm_copies_0_19_24) {ex : (kM)} (hX20 : ∀ (σ' : kM), ex = σ' → KW x 0 0 Q σ' 20 [none, none, none, none] []) (n : Nat) (σ : kM) (x3 : Int) (h : kloop (fun st => mm_copies_0_19_24_l2 st.1 st.2) n (σ, x3) = some ex) : KW x 0 0 Q σ 2 [none, some (kr 19), some (kr 24), some (ki x3)] [] :=
  kloop_ind (P := (fun st : kM × Int => KW x 0 0 Q st.1 2 [none, some (kr 19), some (kr 24), some (ki (st.2))] [])) (fun st out hb hc hx => bd_mm_copies_0_19_24_l2 C st.1 st.2 hb (fun a0 a1 e => hc _ e) (fun a0 e => hX20 _ ((hx _ e).symm))) n (σ, x3) h
def mm_copies_0_19_24 (σ : kM) : Option (kM) :=
  (kloop (fun st => mm_copies_0_19_24_l2 st.1 st.2) kFuel (σ, 0)).bind fun σ_7 =>
  some σ_7
set_option maxHeartbeats 4000000 in
theorem bd_mm_copies_0_19_24 {x : kX} {l0 : Launch} {Q : State → Prop} (C : kCx x prog_14_method_7_code "PoetFinesModel" none kcl yM 4 l0 R0_mm_copies_0_19_24) (σ : kM) {out : kM} (h : mm_copies_0_19_24 σ = some out) (hR : ∀ (τ : kM), out = τ → Q = kQ x none τ 0 0) : KW x 0 0 Q σ 0 [some (kr 0), some (kr 19), some (kr 24), none] [] := by
  unfold mm_copies_0_19_24 at h
  refine kw_iconst C (kdec dc_M_copies 0 rfl) 1 rfl rfl ⟨by decide, by decide⟩ ?_
  refine kw_istore_n (L' := [some (kr 0), some (kr 19), some (kr 24), some (ki 0)]) C (kdec dc_M_copies 1 rfl) rfl 2 rfl (by decide) rfl rfl ?_
  obtain ⟨ex_5, hl_6, h⟩ := kbind_h h
  refine kw_sub (L' := [none, some (kr 19), some (kr 24), some (ki 0)]) ⟨rfl, rfl, rfl, trivial⟩ (lp_mm_copies_0_19_24_l2 C ?_ kFuel σ 0 hl_6)
  · intro σ_7 e
    subst ex_5
    try dsimp only at h
    obtain rfl := Option.some.inj h
    exact kw_Q (hR _ rfl) (kw_return C (kdec dc_M_copies 14 rfl))
theorem mt_mm_copies_0_19_24 (l0 : Launch) {σ : kM} {τ : kM} (h : mm_copies_0_19_24 σ = some τ) : kMet l0 ky_M_copies prog_14_method_7_code 4 none R0_mm_copies_0_19_24 kcl yM σ [kr 0, kr 19, kr 24] none τ := kMet.of' [some (kr 0), some (kr 19), some (kr 24), none] (by decide) (Nat.le_of_ble_eq_true rfl) ⟨rfl, rfl, rfl, trivial⟩ (fun x C => bd_mm_copies_0_19_24 C σ h (fun τ e => by subst e; rfl))
def R0_mm_image : Room := ({ frames := 1, cells := 0, slots := 0, locals := 23 } : Room)
def mm_image_l28 (σ : kM) (x1 : Int) : Option ((kM × Int) ⊕ ((kM))) :=
  if 145 ≤ x1 then
    some (Sum.inr σ)
  else
    kchk (0 ≤ x1 ∧ x1 < 290) <|
    kchk (0 ≤ x1 ∧ x1 < 145) <|
    klet (kst σ 22 (kup (σ 22) x1.toNat (σ 8 x1.toNat))) fun σ_7 =>
    klet (w32 (x1 + 1)) fun x1_8 =>
    some (Sum.inl (σ_7, x1_8))
set_option maxHeartbeats 4000000 in
theorem bd_mm_image_l28 {x : kX} {l0 : Launch} {Q : State → Prop} (C : kCx x prog_14_method_114_code "PoetFinesModel" none kcl yM 2 l0 R0_mm_image) (σ : kM) (x1 : Int) {out : (kM × Int) ⊕ ((kM))} (h : mm_image_l28 σ x1 = some out) (hC : ∀ (σ' : kM) (x1' : Int), out = Sum.inl (σ', x1') → KW x 0 0 Q σ' 28 [some (kr 0), some (ki x1')] []) (hX53 : ∀ (σ' : kM), out = Sum.inr σ' → KW x 0 0 Q σ' 53 [some (kr 0), none] []) : KW x 0 0 Q σ 28 [some (kr 0), some (ki x1)] [] := by
  unfold mm_image_l28 at h
  refine kw_iload_n C (kdec dc_M_image 16 rfl) rfl 29 rfl rfl ?_
  refine kw_sipush (v := 145) C (kdec dc_M_image 17 rfl) 32 rfl (by decide) ⟨by decide, by decide⟩ ?_
  refine kw_icmp_ge C (kdec dc_M_image 18 rfl) 53 35 (by decide) rfl (fun hc32 => ?_) (fun hc32 => ?_)
  · rw [if_pos hc32] at h
    obtain rfl := Option.some.inj h
    exact kw_sub (L' := [some (kr 0), none]) ⟨rfl, trivial⟩ (hX53 _ rfl)
  · rw [if_neg hc32] at h
    refine kw_aload_n C (kdec dc_M_image 19 rfl) rfl 36 rfl rfl ?_
    refine kw_getR C (kdec dc_M_image 20 rfl) 39 rfl fd_M_M_90_0 ?_
    refine kw_iload_n C (kdec dc_M_image 21 rfl) rfl 40 rfl rfl ?_
    refine kw_aload_n C (kdec dc_M_image 22 rfl) rfl 41 rfl rfl ?_
    refine kw_getR C (kdec dc_M_image 23 rfl) 44 rfl fd_M_M_48_0 ?_
    refine kw_iload_n C (kdec dc_M_image 24 rfl) rfl 45 rfl rfl ?_
    obtain ⟨hc_5, h⟩ := kchk_h h
    refine kw_iald C (kdec dc_M_image 25 rfl) 46 rfl rfl hc_5.1 hc_5.2 ?_
    obtain ⟨hc_6, h⟩ := kchk_h h
    obtain ⟨σ_7, eσ_7, h⟩ := klet_h h
    refine kw_iast C (kdec dc_M_image 26 rfl) 47 rfl rfl hc_6.1 hc_6.2 ?_
    refine kw_sig eσ_7 ?_
    obtain ⟨x1_8, ex1_8, h⟩ := klet_h h
    refine kw_iinc (L' := [some (kr 0), some (ki x1_8)]) C (kdec dc_M_image 27 rfl) 50 rfl rfl (by decide) rfl (by rw [ex1_8]; rfl) ?_
    refine kw_goto C (kdec dc_M_image 28 rfl) 28 (by decide) ?_
    obtain rfl := Option.some.inj h
    exact (hC _ _ rfl)
theorem lp_mm_image_l28 {x : kX} {l0 : Launch} {Q : State → Prop} (C : kCx x prog_14_method_114_code "PoetFinesModel" none kcl yM 2 l0 R0_mm_image) {ex : (kM)} (hX53 : ∀ (σ' : kM), ex = σ' → KW x 0 0 Q σ' 53 [some (kr 0), none] []) (n : Nat) (σ : kM) (x1 : Int) (h : kloop (fun st => mm_image_l28 st.1 st.2) n (σ, x1) = some ex) : KW x 0 0 Q σ 28 [some (kr 0), some (ki x1)] [] :=
  kloop_ind (P := (fun st : kM × Int => KW x 0 0 Q st.1 28 [some (kr 0), some (ki (st.2))] [])) (fun st out hb hc hx => bd_mm_image_l28 C st.1 st.2 hb (fun a0 a1 e => hc _ e) (fun a0 e => hX53 _ ((hx _ e).symm))) n (σ, x1) h
def mm_image (σ : kM) : Option (kM) :=
  klet (kst σ 0 (kup (σ 0) 0 0)) fun σ_1 =>
  klet (kst σ_1 0 (kup (σ_1 0) 58 1)) fun σ_2 =>
  klet (kst σ_2 0 (kup (σ_2 0) 59 (σ_2 0 38))) fun σ_3 =>
  klet (kst σ_3 0 (kup (σ_3 0) 60 (σ_3 0 53))) fun σ_4 =>
  (kloop (fun st => mm_image_l28 st.1 st.2) kFuel (σ_4, 0)).bind fun σ_11 =>
  (mm_copies_0_9_23 σ_11).bind fun σ_12 =>
  (mm_copies_0_19_24 σ_12).bind fun σ_13 =>
  some σ_13
set_option maxHeartbeats 4000000 in
theorem bd_mm_image {x : kX} {l0 : Launch} {Q : State → Prop} (C : kCx x prog_14_method_114_code "PoetFinesModel" none kcl yM 2 l0 R0_mm_image) (σ : kM) {out : kM} (h : mm_image σ = some out) (hR : ∀ (τ : kM), out = τ → Q = kQ x none τ 0 0) : KW x 0 0 Q σ 0 [some (kr 0), none] [] := by
  unfold mm_image at h
  refine kw_aload_n C (kdec dc_M_image 0 rfl) rfl 1 rfl rfl ?_
  refine kw_iconst C (kdec dc_M_image 1 rfl) 2 rfl rfl ⟨by decide, by decide⟩ ?_
  obtain ⟨σ_1, eσ_1, h⟩ := klet_h h
  refine kw_putI C (kdec dc_M_image 2 rfl) 5 rfl fp_M_M_99_0 ?_
  refine kw_sig eσ_1 ?_
  refine kw_aload_n C (kdec dc_M_image 3 rfl) rfl 6 rfl rfl ?_
  refine kw_iconst C (kdec dc_M_image 4 rfl) 7 rfl rfl ⟨by decide, by decide⟩ ?_
  obtain ⟨σ_2, eσ_2, h⟩ := klet_h h
  refine kw_putZ C (kdec dc_M_image 5 rfl) 10 rfl fp_M_M_286_0 (by decide) ?_
  refine kw_sig eσ_2 ?_
  refine kw_aload_n C (kdec dc_M_image 6 rfl) rfl 11 rfl rfl ?_
  refine kw_aload_n C (kdec dc_M_image 7 rfl) rfl 12 rfl rfl ?_
  refine kw_getI C (kdec dc_M_image 8 rfl) 15 rfl fd_M_M_280_0 ?_
  obtain ⟨σ_3, eσ_3, h⟩ := klet_h h
  refine kw_putI C (kdec dc_M_image 9 rfl) 18 rfl fp_M_M_447_0 ?_
  refine kw_sig eσ_3 ?_
  refine kw_aload_n C (kdec dc_M_image 10 rfl) rfl 19 rfl rfl ?_
  refine kw_aload_n C (kdec dc_M_image 11 rfl) rfl 20 rfl rfl ?_
  refine kw_getI C (kdec dc_M_image 12 rfl) 23 rfl fd_M_M_283_0 ?_
  obtain ⟨σ_4, eσ_4, h⟩ := klet_h h
  refine kw_putI C (kdec dc_M_image 13 rfl) 26 rfl fp_M_M_450_0 ?_
  refine kw_sig eσ_4 ?_
  refine kw_iconst C (kdec dc_M_image 14 rfl) 27 rfl rfl ⟨by decide, by decide⟩ ?_
  refine kw_istore_n (L' := [some (kr 0), some (ki 0)]) C (kdec dc_M_image 15 rfl) rfl 28 rfl (by decide) rfl rfl ?_
  obtain ⟨ex_9, hl_10, h⟩ := kbind_h h
  refine lp_mm_image_l28 C ?_ kFuel σ_4 0 hl_10
  · intro σ_11 e
    subst ex_9
    try dsimp only at h
    refine kw_aload_n C (kdec dc_M_image 29 rfl) rfl 54 rfl rfl ?_
    refine kw_aload_n C (kdec dc_M_image 30 rfl) rfl 55 rfl rfl ?_
    refine kw_getR C (kdec dc_M_image 31 rfl) 58 rfl fd_M_M_51_0 ?_
    refine kw_aload_n C (kdec dc_M_image 32 rfl) rfl 59 rfl rfl ?_
    refine kw_getR C (kdec dc_M_image 33 rfl) 62 rfl fd_M_M_93_0 ?_
    obtain ⟨σ_12, hg_15, h⟩ := kbind_h h
    refine kw_callV (As := [kr 9, kr 23]) C (kdec dc_M_image 34 rfl) 65 rfl cv_M_276 rfl rfl (mt_mm_copies_0_9_23 l0 hg_15) ⟨rfl, rfl⟩ ⟨Nat.le_of_ble_eq_true rfl, Nat.le_of_ble_eq_true rfl⟩ ⟨Nat.zero_le _, Nat.zero_le _⟩ rfl (Nat.le_of_ble_eq_true rfl) ?_
    change KW x 0 0 Q σ_12 65 [some (kr 0), none] []
    refine kw_aload_n C (kdec dc_M_image 35 rfl) rfl 66 rfl rfl ?_
    refine kw_aload_n C (kdec dc_M_image 36 rfl) rfl 67 rfl rfl ?_
    refine kw_getR C (kdec dc_M_image 37 rfl) 70 rfl fd_M_M_81_0 ?_
    refine kw_aload_n C (kdec dc_M_image 38 rfl) rfl 71 rfl rfl ?_
    refine kw_getR C (kdec dc_M_image 39 rfl) 74 rfl fd_M_M_96_0 ?_
    obtain ⟨σ_13, hg_14, h⟩ := kbind_h h
    refine kw_callV (As := [kr 19, kr 24]) C (kdec dc_M_image 40 rfl) 77 rfl cv_M_276 rfl rfl (mt_mm_copies_0_19_24 l0 hg_14) ⟨rfl, rfl⟩ ⟨Nat.le_of_ble_eq_true rfl, Nat.le_of_ble_eq_true rfl⟩ ⟨Nat.zero_le _, Nat.zero_le _⟩ rfl (Nat.le_of_ble_eq_true rfl) ?_
    change KW x 0 0 Q σ_13 77 [some (kr 0), none] []
    obtain rfl := Option.some.inj h
    exact kw_Q (hR _ rfl) (kw_return C (kdec dc_M_image 41 rfl))
theorem mt_mm_image (l0 : Launch) {σ : kM} {τ : kM} (h : mm_image σ = some τ) : kMet l0 ky_M_image prog_14_method_114_code 2 none R0_mm_image kcl yM σ [kr 0] none τ := kMet.of' [some (kr 0), none] (by decide) (Nat.le_of_ble_eq_true rfl) ⟨rfl, trivial⟩ (fun x C => bd_mm_image C σ h (fun τ e => by subst e; rfl))
def R0_mm_copies_0_23_9 : Room := ({ frames := 0, cells := 0, slots := 0, locals := 0 } : Room)
def mm_copies_0_23_9_l2 (σ : kM) (x3 : Int) : Option ((kM × Int) ⊕ ((kM))) :=
  if 5800 ≤ x3 then
    some (Sum.inr σ)
  else
    kchk (0 ≤ x3 ∧ x3 < 5800) <|
    kchk (0 ≤ x3 ∧ x3 < 5800) <|
    klet (kst σ 9 (kup (σ 9) x3.toNat (σ 23 x3.toNat))) fun σ_3 =>
    klet (w32 (x3 + 1)) fun x3_4 =>
    some (Sum.inl (σ_3, x3_4))
set_option maxHeartbeats 4000000 in
theorem bd_mm_copies_0_23_9_l2 {x : kX} {l0 : Launch} {Q : State → Prop} (C : kCx x prog_14_method_7_code "PoetFinesModel" none kcl yM 4 l0 R0_mm_copies_0_23_9) (σ : kM) (x3 : Int) {out : (kM × Int) ⊕ ((kM))} (h : mm_copies_0_23_9_l2 σ x3 = some out) (hC : ∀ (σ' : kM) (x3' : Int), out = Sum.inl (σ', x3') → KW x 0 0 Q σ' 2 [none, some (kr 23), some (kr 9), some (ki x3')] []) (hX20 : ∀ (σ' : kM), out = Sum.inr σ' → KW x 0 0 Q σ' 20 [none, none, none, none] []) : KW x 0 0 Q σ 2 [none, some (kr 23), some (kr 9), some (ki x3)] [] := by
  unfold mm_copies_0_23_9_l2 at h
  refine kw_iload_n C (kdec dc_M_copies 2 rfl) rfl 3 rfl rfl ?_
  refine kw_aload_n C (kdec dc_M_copies 3 rfl) rfl 4 rfl rfl ?_
  refine kw_alen (v := 5800) C (kdec dc_M_copies 4 rfl) 5 rfl rfl (by decide) rfl ⟨by decide, by decide⟩ ?_
  refine kw_icmp_ge C (kdec dc_M_copies 5 rfl) 20 8 (by decide) rfl (fun hc5 => ?_) (fun hc5 => ?_)
  · rw [if_pos hc5] at h
    obtain rfl := Option.some.inj h
    exact kw_sub (L' := [none, none, none, none]) trivial (hX20 _ rfl)
  · rw [if_neg hc5] at h
    refine kw_aload_n C (kdec dc_M_copies 6 rfl) rfl 9 rfl rfl ?_
    refine kw_iload_n C (kdec dc_M_copies 7 rfl) rfl 10 rfl rfl ?_
    refine kw_aload_n C (kdec dc_M_copies 8 rfl) rfl 11 rfl rfl ?_
    refine kw_iload_n C (kdec dc_M_copies 9 rfl) rfl 12 rfl rfl ?_
    obtain ⟨hc_1, h⟩ := kchk_h h
    refine kw_iald C (kdec dc_M_copies 10 rfl) 13 rfl rfl hc_1.1 hc_1.2 ?_
    obtain ⟨hc_2, h⟩ := kchk_h h
    obtain ⟨σ_3, eσ_3, h⟩ := klet_h h
    refine kw_iast C (kdec dc_M_copies 11 rfl) 14 rfl rfl hc_2.1 hc_2.2 ?_
    refine kw_sig eσ_3 ?_
    obtain ⟨x3_4, ex3_4, h⟩ := klet_h h
    refine kw_iinc (L' := [none, some (kr 23), some (kr 9), some (ki x3_4)]) C (kdec dc_M_copies 12 rfl) 17 rfl rfl (by decide) rfl (by rw [ex3_4]; rfl) ?_
    refine kw_goto C (kdec dc_M_copies 13 rfl) 2 (by decide) ?_
    obtain rfl := Option.some.inj h
    exact (hC _ _ rfl)
theorem lp_mm_copies_0_23_9_l2 {x : kX} {l0 : Launch} {Q : State → Prop} (C : kCx x prog_14_method_7_code "PoetFinesModel" none kcl yM 4 l0 R0_mm_copies_0_23_9) {ex : (kM)} (hX20 : ∀ (σ' : kM), ex = σ' → KW x 0 0 Q σ' 20 [none, none, none, none] []) (n : Nat) (σ : kM) (x3 : Int) (h : kloop (fun st => mm_copies_0_23_9_l2 st.1 st.2) n (σ, x3) = some ex) : KW x 0 0 Q σ 2 [none, some (kr 23), some (kr 9), some (ki x3)] [] :=
  kloop_ind (P := (fun st : kM × Int => KW x 0 0 Q st.1 2 [none, some (kr 23), some (kr 9), some (ki (st.2))] [])) (fun st out hb hc hx => bd_mm_copies_0_23_9_l2 C st.1 st.2 hb (fun a0 a1 e => hc _ e) (fun a0 e => hX20 _ ((hx _ e).symm))) n (σ, x3) h
def mm_copies_0_23_9 (σ : kM) : Option (kM) :=
  (kloop (fun st => mm_copies_0_23_9_l2 st.1 st.2) kFuel (σ, 0)).bind fun σ_7 =>
  some σ_7
set_option maxHeartbeats 4000000 in
theorem bd_mm_copies_0_23_9 {x : kX} {l0 : Launch} {Q : State → Prop} (C : kCx x prog_14_method_7_code "PoetFinesModel" none kcl yM 4 l0 R0_mm_copies_0_23_9) (σ : kM) {out : kM} (h : mm_copies_0_23_9 σ = some out) (hR : ∀ (τ : kM), out = τ → Q = kQ x none τ 0 0) : KW x 0 0 Q σ 0 [some (kr 0), some (kr 23), some (kr 9), none] [] := by
  unfold mm_copies_0_23_9 at h
  refine kw_iconst C (kdec dc_M_copies 0 rfl) 1 rfl rfl ⟨by decide, by decide⟩ ?_
  refine kw_istore_n (L' := [some (kr 0), some (kr 23), some (kr 9), some (ki 0)]) C (kdec dc_M_copies 1 rfl) rfl 2 rfl (by decide) rfl rfl ?_
  obtain ⟨ex_5, hl_6, h⟩ := kbind_h h
  refine kw_sub (L' := [none, some (kr 23), some (kr 9), some (ki 0)]) ⟨rfl, rfl, rfl, trivial⟩ (lp_mm_copies_0_23_9_l2 C ?_ kFuel σ 0 hl_6)
  · intro σ_7 e
    subst ex_5
    try dsimp only at h
    obtain rfl := Option.some.inj h
    exact kw_Q (hR _ rfl) (kw_return C (kdec dc_M_copies 14 rfl))
theorem mt_mm_copies_0_23_9 (l0 : Launch) {σ : kM} {τ : kM} (h : mm_copies_0_23_9 σ = some τ) : kMet l0 ky_M_copies prog_14_method_7_code 4 none R0_mm_copies_0_23_9 kcl yM σ [kr 0, kr 23, kr 9] none τ := kMet.of' [some (kr 0), some (kr 23), some (kr 9), none] (by decide) (Nat.le_of_ble_eq_true rfl) ⟨rfl, rfl, rfl, trivial⟩ (fun x C => bd_mm_copies_0_23_9 C σ h (fun τ e => by subst e; rfl))
def R0_mm_copies_0_24_19 : Room := ({ frames := 0, cells := 0, slots := 0, locals := 0 } : Room)
def mm_copies_0_24_19_l2 (σ : kM) (x3 : Int) : Option ((kM × Int) ⊕ ((kM))) :=
  if 24 ≤ x3 then
    some (Sum.inr σ)
  else
    kchk (0 ≤ x3 ∧ x3 < 24) <|
    kchk (0 ≤ x3 ∧ x3 < 24) <|
    klet (kst σ 19 (kup (σ 19) x3.toNat (σ 24 x3.toNat))) fun σ_3 =>
    klet (w32 (x3 + 1)) fun x3_4 =>
    some (Sum.inl (σ_3, x3_4))
set_option maxHeartbeats 4000000 in
theorem bd_mm_copies_0_24_19_l2 {x : kX} {l0 : Launch} {Q : State → Prop} (C : kCx x prog_14_method_7_code "PoetFinesModel" none kcl yM 4 l0 R0_mm_copies_0_24_19) (σ : kM) (x3 : Int) {out : (kM × Int) ⊕ ((kM))} (h : mm_copies_0_24_19_l2 σ x3 = some out) (hC : ∀ (σ' : kM) (x3' : Int), out = Sum.inl (σ', x3') → KW x 0 0 Q σ' 2 [none, some (kr 24), some (kr 19), some (ki x3')] []) (hX20 : ∀ (σ' : kM), out = Sum.inr σ' → KW x 0 0 Q σ' 20 [none, none, none, none] []) : KW x 0 0 Q σ 2 [none, some (kr 24), some (kr 19), some (ki x3)] [] := by
  unfold mm_copies_0_24_19_l2 at h
  refine kw_iload_n C (kdec dc_M_copies 2 rfl) rfl 3 rfl rfl ?_
  refine kw_aload_n C (kdec dc_M_copies 3 rfl) rfl 4 rfl rfl ?_
  refine kw_alen (v := 24) C (kdec dc_M_copies 4 rfl) 5 rfl rfl (by decide) rfl ⟨by decide, by decide⟩ ?_
  refine kw_icmp_ge C (kdec dc_M_copies 5 rfl) 20 8 (by decide) rfl (fun hc5 => ?_) (fun hc5 => ?_)
  · rw [if_pos hc5] at h
    obtain rfl := Option.some.inj h
    exact kw_sub (L' := [none, none, none, none]) trivial (hX20 _ rfl)
  · rw [if_neg hc5] at h
    refine kw_aload_n C (kdec dc_M_copies 6 rfl) rfl 9 rfl rfl ?_
    refine kw_iload_n C (kdec dc_M_copies 7 rfl) rfl 10 rfl rfl ?_
    refine kw_aload_n C (kdec dc_M_copies 8 rfl) rfl 11 rfl rfl ?_
    refine kw_iload_n C (kdec dc_M_copies 9 rfl) rfl 12 rfl rfl ?_
    obtain ⟨hc_1, h⟩ := kchk_h h
    refine kw_iald C (kdec dc_M_copies 10 rfl) 13 rfl rfl hc_1.1 hc_1.2 ?_
    obtain ⟨hc_2, h⟩ := kchk_h h
    obtain ⟨σ_3, eσ_3, h⟩ := klet_h h
    refine kw_iast C (kdec dc_M_copies 11 rfl) 14 rfl rfl hc_2.1 hc_2.2 ?_
    refine kw_sig eσ_3 ?_
    obtain ⟨x3_4, ex3_4, h⟩ := klet_h h
    refine kw_iinc (L' := [none, some (kr 24), some (kr 19), some (ki x3_4)]) C (kdec dc_M_copies 12 rfl) 17 rfl rfl (by decide) rfl (by rw [ex3_4]; rfl) ?_
    refine kw_goto C (kdec dc_M_copies 13 rfl) 2 (by decide) ?_
    obtain rfl := Option.some.inj h
    exact (hC _ _ rfl)
theorem lp_mm_copies_0_24_19_l2 {x : kX} {l0 : Launch} {Q : State → Prop} (C : kCx x prog_14_method_7_code "PoetFinesModel" none kcl yM 4 l0 R0_mm_copies_0_24_19) {ex : (kM)} (hX20 : ∀ (σ' : kM), ex = σ' → KW x 0 0 Q σ' 20 [none, none, none, none] []) (n : Nat) (σ : kM) (x3 : Int) (h : kloop (fun st => mm_copies_0_24_19_l2 st.1 st.2) n (σ, x3) = some ex) : KW x 0 0 Q σ 2 [none, some (kr 24), some (kr 19), some (ki x3)] [] :=
  kloop_ind (P := (fun st : kM × Int => KW x 0 0 Q st.1 2 [none, some (kr 24), some (kr 19), some (ki (st.2))] [])) (fun st out hb hc hx => bd_mm_copies_0_24_19_l2 C st.1 st.2 hb (fun a0 a1 e => hc _ e) (fun a0 e => hX20 _ ((hx _ e).symm))) n (σ, x3) h
def mm_copies_0_24_19 (σ : kM) : Option (kM) :=
  (kloop (fun st => mm_copies_0_24_19_l2 st.1 st.2) kFuel (σ, 0)).bind fun σ_7 =>
  some σ_7
set_option maxHeartbeats 4000000 in
theorem bd_mm_copies_0_24_19 {x : kX} {l0 : Launch} {Q : State → Prop} (C : kCx x prog_14_method_7_code "PoetFinesModel" none kcl yM 4 l0 R0_mm_copies_0_24_19) (σ : kM) {out : kM} (h : mm_copies_0_24_19 σ = some out) (hR : ∀ (τ : kM), out = τ → Q = kQ x none τ 0 0) : KW x 0 0 Q σ 0 [some (kr 0), some (kr 24), some (kr 19), none] [] := by
  unfold mm_copies_0_24_19 at h
  refine kw_iconst C (kdec dc_M_copies 0 rfl) 1 rfl rfl ⟨by decide, by decide⟩ ?_
  refine kw_istore_n (L' := [some (kr 0), some (kr 24), some (kr 19), some (ki 0)]) C (kdec dc_M_copies 1 rfl) rfl 2 rfl (by decide) rfl rfl ?_
  obtain ⟨ex_5, hl_6, h⟩ := kbind_h h
  refine kw_sub (L' := [none, some (kr 24), some (kr 19), some (ki 0)]) ⟨rfl, rfl, rfl, trivial⟩ (lp_mm_copies_0_24_19_l2 C ?_ kFuel σ 0 hl_6)
  · intro σ_7 e
    subst ex_5
    try dsimp only at h
    obtain rfl := Option.some.inj h
    exact kw_Q (hR _ rfl) (kw_return C (kdec dc_M_copies 14 rfl))
theorem mt_mm_copies_0_24_19 (l0 : Launch) {σ : kM} {τ : kM} (h : mm_copies_0_24_19 σ = some τ) : kMet l0 ky_M_copies prog_14_method_7_code 4 none R0_mm_copies_0_24_19 kcl yM σ [kr 0, kr 24, kr 19] none τ := kMet.of' [some (kr 0), some (kr 24), some (kr 19), none] (by decide) (Nat.le_of_ble_eq_true rfl) ⟨rfl, rfl, rfl, trivial⟩ (fun x C => bd_mm_copies_0_24_19 C σ h (fun τ e => by subst e; rfl))
def R0_mm_restore : Room := ({ frames := 1, cells := 0, slots := 0, locals := 23 } : Room)
def mm_restore_l32 (σ : kM) (x1 : Int) : Option ((kM × Int) ⊕ ((kM))) :=
  if 145 ≤ x1 then
    some (Sum.inr σ)
  else
    kchk (0 ≤ x1 ∧ x1 < 145) <|
    kchk (0 ≤ x1 ∧ x1 < 290) <|
    klet (kst σ 8 (kup (σ 8) x1.toNat (σ 22 x1.toNat))) fun σ_6 =>
    klet (w32 (x1 + 1)) fun x1_7 =>
    some (Sum.inl (σ_6, x1_7))
set_option maxHeartbeats 4000000 in
theorem bd_mm_restore_l32 {x : kX} {l0 : Launch} {Q : State → Prop} (C : kCx x prog_14_method_115_code "PoetFinesModel" (some .boolean) kcl yM 2 l0 R0_mm_restore) (σ : kM) (x1 : Int) {out : (kM × Int) ⊕ ((kM))} (h : mm_restore_l32 σ x1 = some out) (hC : ∀ (σ' : kM) (x1' : Int), out = Sum.inl (σ', x1') → KW x 0 0 Q σ' 32 [some (kr 0), some (ki x1')] []) (hX57 : ∀ (σ' : kM), out = Sum.inr σ' → KW x 0 0 Q σ' 57 [some (kr 0), none] []) : KW x 0 0 Q σ 32 [some (kr 0), some (ki x1)] [] := by
  unfold mm_restore_l32 at h
  refine kw_iload_n C (kdec dc_M_restore 18 rfl) rfl 33 rfl rfl ?_
  refine kw_sipush (v := 145) C (kdec dc_M_restore 19 rfl) 36 rfl (by decide) ⟨by decide, by decide⟩ ?_
  refine kw_icmp_ge C (kdec dc_M_restore 20 rfl) 57 39 (by decide) rfl (fun hc36 => ?_) (fun hc36 => ?_)
  · rw [if_pos hc36] at h
    obtain rfl := Option.some.inj h
    exact kw_sub (L' := [some (kr 0), none]) ⟨rfl, trivial⟩ (hX57 _ rfl)
  · rw [if_neg hc36] at h
    refine kw_aload_n C (kdec dc_M_restore 21 rfl) rfl 40 rfl rfl ?_
    refine kw_getR C (kdec dc_M_restore 22 rfl) 43 rfl fd_M_M_48_0 ?_
    refine kw_iload_n C (kdec dc_M_restore 23 rfl) rfl 44 rfl rfl ?_
    refine kw_aload_n C (kdec dc_M_restore 24 rfl) rfl 45 rfl rfl ?_
    refine kw_getR C (kdec dc_M_restore 25 rfl) 48 rfl fd_M_M_90_0 ?_
    refine kw_iload_n C (kdec dc_M_restore 26 rfl) rfl 49 rfl rfl ?_
    obtain ⟨hc_4, h⟩ := kchk_h h
    refine kw_iald C (kdec dc_M_restore 27 rfl) 50 rfl rfl hc_4.1 hc_4.2 ?_
    obtain ⟨hc_5, h⟩ := kchk_h h
    obtain ⟨σ_6, eσ_6, h⟩ := klet_h h
    refine kw_iast C (kdec dc_M_restore 28 rfl) 51 rfl rfl hc_5.1 hc_5.2 ?_
    refine kw_sig eσ_6 ?_
    obtain ⟨x1_7, ex1_7, h⟩ := klet_h h
    refine kw_iinc (L' := [some (kr 0), some (ki x1_7)]) C (kdec dc_M_restore 29 rfl) 54 rfl rfl (by decide) rfl (by rw [ex1_7]; rfl) ?_
    refine kw_goto C (kdec dc_M_restore 30 rfl) 32 (by decide) ?_
    obtain rfl := Option.some.inj h
    exact (hC _ _ rfl)
theorem lp_mm_restore_l32 {x : kX} {l0 : Launch} {Q : State → Prop} (C : kCx x prog_14_method_115_code "PoetFinesModel" (some .boolean) kcl yM 2 l0 R0_mm_restore) {ex : (kM)} (hX57 : ∀ (σ' : kM), ex = σ' → KW x 0 0 Q σ' 57 [some (kr 0), none] []) (n : Nat) (σ : kM) (x1 : Int) (h : kloop (fun st => mm_restore_l32 st.1 st.2) n (σ, x1) = some ex) : KW x 0 0 Q σ 32 [some (kr 0), some (ki x1)] [] :=
  kloop_ind (P := (fun st : kM × Int => KW x 0 0 Q st.1 32 [some (kr 0), some (ki (st.2))] [])) (fun st out hb hc hx => bd_mm_restore_l32 C st.1 st.2 hb (fun a0 a1 e => hc _ e) (fun a0 e => hX57 _ ((hx _ e).symm))) n (σ, x1) h
def mm_restore (σ : kM) : Option (Int × kM) :=
  klet (kst σ 0 (kup (σ 0) 0 0)) fun σ_1 =>
  if (σ_1 0 58) = 0 then
    some ((0, σ_1))
  else
    klet (kst σ_1 0 (kup (σ_1 0) 38 (σ_1 0 59))) fun σ_2 =>
    klet (kst σ_2 0 (kup (σ_2 0) 53 (σ_2 0 60))) fun σ_3 =>
    (kloop (fun st => mm_restore_l32 st.1 st.2) kFuel (σ_3, 0)).bind fun σ_10 =>
    (mm_copies_0_23_9 σ_10).bind fun σ_11 =>
    (mm_copies_0_24_19 σ_11).bind fun σ_12 =>
    some ((1, σ_12))
set_option maxHeartbeats 4000000 in
theorem bd_mm_restore {x : kX} {l0 : Launch} {Q : State → Prop} (C : kCx x prog_14_method_115_code "PoetFinesModel" (some .boolean) kcl yM 2 l0 R0_mm_restore) (σ : kM) {out : Int × kM} (h : mm_restore σ = some out) (hR : ∀ (r : Int) (τ : kM), out = (r, τ) → Q = kQ x (some (ki r)) τ 0 0) : KW x 0 0 Q σ 0 [some (kr 0), none] [] := by
  unfold mm_restore at h
  refine kw_aload_n C (kdec dc_M_restore 0 rfl) rfl 1 rfl rfl ?_
  refine kw_iconst C (kdec dc_M_restore 1 rfl) 2 rfl rfl ⟨by decide, by decide⟩ ?_
  obtain ⟨σ_1, eσ_1, h⟩ := klet_h h
  refine kw_putI C (kdec dc_M_restore 2 rfl) 5 rfl fp_M_M_99_0 ?_
  refine kw_sig eσ_1 ?_
  refine kw_aload_n C (kdec dc_M_restore 3 rfl) rfl 6 rfl rfl ?_
  refine kw_getI C (kdec dc_M_restore 4 rfl) 9 rfl fd_M_M_286_0 ?_
  refine kw_if_ne C (kdec dc_M_restore 5 rfl) 14 12 (by decide) rfl (fun hc9 => ?_) (fun hc9 => ?_)
  · rw [if_neg hc9] at h
    refine kw_aload_n C (kdec dc_M_restore 8 rfl) rfl 15 rfl rfl ?_
    refine kw_aload_n C (kdec dc_M_restore 9 rfl) rfl 16 rfl rfl ?_
    refine kw_getI C (kdec dc_M_restore 10 rfl) 19 rfl fd_M_M_447_0 ?_
    obtain ⟨σ_2, eσ_2, h⟩ := klet_h h
    refine kw_putI C (kdec dc_M_restore 11 rfl) 22 rfl fp_M_M_280_0 ?_
    refine kw_sig eσ_2 ?_
    refine kw_aload_n C (kdec dc_M_restore 12 rfl) rfl 23 rfl rfl ?_
    refine kw_aload_n C (kdec dc_M_restore 13 rfl) rfl 24 rfl rfl ?_
    refine kw_getI C (kdec dc_M_restore 14 rfl) 27 rfl fd_M_M_450_0 ?_
    obtain ⟨σ_3, eσ_3, h⟩ := klet_h h
    refine kw_putI C (kdec dc_M_restore 15 rfl) 30 rfl fp_M_M_283_0 ?_
    refine kw_sig eσ_3 ?_
    refine kw_iconst C (kdec dc_M_restore 16 rfl) 31 rfl rfl ⟨by decide, by decide⟩ ?_
    refine kw_istore_n (L' := [some (kr 0), some (ki 0)]) C (kdec dc_M_restore 17 rfl) rfl 32 rfl (by decide) rfl rfl ?_
    obtain ⟨ex_8, hl_9, h⟩ := kbind_h h
    refine lp_mm_restore_l32 C ?_ kFuel σ_3 0 hl_9
    · intro σ_10 e
      subst ex_8
      try dsimp only at h
      refine kw_aload_n C (kdec dc_M_restore 31 rfl) rfl 58 rfl rfl ?_
      refine kw_aload_n C (kdec dc_M_restore 32 rfl) rfl 59 rfl rfl ?_
      refine kw_getR C (kdec dc_M_restore 33 rfl) 62 rfl fd_M_M_93_0 ?_
      refine kw_aload_n C (kdec dc_M_restore 34 rfl) rfl 63 rfl rfl ?_
      refine kw_getR C (kdec dc_M_restore 35 rfl) 66 rfl fd_M_M_51_0 ?_
      obtain ⟨σ_11, hg_14, h⟩ := kbind_h h
      refine kw_callV (As := [kr 23, kr 9]) C (kdec dc_M_restore 36 rfl) 69 rfl cv_M_276 rfl rfl (mt_mm_copies_0_23_9 l0 hg_14) ⟨rfl, rfl⟩ ⟨Nat.le_of_ble_eq_true rfl, Nat.le_of_ble_eq_true rfl⟩ ⟨Nat.zero_le _, Nat.zero_le _⟩ rfl (Nat.le_of_ble_eq_true rfl) ?_
      change KW x 0 0 Q σ_11 69 [some (kr 0), none] []
      refine kw_aload_n C (kdec dc_M_restore 37 rfl) rfl 70 rfl rfl ?_
      refine kw_aload_n C (kdec dc_M_restore 38 rfl) rfl 71 rfl rfl ?_
      refine kw_getR C (kdec dc_M_restore 39 rfl) 74 rfl fd_M_M_96_0 ?_
      refine kw_aload_n C (kdec dc_M_restore 40 rfl) rfl 75 rfl rfl ?_
      refine kw_getR C (kdec dc_M_restore 41 rfl) 78 rfl fd_M_M_81_0 ?_
      obtain ⟨σ_12, hg_13, h⟩ := kbind_h h
      refine kw_callV (As := [kr 24, kr 19]) C (kdec dc_M_restore 42 rfl) 81 rfl cv_M_276 rfl rfl (mt_mm_copies_0_24_19 l0 hg_13) ⟨rfl, rfl⟩ ⟨Nat.le_of_ble_eq_true rfl, Nat.le_of_ble_eq_true rfl⟩ ⟨Nat.zero_le _, Nat.zero_le _⟩ rfl (Nat.le_of_ble_eq_true rfl) ?_
      change KW x 0 0 Q σ_12 81 [some (kr 0), none] []
      refine kw_iconst C (kdec dc_M_restore 43 rfl) 82 rfl rfl ⟨by decide, by decide⟩ ?_
      obtain rfl := Option.some.inj h
      exact kw_Q (hR _ _ rfl) (kw_zreturn C (kdec dc_M_restore 44 rfl) (by decide))
  · rw [if_pos hc9] at h
    refine kw_iconst C (kdec dc_M_restore 6 rfl) 13 rfl rfl ⟨by decide, by decide⟩ ?_
    obtain rfl := Option.some.inj h
    exact kw_Q (hR _ _ rfl) (kw_zreturn C (kdec dc_M_restore 7 rfl) (by decide))
theorem mt_mm_restore (l0 : Launch) {σ : kM} {r : Int} {τ : kM} (h : mm_restore σ = some (r, τ)) : kMet l0 ky_M_restore prog_14_method_115_code 2 (some .boolean) R0_mm_restore kcl yM σ [kr 0] (some (ki r)) τ := kMet.of' [some (kr 0), none] (by decide) (Nat.le_of_ble_eq_true rfl) ⟨rfl, trivial⟩ (fun x C => bd_mm_restore C σ h (fun r τ e => by cases e; rfl))

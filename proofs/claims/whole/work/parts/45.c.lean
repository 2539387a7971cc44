def R0_pf_P_needPerson_0 : Room := ({ frames := 6, cells := 1, slots := 6, locals := 100 } : Room)
def pf_P_needPerson_0 (σ : kM) (x1 : Int) : Option ((String ⊕ Unit) × kM) :=
  if x1 < 0 then
    some (.inl "java/util/NoSuchElementException", σ)
  else
    if x1 < (σ 3 1) then
      some ((.inr (), σ))
    else
      some (.inl "java/util/NoSuchElementException", σ)
set_option maxHeartbeats 4000000 in
theorem bd_pf_P_needPerson_0 {x : kX} {l0 : Launch} {Q : State → Prop} (C : kCx x prog_1_method_42_code "PoetFines" none kcl yC 2 l0 R0_pf_P_needPerson_0) (hT : kTb x) (hfl : l0.stackTraces = false) (σ : kM) (x1 : Int) {out : (String ⊕ Unit) × kM} (h : pf_P_needPerson_0 σ x1 = some out) (hR : ∀ (τ : kM), out = (.inr (), τ) → Q = kQX x (.inr none) τ 1 6) (hE : ∀ (E : String) (τ : kM), out = (.inl E, τ) → Q = kQX x (.inl E) τ 1 6) : KW x 0 0 Q σ 0 [some (kr 0), some (ki x1)] [] := by
  unfold pf_P_needPerson_0 at h
  refine kw_iload_n C (kdec dc_P_needPerson 0 rfl) rfl 1 rfl rfl ?_
  refine kw_if_lt C (kdec dc_P_needPerson 1 rfl) 15 4 (by decide) rfl (fun hc1 => ?_) (fun hc1 => ?_)
  · rw [if_pos hc1] at h
    obtain rfl := Option.some.inj h
    exact kw_Q (hE _ _ rfl) (kw_throwW C hT hfl th_P_340_147 (kdec dc_P_needPerson 7 rfl) (kdec dc_P_needPerson 8 rfl) (kdec dc_P_needPerson 9 rfl) (kdec dc_P_needPerson 10 rfl) (kdec dc_P_needPerson 11 rfl) (Nat.le_of_ble_eq_true rfl) ⟨Nat.le_of_ble_eq_true rfl, Nat.le_of_ble_eq_true rfl, Nat.le_of_ble_eq_true rfl, Nat.le_of_ble_eq_true rfl⟩ (Nat.le_of_ble_eq_true rfl) (Nat.le_of_ble_eq_true rfl))
  · rw [if_neg hc1] at h
    refine kw_iload_n C (kdec dc_P_needPerson 2 rfl) rfl 5 rfl rfl ?_
    refine kw_aload_n C (kdec dc_P_needPerson 3 rfl) rfl 6 rfl rfl ?_
    refine kw_getR C (kdec dc_P_needPerson 4 rfl) 9 rfl fd_C_P_27_0 ?_
    refine kw_getI C (kdec dc_P_needPerson 5 rfl) 12 rfl fd_C_P_116_3 ?_
    refine kw_icmp_lt C (kdec dc_P_needPerson 6 rfl) 26 15 (by decide) rfl (fun hc12 => ?_) (fun hc12 => ?_)
    · rw [if_pos hc12] at h
      obtain rfl := Option.some.inj h
      exact kw_Q (hR _ rfl) (kw_xret (by decide) (by decide) (kw_return C (kdec dc_P_needPerson 12 rfl)))
    · rw [if_neg hc12] at h
      obtain rfl := Option.some.inj h
      exact kw_Q (hE _ _ rfl) (kw_throwW C hT hfl th_P_340_147 (kdec dc_P_needPerson 7 rfl) (kdec dc_P_needPerson 8 rfl) (kdec dc_P_needPerson 9 rfl) (kdec dc_P_needPerson 10 rfl) (kdec dc_P_needPerson 11 rfl) (Nat.le_of_ble_eq_true rfl) ⟨Nat.le_of_ble_eq_true rfl, Nat.le_of_ble_eq_true rfl, Nat.le_of_ble_eq_true rfl, Nat.le_of_ble_eq_true rfl⟩ (Nat.le_of_ble_eq_true rfl) (Nat.le_of_ble_eq_true rfl))
theorem mx_pf_P_needPerson_0 (l0 : Launch) (hfl : l0.stackTraces = false) {σ : kM} {x1 : Int} {τ : kM} (h : pf_P_needPerson_0 σ x1 = some (.inr (), τ)) : kXet l0 ky_P_needPerson prog_1_method_42_code 2 none R0_pf_P_needPerson_0 kcl yC σ [kr 0, ki x1] (.inr none) τ 1 6 := kXet.of [some (kr 0), some (ki x1)] (by decide) (Nat.le_of_ble_eq_true rfl) ⟨rfl, rfl, trivial⟩ (fun x C hT => bd_pf_P_needPerson_0 C hT hfl σ x1 h (fun τ e => by cases e; rfl) (fun E τ e => by cases e))
theorem me_pf_P_needPerson_0 (l0 : Launch) (hfl : l0.stackTraces = false) {σ : kM} {x1 : Int} {E : String} {τ : kM} (h : pf_P_needPerson_0 σ x1 = some (.inl E, τ)) : kXet l0 ky_P_needPerson prog_1_method_42_code 2 none R0_pf_P_needPerson_0 kcl yC σ [kr 0, ki x1] (.inl E) τ 1 6 := kXet.of [some (kr 0), some (ki x1)] (by decide) (Nat.le_of_ble_eq_true rfl) ⟨rfl, rfl, trivial⟩ (fun x C hT => bd_pf_P_needPerson_0 C hT hfl σ x1 h (fun τ e => by cases e) (fun E τ e => by cases e; rfl))
def R0_pf_P_needWhat_0 : Room := ({ frames := 6, cells := 1, slots := 6, locals := 100 } : Room)
def pf_P_needWhat_0 (σ : kM) (x1 : Int) (x2 : Int) : Option ((String ⊕ Unit) × kM) :=
  if x1 < 0 then
    some (.inl "java/util/NoSuchElementException", σ)
  else
    if x1 ≤ x2 then
      some ((.inr (), σ))
    else
      some (.inl "java/util/NoSuchElementException", σ)
set_option maxHeartbeats 4000000 in
theorem bd_pf_P_needWhat_0 {x : kX} {l0 : Launch} {Q : State → Prop} (C : kCx x prog_1_method_45_code "PoetFines" none kcl yC 3 l0 R0_pf_P_needWhat_0) (hT : kTb x) (hfl : l0.stackTraces = false) (σ : kM) (x1 : Int) (x2 : Int) {out : (String ⊕ Unit) × kM} (h : pf_P_needWhat_0 σ x1 x2 = some out) (hR : ∀ (τ : kM), out = (.inr (), τ) → Q = kQX x (.inr none) τ 1 6) (hE : ∀ (E : String) (τ : kM), out = (.inl E, τ) → Q = kQX x (.inl E) τ 1 6) : KW x 0 0 Q σ 0 [some (kr 0), some (ki x1), some (ki x2)] [] := by
  unfold pf_P_needWhat_0 at h
  refine kw_iload_n C (kdec dc_P_needWhat 0 rfl) rfl 1 rfl rfl ?_
  refine kw_if_lt C (kdec dc_P_needWhat 1 rfl) 9 4 (by decide) rfl (fun hc1 => ?_) (fun hc1 => ?_)
  · rw [if_pos hc1] at h
    obtain rfl := Option.some.inj h
    exact kw_Q (hE _ _ rfl) (kw_throwW C hT hfl th_P_346_147 (kdec dc_P_needWhat 5 rfl) (kdec dc_P_needWhat 6 rfl) (kdec dc_P_needWhat 7 rfl) (kdec dc_P_needWhat 8 rfl) (kdec dc_P_needWhat 9 rfl) (Nat.le_of_ble_eq_true rfl) ⟨Nat.le_of_ble_eq_true rfl, Nat.le_of_ble_eq_true rfl, Nat.le_of_ble_eq_true rfl, Nat.le_of_ble_eq_true rfl⟩ (Nat.le_of_ble_eq_true rfl) (Nat.le_of_ble_eq_true rfl))
  · rw [if_neg hc1] at h
    refine kw_iload_n C (kdec dc_P_needWhat 2 rfl) rfl 5 rfl rfl ?_
    refine kw_iload_n C (kdec dc_P_needWhat 3 rfl) rfl 6 rfl rfl ?_
    refine kw_icmp_le C (kdec dc_P_needWhat 4 rfl) 20 9 (by decide) rfl (fun hc6 => ?_) (fun hc6 => ?_)
    · rw [if_pos hc6] at h
      obtain rfl := Option.some.inj h
      exact kw_Q (hR _ rfl) (kw_xret (by decide) (by decide) (kw_return C (kdec dc_P_needWhat 10 rfl)))
    · rw [if_neg hc6] at h
      obtain rfl := Option.some.inj h
      exact kw_Q (hE _ _ rfl) (kw_throwW C hT hfl th_P_346_147 (kdec dc_P_needWhat 5 rfl) (kdec dc_P_needWhat 6 rfl) (kdec dc_P_needWhat 7 rfl) (kdec dc_P_needWhat 8 rfl) (kdec dc_P_needWhat 9 rfl) (Nat.le_of_ble_eq_true rfl) ⟨Nat.le_of_ble_eq_true rfl, Nat.le_of_ble_eq_true rfl, Nat.le_of_ble_eq_true rfl, Nat.le_of_ble_eq_true rfl⟩ (Nat.le_of_ble_eq_true rfl) (Nat.le_of_ble_eq_true rfl))
theorem mx_pf_P_needWhat_0 (l0 : Launch) (hfl : l0.stackTraces = false) {σ : kM} {x1 : Int} {x2 : Int} {τ : kM} (h : pf_P_needWhat_0 σ x1 x2 = some (.inr (), τ)) : kXet l0 ky_P_needWhat prog_1_method_45_code 3 none R0_pf_P_needWhat_0 kcl yC σ [kr 0, ki x1, ki x2] (.inr none) τ 1 6 := kXet.of [some (kr 0), some (ki x1), some (ki x2)] (by decide) (Nat.le_of_ble_eq_true rfl) ⟨rfl, rfl, rfl, trivial⟩ (fun x C hT => bd_pf_P_needWhat_0 C hT hfl σ x1 x2 h (fun τ e => by cases e; rfl) (fun E τ e => by cases e))
theorem me_pf_P_needWhat_0 (l0 : Launch) (hfl : l0.stackTraces = false) {σ : kM} {x1 : Int} {x2 : Int} {E : String} {τ : kM} (h : pf_P_needWhat_0 σ x1 x2 = some (.inl E, τ)) : kXet l0 ky_P_needWhat prog_1_method_45_code 3 none R0_pf_P_needWhat_0 kcl yC σ [kr 0, ki x1, ki x2] (.inl E) τ 1 6 := kXet.of [some (kr 0), some (ki x1), some (ki x2)] (by decide) (Nat.le_of_ble_eq_true rfl) ⟨rfl, rfl, rfl, trivial⟩ (fun x C hT => bd_pf_P_needWhat_0 C hT hfl σ x1 x2 h (fun τ e => by cases e) (fun E τ e => by cases e; rfl))
def R0_pf_World_hitsBy_30 : Room := ({ frames := 0, cells := 0, slots := 0, locals := 0 } : Room)
def pf_World_hitsBy_30 (σ : kM) (x1 : Int) (x2 : Int) : Option (Int) :=
  kchk (0 ≤ (w32 ((w32 (17 + (w32 (x1 * 8)))) + x2)) ∧ (w32 ((w32 (17 + (w32 (x1 * 8)))) + x2)) < 85) <|
  some (σ 31 (w32 ((w32 (17 + (w32 (x1 * 8)))) + x2)).toNat)
set_option maxHeartbeats 4000000 in
theorem bd_pf_World_hitsBy_30 {x : kX} {l0 : Launch} {Q : State → Prop} (C : kCx x prog_12_method_6_code "PoetFines$World" (some .int) kcl yC 3 l0 R0_pf_World_hitsBy_30) (σ : kM) (x1 : Int) (x2 : Int) {out : Int} (h : pf_World_hitsBy_30 σ x1 x2 = some out) (hR : ∀ (r : Int), out = r → Q = kQ x (some (ki r)) σ 0 0) : KW x 0 0 Q σ 0 [some (kr 30), some (ki x1), some (ki x2)] [] := by
  unfold pf_World_hitsBy_30 at h
  refine kw_aload_n C (kdec dc_World_hitsBy 0 rfl) rfl 1 rfl rfl ?_
  refine kw_getR C (kdec dc_World_hitsBy 1 rfl) 4 rfl fd_C_World_11_30 ?_
  refine kw_bipush (v := 17) C (kdec dc_World_hitsBy 2 rfl) 6 rfl (by decide) ⟨by decide, by decide⟩ ?_
  refine kw_iload_n C (kdec dc_World_hitsBy 3 rfl) rfl 7 rfl rfl ?_
  refine kw_bipush (v := 8) C (kdec dc_World_hitsBy 4 rfl) 9 rfl (by decide) ⟨by decide, by decide⟩ ?_
  refine kw_imul C (kdec dc_World_hitsBy 5 rfl) 10 rfl ?_
  refine kw_iadd C (kdec dc_World_hitsBy 6 rfl) 11 rfl ?_
  refine kw_iload_n C (kdec dc_World_hitsBy 7 rfl) rfl 12 rfl rfl ?_
  refine kw_iadd C (kdec dc_World_hitsBy 8 rfl) 13 rfl ?_
  obtain ⟨hc_1, h⟩ := kchk_h h
  refine kw_iald C (kdec dc_World_hitsBy 9 rfl) 14 rfl rfl hc_1.1 hc_1.2 ?_
  obtain rfl := Option.some.inj h
  exact kw_Q (hR _ rfl) (kw_ireturn C (kdec dc_World_hitsBy 10 rfl))
theorem mt_pf_World_hitsBy_30 (l0 : Launch) {σ : kM} {x1 : Int} {x2 : Int} {r : Int} (h : pf_World_hitsBy_30 σ x1 x2 = some r) : kMet l0 ky_World_hitsBy prog_12_method_6_code 3 (some .int) R0_pf_World_hitsBy_30 kcl yC σ [kr 30, ki x1, ki x2] (some (ki r)) σ := kMet.of' [some (kr 30), some (ki x1), some (ki x2)] (by decide) (Nat.le_of_ble_eq_true rfl) ⟨rfl, rfl, rfl, trivial⟩ (fun x C => bd_pf_World_hitsBy_30 C σ x1 x2 h (fun r e => by subst e; rfl))
def R0_pf_World_ofPerson_30 : Room := ({ frames := 1, cells := 0, slots := 0, locals := 22 } : Room)
def pf_World_ofPerson_30_l34 (σ : kM) (x1 : Int) (x3 : Int) (x4 : Int) (x5 : Int) : Option ((Int × Int) ⊕ ((Int))) :=
  if x3 ≤ x5 then
    some (Sum.inr x4)
  else
    (pf_World_hitsBy_30 σ x5 x1).bind fun r_1 =>
    klet (w32 (x4 + r_1)) fun x4_2 =>
    klet (w32 (x5 + 1)) fun x5_3 =>
    some (Sum.inl (x4_2, x5_3))
set_option maxHeartbeats 4000000 in
theorem bd_pf_World_ofPerson_30_l34 {x : kX} {l0 : Launch} {Q : State → Prop} (C : kCx x prog_12_method_7_code "PoetFines$World" (some .int) kcl yC 6 l0 R0_pf_World_ofPerson_30) (σ : kM) (x1 : Int) (x3 : Int) (x4 : Int) (x5 : Int) {out : (Int × Int) ⊕ ((Int))} (h : pf_World_ofPerson_30_l34 σ x1 x3 x4 x5 = some out) (hC : ∀ (x4' : Int) (x5' : Int), out = Sum.inl (x4', x5') → KW x 0 0 Q σ 34 [some (kr 30), some (ki x1), none, some (ki x3), some (ki x4'), some (ki x5')] []) (hX58 : ∀ (x4' : Int), out = Sum.inr x4' → KW x 0 0 Q σ 58 [none, none, none, none, some (ki x4'), none] []) : KW x 0 0 Q σ 34 [some (kr 30), some (ki x1), none, some (ki x3), some (ki x4), some (ki x5)] [] := by
  unfold pf_World_ofPerson_30_l34 at h
  refine kw_iload C (kdec dc_World_ofPerson 23 rfl) 36 rfl rfl ?_
  refine kw_iload_n C (kdec dc_World_ofPerson 24 rfl) rfl 37 rfl rfl ?_
  refine kw_icmp_ge C (kdec dc_World_ofPerson 25 rfl) 58 40 (by decide) rfl (fun hc37 => ?_) (fun hc37 => ?_)
  · rw [if_pos hc37] at h
    obtain rfl := Option.some.inj h
    exact kw_sub (L' := [none, none, none, none, some (ki x4), none]) ⟨rfl, trivial⟩ (hX58 _ rfl)
  · rw [if_neg hc37] at h
    refine kw_iload C (kdec dc_World_ofPerson 26 rfl) 42 rfl rfl ?_
    refine kw_aload_n C (kdec dc_World_ofPerson 27 rfl) rfl 43 rfl rfl ?_
    refine kw_iload C (kdec dc_World_ofPerson 28 rfl) 45 rfl rfl ?_
    refine kw_iload_n C (kdec dc_World_ofPerson 29 rfl) rfl 46 rfl rfl ?_
    obtain ⟨r_1, hg_4, h⟩ := kbind_h h
    refine kw_callV (As := [ki x5, ki x1]) C (kdec dc_World_ofPerson 30 rfl) 49 rfl cv_World_21 rfl rfl (mt_pf_World_hitsBy_30 l0 hg_4) ⟨rfl, rfl⟩ ⟨Nat.le_of_ble_eq_true rfl, Nat.le_of_ble_eq_true rfl⟩ ⟨Nat.zero_le _, Nat.zero_le _⟩ rfl (Nat.le_of_ble_eq_true rfl) ?_
    change KW x 0 0 Q σ 49 [some (kr 30), some (ki x1), none, some (ki x3), some (ki x4), some (ki x5)] [ki r_1, ki x4]
    refine kw_iadd C (kdec dc_World_ofPerson 31 rfl) 50 rfl ?_
    obtain ⟨x4_2, ex4_2, h⟩ := klet_h h
    refine kw_top ex4_2 ?_
    refine kw_istore (L' := [some (kr 30), some (ki x1), none, some (ki x3), some (ki x4_2), some (ki x5)]) C (kdec dc_World_ofPerson 32 rfl) 52 rfl (by decide) rfl rfl ?_
    obtain ⟨x5_3, ex5_3, h⟩ := klet_h h
    refine kw_iinc (L' := [some (kr 30), some (ki x1), none, some (ki x3), some (ki x4_2), some (ki x5_3)]) C (kdec dc_World_ofPerson 33 rfl) 55 rfl rfl (by decide) rfl (by rw [ex5_3]; rfl) ?_
    refine kw_goto C (kdec dc_World_ofPerson 34 rfl) 34 (by decide) ?_
    obtain rfl := Option.some.inj h
    exact (hC _ _ rfl)
theorem lp_pf_World_ofPerson_30_l34 {x : kX} {l0 : Launch} {Q : State → Prop} (C : kCx x prog_12_method_7_code "PoetFines$World" (some .int) kcl yC 6 l0 R0_pf_World_ofPerson_30) (σ : kM) (x1 : Int) (x3 : Int) {ex : (Int)} (hX58 : ∀ (x4' : Int), ex = x4' → KW x 0 0 Q σ 58 [none, none, none, none, some (ki x4'), none] []) (n : Nat) (x4 : Int) (x5 : Int) (h : kloop (fun st => pf_World_ofPerson_30_l34 σ x1 x3 st.1 st.2) n (x4, x5) = some ex) : KW x 0 0 Q σ 34 [some (kr 30), some (ki x1), none, some (ki x3), some (ki x4), some (ki x5)] [] :=
  kloop_ind (P := (fun st : Int × Int => KW x 0 0 Q σ 34 [some (kr 30), some (ki x1), none, some (ki x3), some (ki (st.1)), some (ki (st.2))] [])) (fun st out hb hc hx => bd_pf_World_ofPerson_30_l34 C σ x1 x3 st.1 st.2 hb (fun a0 a1 e => hc _ e) (fun a0 e => hX58 _ ((hx _ e).symm))) n (x4, x5) h
def pf_World_ofPerson_30 (σ : kM) (x1 : Int) (x2 : Int) (x3 : Int) : Option (Int) :=
  if x2 = 0 then
    kchk (0 ≤ (w32 (1 + x1)) ∧ (w32 (1 + x1)) < 85) <|
    some (σ 31 (w32 (1 + x1)).toNat)
  else
    if x2 = 1 then
      kchk (0 ≤ (w32 (9 + x1)) ∧ (w32 (9 + x1)) < 85) <|
      some (σ 31 (w32 (9 + x1)).toNat)
    else
      (kloop (fun st => pf_World_ofPerson_30_l34 σ x1 x3 st.1 st.2) kFuel (0, 0)).bind fun x4_7 =>
      some x4_7
set_option maxHeartbeats 4000000 in
theorem bd_pf_World_ofPerson_30 {x : kX} {l0 : Launch} {Q : State → Prop} (C : kCx x prog_12_method_7_code "PoetFines$World" (some .int) kcl yC 6 l0 R0_pf_World_ofPerson_30) (σ : kM) (x1 : Int) (x2 : Int) (x3 : Int) {out : Int} (h : pf_World_ofPerson_30 σ x1 x2 x3 = some out) (hR : ∀ (r : Int), out = r → Q = kQ x (some (ki r)) σ 0 0) : KW x 0 0 Q σ 0 [some (kr 30), some (ki x1), some (ki x2), some (ki x3), none, none] [] := by
  unfold pf_World_ofPerson_30 at h
  refine kw_iload_n C (kdec dc_World_ofPerson 0 rfl) rfl 1 rfl rfl ?_
  refine kw_if_ne C (kdec dc_World_ofPerson 1 rfl) 13 4 (by decide) rfl (fun hc1 => ?_) (fun hc1 => ?_)
  · rw [if_neg hc1] at h
    refine kw_iload_n C (kdec dc_World_ofPerson 9 rfl) rfl 14 rfl rfl ?_
    refine kw_iconst C (kdec dc_World_ofPerson 10 rfl) 15 rfl rfl ⟨by decide, by decide⟩ ?_
    refine kw_icmp_ne C (kdec dc_World_ofPerson 11 rfl) 28 18 (by decide) rfl (fun hc15 => ?_) (fun hc15 => ?_)
    · rw [if_neg hc15] at h
      refine kw_iconst C (kdec dc_World_ofPerson 19 rfl) 29 rfl rfl ⟨by decide, by decide⟩ ?_
      refine kw_istore (L' := [some (kr 30), some (ki x1), some (ki x2), some (ki x3), some (ki 0), none]) C (kdec dc_World_ofPerson 20 rfl) 31 rfl (by decide) rfl rfl ?_
      refine kw_iconst C (kdec dc_World_ofPerson 21 rfl) 32 rfl rfl ⟨by decide, by decide⟩ ?_
      refine kw_istore (L' := [some (kr 30), some (ki x1), some (ki x2), some (ki x3), some (ki 0), some (ki 0)]) C (kdec dc_World_ofPerson 22 rfl) 34 rfl (by decide) rfl rfl ?_
      obtain ⟨ex_5, hl_6, h⟩ := kbind_h h
      refine kw_sub (L' := [some (kr 30), some (ki x1), none, some (ki x3), some (ki 0), some (ki 0)]) ⟨rfl, rfl, rfl, rfl, rfl, trivial⟩ (lp_pf_World_ofPerson_30_l34 C σ x1 x3 ?_ kFuel 0 0 hl_6)
      · intro x4_7 e
        subst ex_5
        try dsimp only at h
        refine kw_iload C (kdec dc_World_ofPerson 35 rfl) 60 rfl rfl ?_
        obtain rfl := Option.some.inj h
        exact kw_Q (hR _ rfl) (kw_ireturn C (kdec dc_World_ofPerson 36 rfl))
    · rw [if_pos hc15] at h
      refine kw_aload_n C (kdec dc_World_ofPerson 12 rfl) rfl 19 rfl rfl ?_
      refine kw_getR C (kdec dc_World_ofPerson 13 rfl) 22 rfl fd_C_World_11_30 ?_
      refine kw_bipush (v := 9) C (kdec dc_World_ofPerson 14 rfl) 24 rfl (by decide) ⟨by decide, by decide⟩ ?_
      refine kw_iload_n C (kdec dc_World_ofPerson 15 rfl) rfl 25 rfl rfl ?_
      refine kw_iadd C (kdec dc_World_ofPerson 16 rfl) 26 rfl ?_
      obtain ⟨hc_8, h⟩ := kchk_h h
      refine kw_iald C (kdec dc_World_ofPerson 17 rfl) 27 rfl rfl hc_8.1 hc_8.2 ?_
      obtain rfl := Option.some.inj h
      exact kw_Q (hR _ rfl) (kw_ireturn C (kdec dc_World_ofPerson 18 rfl))
  · rw [if_pos hc1] at h
    refine kw_aload_n C (kdec dc_World_ofPerson 2 rfl) rfl 5 rfl rfl ?_
    refine kw_getR C (kdec dc_World_ofPerson 3 rfl) 8 rfl fd_C_World_11_30 ?_
    refine kw_iconst C (kdec dc_World_ofPerson 4 rfl) 9 rfl rfl ⟨by decide, by decide⟩ ?_
    refine kw_iload_n C (kdec dc_World_ofPerson 5 rfl) rfl 10 rfl rfl ?_
    refine kw_iadd C (kdec dc_World_ofPerson 6 rfl) 11 rfl ?_
    obtain ⟨hc_9, h⟩ := kchk_h h
    refine kw_iald C (kdec dc_World_ofPerson 7 rfl) 12 rfl rfl hc_9.1 hc_9.2 ?_
    obtain rfl := Option.some.inj h
    exact kw_Q (hR _ rfl) (kw_ireturn C (kdec dc_World_ofPerson 8 rfl))
theorem mt_pf_World_ofPerson_30 (l0 : Launch) {σ : kM} {x1 : Int} {x2 : Int} {x3 : Int} {r : Int} (h : pf_World_ofPerson_30 σ x1 x2 x3 = some r) : kMet l0 ky_World_ofPerson prog_12_method_7_code 6 (some .int) R0_pf_World_ofPerson_30 kcl yC σ [kr 30, ki x1, ki x2, ki x3] (some (ki r)) σ := kMet.of' [some (kr 30), some (ki x1), some (ki x2), some (ki x3), none, none] (by decide) (Nat.le_of_ble_eq_true rfl) ⟨rfl, rfl, rfl, rfl, trivial⟩ (fun x C => bd_pf_World_ofPerson_30 C σ x1 x2 x3 h (fun r e => by subst e; rfl))
def R0_pf_Law_truthOf_3 : Room := ({ frames := 0, cells := 0, slots := 0, locals := 0 } : Room)
def pf_Law_truthOf_3 (σ : kM) (x1 : Int) (x2 : Int) : Option (Int) :=
  kchk (0 ≤ (w32 ((w32 (x1 * 4)) + x2)) ∧ (w32 ((w32 (x1 * 4)) + x2)) < 32) <|
  some (σ 5 (w32 ((w32 (x1 * 4)) + x2)).toNat)
set_option maxHeartbeats 4000000 in
theorem bd_pf_Law_truthOf_3 {x : kX} {l0 : Launch} {Q : State → Prop} (C : kCx x prog_4_method_5_code "PoetFines$Law" (some .int) kcl yC 3 l0 R0_pf_Law_truthOf_3) (σ : kM) (x1 : Int) (x2 : Int) {out : Int} (h : pf_Law_truthOf_3 σ x1 x2 = some out) (hR : ∀ (r : Int), out = r → Q = kQ x (some (ki r)) σ 0 0) : KW x 0 0 Q σ 0 [some (kr 3), some (ki x1), some (ki x2)] [] := by
  unfold pf_Law_truthOf_3 at h
  refine kw_aload_n C (kdec dc_Law_truthOf 0 rfl) rfl 1 rfl rfl ?_
  refine kw_getR C (kdec dc_Law_truthOf 1 rfl) 4 rfl fd_C_Law_25_3 ?_
  refine kw_iload_n C (kdec dc_Law_truthOf 2 rfl) rfl 5 rfl rfl ?_
  refine kw_iconst C (kdec dc_Law_truthOf 3 rfl) 6 rfl rfl ⟨by decide, by decide⟩ ?_
  refine kw_imul C (kdec dc_Law_truthOf 4 rfl) 7 rfl ?_
  refine kw_iload_n C (kdec dc_Law_truthOf 5 rfl) rfl 8 rfl rfl ?_
  refine kw_iadd C (kdec dc_Law_truthOf 6 rfl) 9 rfl ?_
  obtain ⟨hc_1, h⟩ := kchk_h h
  refine kw_iald C (kdec dc_Law_truthOf 7 rfl) 10 rfl rfl hc_1.1 hc_1.2 ?_
  obtain rfl := Option.some.inj h
  exact kw_Q (hR _ rfl) (kw_ireturn C (kdec dc_Law_truthOf 8 rfl))
theorem mt_pf_Law_truthOf_3 (l0 : Launch) {σ : kM} {x1 : Int} {x2 : Int} {r : Int} (h : pf_Law_truthOf_3 σ x1 x2 = some r) : kMet l0 ky_Law_truthOf prog_4_method_5_code 3 (some .int) R0_pf_Law_truthOf_3 kcl yC σ [kr 3, ki x1, ki x2] (some (ki r)) σ := kMet.of' [some (kr 3), some (ki x1), some (ki x2)] (by decide) (Nat.le_of_ble_eq_true rfl) ⟨rfl, rfl, rfl, trivial⟩ (fun x C => bd_pf_Law_truthOf_3 C σ x1 x2 h (fun r e => by subst e; rfl))
def R0_pf_P_person_0 : Room := ({ frames := 7, cells := 2, slots := 12, locals := 122 } : Room)
def pf_P_person_0_j38 (σ : kM) (x1 : Int) (x2 : Int) : Option ((String ⊕ Int) × kM) :=
  (pf_P_needWhat_0 σ x2 2).bind fun q_9 => match q_9 with
  | (.inl E_6, σ_4) => some (.inl E_6, σ_4)
  | (.inr _, σ_4) =>
    (pf_World_ofPerson_30 σ_4 x1 x2 (σ_4 3 2)).bind fun r_7 =>
    some ((.inr r_7, σ_4))
set_option maxHeartbeats 4000000 in
theorem bd_pf_P_person_0_j38 {x : kX} {l0 : Launch} {Q : State → Prop} (C : kCx x prog_1_method_6_code "PoetFines" (some .int) kcl yC 3 l0 R0_pf_P_person_0) (hT : kTb x) (hfl : l0.stackTraces = false) (σ : kM) (x1 : Int) (x2 : Int) {out : (String ⊕ Int) × kM} (h : pf_P_person_0_j38 σ x1 x2 = some out) (hR : ∀ (r : Int) (τ : kM), out = (.inr r, τ) → Q = kQX x (.inr (some (ki r))) τ 2 12) (hE : ∀ (E : String) (τ : kM), out = (.inl E, τ) → Q = kQX x (.inl E) τ 2 12) : KW x 1 6 Q σ 38 [some (kr 0), some (ki x1), some (ki x2)] [] := by
  unfold pf_P_person_0_j38 at h
  refine kw_aload_n C (kdec dc_P_person 21 rfl) rfl 39 rfl rfl ?_
  refine kw_iload_n C (kdec dc_P_person 22 rfl) rfl 40 rfl rfl ?_
  refine kw_iconst C (kdec dc_P_person 23 rfl) 41 rfl rfl ⟨by decide, by decide⟩ ?_
  obtain ⟨⟨q_9, σ_4⟩, hg_5, h⟩ := kbind_h h
  rcases q_9 with E_6 | _
  · dsimp only at h
    obtain rfl := Option.some.inj h
    exact kw_Q (hE _ _ rfl) (kw_callVX_t (As := [ki x2, ki 2]) C hT (kdec dc_P_person 24 rfl) cv_P_154 rfl rfl (me_pf_P_needWhat_0 l0 hfl hg_5) ⟨rfl, rfl⟩ ⟨Nat.le_of_ble_eq_true rfl, Nat.le_of_ble_eq_true rfl⟩ ⟨Nat.le_of_ble_eq_true rfl, Nat.le_of_ble_eq_true rfl⟩ rfl (Nat.le_of_ble_eq_true rfl) (Nat.le_of_ble_eq_true rfl) (Nat.le_of_ble_eq_true rfl))
  · dsimp only at h
    refine kw_callVX (As := [ki x2, ki 2]) C (kdec dc_P_person 24 rfl) 44 rfl cv_P_154 rfl rfl (mx_pf_P_needWhat_0 l0 hfl hg_5) ⟨rfl, rfl⟩ ⟨Nat.le_of_ble_eq_true rfl, Nat.le_of_ble_eq_true rfl⟩ ⟨Nat.le_of_ble_eq_true rfl, Nat.le_of_ble_eq_true rfl⟩ rfl (Nat.le_of_ble_eq_true rfl) ?_
    change KW x 2 12 Q σ_4 44 [some (kr 0), some (ki x1), some (ki x2)] []
    refine kw_aload_n C (kdec dc_P_person 25 rfl) rfl 45 rfl rfl ?_
    refine kw_getR C (kdec dc_P_person 26 rfl) 48 rfl fd_C_P_43_0 ?_
    refine kw_getR C (kdec dc_P_person 27 rfl) 51 rfl fd_C_P_56_29 ?_
    refine kw_iload_n C (kdec dc_P_person 28 rfl) rfl 52 rfl rfl ?_
    refine kw_iload_n C (kdec dc_P_person 29 rfl) rfl 53 rfl rfl ?_
    refine kw_aload_n C (kdec dc_P_person 30 rfl) rfl 54 rfl rfl ?_
    refine kw_getR C (kdec dc_P_person 31 rfl) 57 rfl fd_C_P_27_0 ?_
    refine kw_getI C (kdec dc_P_person 32 rfl) 60 rfl fd_C_P_119_3 ?_
    obtain ⟨r_7, hg_8, h⟩ := kbind_h h
    refine kw_callV (As := [ki x1, ki x2, ki (σ_4 3 2)]) C (kdec dc_P_person 33 rfl) 63 rfl cv_P_158 rfl rfl (mt_pf_World_ofPerson_30 l0 hg_8) ⟨rfl, rfl⟩ ⟨Nat.le_of_ble_eq_true rfl, Nat.le_of_ble_eq_true rfl⟩ ⟨Nat.le_of_ble_eq_true rfl, Nat.le_of_ble_eq_true rfl⟩ rfl (Nat.le_of_ble_eq_true rfl) ?_
    change KW x 2 12 Q σ_4 63 [some (kr 0), some (ki x1), some (ki x2)] [ki r_7]
    obtain rfl := Option.some.inj h
    exact kw_Q (hR _ _ rfl) (kw_xret (by decide) (by decide) (kw_ireturn C (kdec dc_P_person 34 rfl)))
def pf_P_person_0 (σ : kM) (x1 : Int) (x2 : Int) : Option ((String ⊕ Int) × kM) :=
  (pf_P_needPerson_0 σ x1).bind fun q_12 => match q_12 with
  | (.inl E_3, σ_1) => some (.inl E_3, σ_1)
  | (.inr _, σ_1) =>
    if x2 < 10 then
      pf_P_person_0_j38 σ_1 x1 x2
    else
      if (σ_1 3 0) ≤ (w32 (x2 - 10)) then
        pf_P_person_0_j38 σ_1 x1 x2
      else
        (pf_Law_truthOf_3 σ_1 x1 (w32 (x2 - 10))).bind fun r_10 =>
        some ((.inr r_10, σ_1))
set_option maxHeartbeats 4000000 in
theorem bd_pf_P_person_0 {x : kX} {l0 : Launch} {Q : State → Prop} (C : kCx x prog_1_method_6_code "PoetFines" (some .int) kcl yC 3 l0 R0_pf_P_person_0) (hT : kTb x) (hfl : l0.stackTraces = false) (σ : kM) (x1 : Int) (x2 : Int) {out : (String ⊕ Int) × kM} (h : pf_P_person_0 σ x1 x2 = some out) (hR : ∀ (r : Int) (τ : kM), out = (.inr r, τ) → Q = kQX x (.inr (some (ki r))) τ 2 12) (hE : ∀ (E : String) (τ : kM), out = (.inl E, τ) → Q = kQX x (.inl E) τ 2 12) : KW x 0 0 Q σ 0 [some (kr 0), some (ki x1), some (ki x2)] [] := by
  unfold pf_P_person_0 at h
  refine kw_aload_n C (kdec dc_P_person 0 rfl) rfl 1 rfl rfl ?_
  refine kw_iload_n C (kdec dc_P_person 1 rfl) rfl 2 rfl rfl ?_
  obtain ⟨⟨q_12, σ_1⟩, hg_2, h⟩ := kbind_h h
  rcases q_12 with E_3 | _
  · dsimp only at h
    obtain rfl := Option.some.inj h
    exact kw_Q (hE _ _ rfl) (kw_callVX_t (As := [ki x1]) C hT (kdec dc_P_person 2 rfl) cv_P_148 rfl rfl (me_pf_P_needPerson_0 l0 hfl hg_2) ⟨rfl, rfl⟩ ⟨Nat.le_of_ble_eq_true rfl, Nat.le_of_ble_eq_true rfl⟩ ⟨Nat.le_of_ble_eq_true rfl, Nat.le_of_ble_eq_true rfl⟩ rfl (Nat.le_of_ble_eq_true rfl) (Nat.le_of_ble_eq_true rfl) (Nat.le_of_ble_eq_true rfl))
  · dsimp only at h
    refine kw_callVX (As := [ki x1]) C (kdec dc_P_person 2 rfl) 5 rfl cv_P_148 rfl rfl (mx_pf_P_needPerson_0 l0 hfl hg_2) ⟨rfl, rfl⟩ ⟨Nat.le_of_ble_eq_true rfl, Nat.le_of_ble_eq_true rfl⟩ ⟨Nat.le_of_ble_eq_true rfl, Nat.le_of_ble_eq_true rfl⟩ rfl (Nat.le_of_ble_eq_true rfl) ?_
    change KW x 1 6 Q σ_1 5 [some (kr 0), some (ki x1), some (ki x2)] []
    refine kw_iload_n C (kdec dc_P_person 3 rfl) rfl 6 rfl rfl ?_
    refine kw_bipush (v := 10) C (kdec dc_P_person 4 rfl) 8 rfl (by decide) ⟨by decide, by decide⟩ ?_
    refine kw_icmp_lt C (kdec dc_P_person 5 rfl) 38 11 (by decide) rfl (fun hc8 => ?_) (fun hc8 => ?_)
    · rw [if_pos hc8] at h
      exact kw_widen (by decide) (by decide) (bd_pf_P_person_0_j38 C hT hfl σ_1 x1 x2 h hR hE)
    · rw [if_neg hc8] at h
      refine kw_iload_n C (kdec dc_P_person 6 rfl) rfl 12 rfl rfl ?_
      refine kw_bipush (v := 10) C (kdec dc_P_person 7 rfl) 14 rfl (by decide) ⟨by decide, by decide⟩ ?_
      refine kw_isub C (kdec dc_P_person 8 rfl) 15 rfl ?_
      refine kw_aload_n C (kdec dc_P_person 9 rfl) rfl 16 rfl rfl ?_
      refine kw_getR C (kdec dc_P_person 10 rfl) 19 rfl fd_C_P_27_0 ?_
      refine kw_getI C (kdec dc_P_person 11 rfl) 22 rfl fd_C_P_113_3 ?_
      refine kw_icmp_ge C (kdec dc_P_person 12 rfl) 38 25 (by decide) rfl (fun hc22 => ?_) (fun hc22 => ?_)
      · rw [if_pos hc22] at h
        exact kw_widen (by decide) (by decide) (bd_pf_P_person_0_j38 C hT hfl σ_1 x1 x2 h hR hE)
      · rw [if_neg hc22] at h
        refine kw_aload_n C (kdec dc_P_person 13 rfl) rfl 26 rfl rfl ?_
        refine kw_getR C (kdec dc_P_person 14 rfl) 29 rfl fd_C_P_27_0 ?_
        refine kw_iload_n C (kdec dc_P_person 15 rfl) rfl 30 rfl rfl ?_
        refine kw_iload_n C (kdec dc_P_person 16 rfl) rfl 31 rfl rfl ?_
        refine kw_bipush (v := 10) C (kdec dc_P_person 17 rfl) 33 rfl (by decide) ⟨by decide, by decide⟩ ?_
        refine kw_isub C (kdec dc_P_person 18 rfl) 34 rfl ?_
        obtain ⟨r_10, hg_11, h⟩ := kbind_h h
        refine kw_callV (As := [ki x1, ki (w32 (x2 - 10))]) C (kdec dc_P_person 19 rfl) 37 rfl cv_P_151 rfl rfl (mt_pf_Law_truthOf_3 l0 hg_11) ⟨rfl, rfl⟩ ⟨Nat.le_of_ble_eq_true rfl, Nat.le_of_ble_eq_true rfl⟩ ⟨Nat.le_of_ble_eq_true rfl, Nat.le_of_ble_eq_true rfl⟩ rfl (Nat.le_of_ble_eq_true rfl) ?_
        change KW x 1 6 Q σ_1 37 [some (kr 0), some (ki x1), some (ki x2)] [ki r_10]
        obtain rfl := Option.some.inj h
        exact kw_Q (hR _ _ rfl) (kw_xret (by decide) (by decide) (kw_ireturn C (kdec dc_P_person 20 rfl)))
theorem mx_pf_P_person_0 (l0 : Launch) (hfl : l0.stackTraces = false) {σ : kM} {x1 : Int} {x2 : Int} {r : Int} {τ : kM} (h : pf_P_person_0 σ x1 x2 = some (.inr r, τ)) : kXet l0 ky_P_person prog_1_method_6_code 3 (some .int) R0_pf_P_person_0 kcl yC σ [kr 0, ki x1, ki x2] (.inr (some (ki r))) τ 2 12 := kXet.of [some (kr 0), some (ki x1), some (ki x2)] (by decide) (Nat.le_of_ble_eq_true rfl) ⟨rfl, rfl, rfl, trivial⟩ (fun x C hT => bd_pf_P_person_0 C hT hfl σ x1 x2 h (fun r τ e => by cases e; rfl) (fun E τ e => by cases e))
theorem me_pf_P_person_0 (l0 : Launch) (hfl : l0.stackTraces = false) {σ : kM} {x1 : Int} {x2 : Int} {E : String} {τ : kM} (h : pf_P_person_0 σ x1 x2 = some (.inl E, τ)) : kXet l0 ky_P_person prog_1_method_6_code 3 (some .int) R0_pf_P_person_0 kcl yC σ [kr 0, ki x1, ki x2] (.inl E) τ 2 12 := kXet.of [some (kr 0), some (ki x1), some (ki x2)] (by decide) (Nat.le_of_ble_eq_true rfl) ⟨rfl, rfl, rfl, trivial⟩ (fun x C hT => bd_pf_P_person_0 C hT hfl σ x1 x2 h (fun r τ e => by cases e) (fun E τ e => by cases e; rfl))
def R0_pf_P_needPoet_0 : Room := ({ frames := 6, cells := 1, slots := 6, locals := 100 } : Room)
def pf_P_needPoet_0 (σ : kM) (x1 : Int) : Option ((String ⊕ Unit) × kM) :=
  if x1 < 0 then
    some (.inl "java/util/NoSuchElementException", σ)
  else
    if x1 < (σ 3 2) then
      some ((.inr (), σ))
    else
      some (.inl "java/util/NoSuchElementException", σ)
set_option maxHeartbeats 4000000 in
theorem bd_pf_P_needPoet_0 {x : kX} {l0 : Launch} {Q : State → Prop} (C : kCx x prog_1_method_43_code "PoetFines" none kcl yC 2 l0 R0_pf_P_needPoet_0) (hT : kTb x) (hfl : l0.stackTraces = false) (σ : kM) (x1 : Int) {out : (String ⊕ Unit) × kM} (h : pf_P_needPoet_0 σ x1 = some out) (hR : ∀ (τ : kM), out = (.inr (), τ) → Q = kQX x (.inr none) τ 1 6) (hE : ∀ (E : String) (τ : kM), out = (.inl E, τ) → Q = kQX x (.inl E) τ 1 6) : KW x 0 0 Q σ 0 [some (kr 0), some (ki x1)] [] := by
  unfold pf_P_needPoet_0 at h
  refine kw_iload_n C (kdec dc_P_needPoet 0 rfl) rfl 1 rfl rfl ?_
  refine kw_if_lt C (kdec dc_P_needPoet 1 rfl) 15 4 (by decide) rfl (fun hc1 => ?_) (fun hc1 => ?_)
  · rw [if_pos hc1] at h
    obtain rfl := Option.some.inj h
    exact kw_Q (hE _ _ rfl) (kw_throwW C hT hfl th_P_342_147 (kdec dc_P_needPoet 7 rfl) (kdec dc_P_needPoet 8 rfl) (kdec dc_P_needPoet 9 rfl) (kdec dc_P_needPoet 10 rfl) (kdec dc_P_needPoet 11 rfl) (Nat.le_of_ble_eq_true rfl) ⟨Nat.le_of_ble_eq_true rfl, Nat.le_of_ble_eq_true rfl, Nat.le_of_ble_eq_true rfl, Nat.le_of_ble_eq_true rfl⟩ (Nat.le_of_ble_eq_true rfl) (Nat.le_of_ble_eq_true rfl))
  · rw [if_neg hc1] at h
    refine kw_iload_n C (kdec dc_P_needPoet 2 rfl) rfl 5 rfl rfl ?_
    refine kw_aload_n C (kdec dc_P_needPoet 3 rfl) rfl 6 rfl rfl ?_
    refine kw_getR C (kdec dc_P_needPoet 4 rfl) 9 rfl fd_C_P_27_0 ?_
    refine kw_getI C (kdec dc_P_needPoet 5 rfl) 12 rfl fd_C_P_119_3 ?_
    refine kw_icmp_lt C (kdec dc_P_needPoet 6 rfl) 26 15 (by decide) rfl (fun hc12 => ?_) (fun hc12 => ?_)
    · rw [if_pos hc12] at h
      obtain rfl := Option.some.inj h
      exact kw_Q (hR _ rfl) (kw_xret (by decide) (by decide) (kw_return C (kdec dc_P_needPoet 12 rfl)))
    · rw [if_neg hc12] at h
      obtain rfl := Option.some.inj h
      exact kw_Q (hE _ _ rfl) (kw_throwW C hT hfl th_P_342_147 (kdec dc_P_needPoet 7 rfl) (kdec dc_P_needPoet 8 rfl) (kdec dc_P_needPoet 9 rfl) (kdec dc_P_needPoet 10 rfl) (kdec dc_P_needPoet 11 rfl) (Nat.le_of_ble_eq_true rfl) ⟨Nat.le_of_ble_eq_true rfl, Nat.le_of_ble_eq_true rfl, Nat.le_of_ble_eq_true rfl, Nat.le_of_ble_eq_true rfl⟩ (Nat.le_of_ble_eq_true rfl) (Nat.le_of_ble_eq_true rfl))
theorem mx_pf_P_needPoet_0 (l0 : Launch) (hfl : l0.stackTraces = false) {σ : kM} {x1 : Int} {τ : kM} (h : pf_P_needPoet_0 σ x1 = some (.inr (), τ)) : kXet l0 ky_P_needPoet prog_1_method_43_code 2 none R0_pf_P_needPoet_0 kcl yC σ [kr 0, ki x1] (.inr none) τ 1 6 := kXet.of [some (kr 0), some (ki x1)] (by decide) (Nat.le_of_ble_eq_true rfl) ⟨rfl, rfl, trivial⟩ (fun x C hT => bd_pf_P_needPoet_0 C hT hfl σ x1 h (fun τ e => by cases e; rfl) (fun E τ e => by cases e))
theorem me_pf_P_needPoet_0 (l0 : Launch) (hfl : l0.stackTraces = false) {σ : kM} {x1 : Int} {E : String} {τ : kM} (h : pf_P_needPoet_0 σ x1 = some (.inl E, τ)) : kXet l0 ky_P_needPoet prog_1_method_43_code 2 none R0_pf_P_needPoet_0 kcl yC σ [kr 0, ki x1] (.inl E) τ 1 6 := kXet.of [some (kr 0), some (ki x1)] (by decide) (Nat.le_of_ble_eq_true rfl) ⟨rfl, rfl, trivial⟩ (fun x C hT => bd_pf_P_needPoet_0 C hT hfl σ x1 h (fun τ e => by cases e) (fun E τ e => by cases e; rfl))
def R0_pf_Law_topicOf_3 : Room := ({ frames := 0, cells := 0, slots := 0, locals := 0 } : Room)
def pf_Law_topicOf_3 (σ : kM) (x1 : Int) (x2 : Int) : Option (Int) :=
  kchk (0 ≤ (w32 ((w32 (x1 * 6)) + x2)) ∧ (w32 ((w32 (x1 * 6)) + x2)) < 24) <|
  some (σ 6 (w32 ((w32 (x1 * 6)) + x2)).toNat)
set_option maxHeartbeats 4000000 in
theorem bd_pf_Law_topicOf_3 {x : kX} {l0 : Launch} {Q : State → Prop} (C : kCx x prog_4_method_7_code "PoetFines$Law" (some .int) kcl yC 3 l0 R0_pf_Law_topicOf_3) (σ : kM) (x1 : Int) (x2 : Int) {out : Int} (h : pf_Law_topicOf_3 σ x1 x2 = some out) (hR : ∀ (r : Int), out = r → Q = kQ x (some (ki r)) σ 0 0) : KW x 0 0 Q σ 0 [some (kr 3), some (ki x1), some (ki x2)] [] := by
  unfold pf_Law_topicOf_3 at h
  refine kw_aload_n C (kdec dc_Law_topicOf 0 rfl) rfl 1 rfl rfl ?_
  refine kw_getR C (kdec dc_Law_topicOf 1 rfl) 4 rfl fd_C_Law_28_3 ?_
  refine kw_iload_n C (kdec dc_Law_topicOf 2 rfl) rfl 5 rfl rfl ?_
  refine kw_bipush (v := 6) C (kdec dc_Law_topicOf 3 rfl) 7 rfl (by decide) ⟨by decide, by decide⟩ ?_
  refine kw_imul C (kdec dc_Law_topicOf 4 rfl) 8 rfl ?_
  refine kw_iload_n C (kdec dc_Law_topicOf 5 rfl) rfl 9 rfl rfl ?_
  refine kw_iadd C (kdec dc_Law_topicOf 6 rfl) 10 rfl ?_
  obtain ⟨hc_1, h⟩ := kchk_h h
  refine kw_iald C (kdec dc_Law_topicOf 7 rfl) 11 rfl rfl hc_1.1 hc_1.2 ?_
  obtain rfl := Option.some.inj h
  exact kw_Q (hR _ rfl) (kw_ireturn C (kdec dc_Law_topicOf 8 rfl))
theorem mt_pf_Law_topicOf_3 (l0 : Launch) {σ : kM} {x1 : Int} {x2 : Int} {r : Int} (h : pf_Law_topicOf_3 σ x1 x2 = some r) : kMet l0 ky_Law_topicOf prog_4_method_7_code 3 (some .int) R0_pf_Law_topicOf_3 kcl yC σ [kr 3, ki x1, ki x2] (some (ki r)) σ := kMet.of' [some (kr 3), some (ki x1), some (ki x2)] (by decide) (Nat.le_of_ble_eq_true rfl) ⟨rfl, rfl, rfl, trivial⟩ (fun x C => bd_pf_Law_topicOf_3 C σ x1 x2 h (fun r e => by subst e; rfl))
def R0_pf_World_depthOf_30 : Room := ({ frames := 0, cells := 0, slots := 0, locals := 0 } : Room)
def pf_World_depthOf_30 (σ : kM) (x1 : Int) (x2 : Int) : Option (Int) :=
  kchk (0 ≤ (w32 ((w32 (61 + (w32 (x1 * 6)))) + x2)) ∧ (w32 ((w32 (61 + (w32 (x1 * 6)))) + x2)) < 85) <|
  some (σ 31 (w32 ((w32 (61 + (w32 (x1 * 6)))) + x2)).toNat)
set_option maxHeartbeats 4000000 in
theorem bd_pf_World_depthOf_30 {x : kX} {l0 : Launch} {Q : State → Prop} (C : kCx x prog_12_method_4_code "PoetFines$World" (some .int) kcl yC 3 l0 R0_pf_World_depthOf_30) (σ : kM) (x1 : Int) (x2 : Int) {out : Int} (h : pf_World_depthOf_30 σ x1 x2 = some out) (hR : ∀ (r : Int), out = r → Q = kQ x (some (ki r)) σ 0 0) : KW x 0 0 Q σ 0 [some (kr 30), some (ki x1), some (ki x2)] [] := by
  unfold pf_World_depthOf_30 at h
  refine kw_aload_n C (kdec dc_World_depthOf 0 rfl) rfl 1 rfl rfl ?_
  refine kw_getR C (kdec dc_World_depthOf 1 rfl) 4 rfl fd_C_World_11_30 ?_
  refine kw_bipush (v := 61) C (kdec dc_World_depthOf 2 rfl) 6 rfl (by decide) ⟨by decide, by decide⟩ ?_
  refine kw_iload_n C (kdec dc_World_depthOf 3 rfl) rfl 7 rfl rfl ?_
  refine kw_bipush (v := 6) C (kdec dc_World_depthOf 4 rfl) 9 rfl (by decide) ⟨by decide, by decide⟩ ?_
  refine kw_imul C (kdec dc_World_depthOf 5 rfl) 10 rfl ?_
  refine kw_iadd C (kdec dc_World_depthOf 6 rfl) 11 rfl ?_
  refine kw_iload_n C (kdec dc_World_depthOf 7 rfl) rfl 12 rfl rfl ?_
  refine kw_iadd C (kdec dc_World_depthOf 8 rfl) 13 rfl ?_
  obtain ⟨hc_1, h⟩ := kchk_h h
  refine kw_iald C (kdec dc_World_depthOf 9 rfl) 14 rfl rfl hc_1.1 hc_1.2 ?_
  obtain rfl := Option.some.inj h
  exact kw_Q (hR _ rfl) (kw_ireturn C (kdec dc_World_depthOf 10 rfl))
theorem mt_pf_World_depthOf_30 (l0 : Launch) {σ : kM} {x1 : Int} {x2 : Int} {r : Int} (h : pf_World_depthOf_30 σ x1 x2 = some r) : kMet l0 ky_World_depthOf prog_12_method_4_code 3 (some .int) R0_pf_World_depthOf_30 kcl yC σ [kr 30, ki x1, ki x2] (some (ki r)) σ := kMet.of' [some (kr 30), some (ki x1), some (ki x2)] (by decide) (Nat.le_of_ble_eq_true rfl) ⟨rfl, rfl, rfl, trivial⟩ (fun x C => bd_pf_World_depthOf_30 C σ x1 x2 h (fun r e => by subst e; rfl))
def R0_pf_Rules_has_7 : Room := ({ frames := 0, cells := 0, slots := 0, locals := 0 } : Room)
def pf_Rules_has_7 (σ : kM) (x1 : Int) : Option (Int) :=
  kchk (0 ≤ x1 ∧ x1 < 3) <|
  kchk (0 ≤ x1 ∧ x1 < 3) <|
  if (σ 10 x1.toNat) ≤ (σ 9 x1.toNat) then
    some 0
  else
    some 1
set_option maxHeartbeats 4000000 in
theorem bd_pf_Rules_has_7 {x : kX} {l0 : Launch} {Q : State → Prop} (C : kCx x prog_7_method_4_code "PoetFines$Rules" (some .boolean) kcl yC 2 l0 R0_pf_Rules_has_7) (σ : kM) (x1 : Int) {out : Int} (h : pf_Rules_has_7 σ x1 = some out) (hR : ∀ (r : Int), out = r → Q = kQ x (some (ki r)) σ 0 0) : KW x 0 0 Q σ 0 [some (kr 7), some (ki x1)] [] := by
  unfold pf_Rules_has_7 at h
  refine kw_aload_n C (kdec dc_Rules_has 0 rfl) rfl 1 rfl rfl ?_
  refine kw_getR C (kdec dc_Rules_has 1 rfl) 4 rfl fd_C_Rules_22_7 ?_
  refine kw_iload_n C (kdec dc_Rules_has 2 rfl) rfl 5 rfl rfl ?_
  obtain ⟨hc_1, h⟩ := kchk_h h
  refine kw_iald C (kdec dc_Rules_has 3 rfl) 6 rfl rfl hc_1.1 hc_1.2 ?_
  refine kw_aload_n C (kdec dc_Rules_has 4 rfl) rfl 7 rfl rfl ?_
  refine kw_getR C (kdec dc_Rules_has 5 rfl) 10 rfl fd_C_Rules_19_7 ?_
  refine kw_iload_n C (kdec dc_Rules_has 6 rfl) rfl 11 rfl rfl ?_
  obtain ⟨hc_2, h⟩ := kchk_h h
  refine kw_iald C (kdec dc_Rules_has 7 rfl) 12 rfl rfl hc_2.1 hc_2.2 ?_
  refine kw_icmp_le C (kdec dc_Rules_has 8 rfl) 19 15 (by decide) rfl (fun hc12 => ?_) (fun hc12 => ?_)
  · rw [if_pos hc12] at h
    refine kw_iconst C (kdec dc_Rules_has 11 rfl) 20 rfl rfl ⟨by decide, by decide⟩ ?_
    obtain rfl := Option.some.inj h
    exact kw_Q (hR _ rfl) (kw_zreturn C (kdec dc_Rules_has 12 rfl) (by decide))
  · rw [if_neg hc12] at h
    refine kw_iconst C (kdec dc_Rules_has 9 rfl) 16 rfl rfl ⟨by decide, by decide⟩ ?_
    refine kw_goto C (kdec dc_Rules_has 10 rfl) 20 (by decide) ?_
    obtain rfl := Option.some.inj h
    exact kw_Q (hR _ rfl) (kw_zreturn C (kdec dc_Rules_has 12 rfl) (by decide))
theorem mt_pf_Rules_has_7 (l0 : Launch) {σ : kM} {x1 : Int} {r : Int} (h : pf_Rules_has_7 σ x1 = some r) : kMet l0 ky_Rules_has prog_7_method_4_code 2 (some .boolean) R0_pf_Rules_has_7 kcl yC σ [kr 7, ki x1] (some (ki r)) σ := kMet.of' [some (kr 7), some (ki x1)] (by decide) (Nat.le_of_ble_eq_true rfl) ⟨rfl, rfl, trivial⟩ (fun x C => bd_pf_Rules_has_7 C σ x1 h (fun r e => by subst e; rfl))
def R0_pf_Stage_setValues_43 : Room := ({ frames := 1, cells := 0, slots := 0, locals := 22 } : Room)
def pf_Stage_setValues_43 (σ : kM) (x1 : Int) (x2 : Int) (x3 : Int) : Option (kM) :=
  kchk (0 ≤ (w32 (9 + x2)) ∧ (w32 (9 + x2)) < 85) <|
  klet (kst σ 49 (kup (σ 49) ((0 : Int).toNat) (σ 31 (w32 (9 + x2)).toNat))) fun σ_2 =>
  klet (kst σ_2 49 (kup (σ_2 49) ((1 : Int).toNat) x3)) fun σ_3 =>
  (pf_World_hitsBy_30 σ_3 x1 x2).bind fun r_4 =>
  klet (kst σ_3 49 (kup (σ_3 49) ((2 : Int).toNat) r_4)) fun σ_5 =>
  klet (kst σ_5 49 (kup (σ_5 49) ((3 : Int).toNat) (σ_5 31 (0 : Int).toNat))) fun σ_6 =>
  some σ_6
set_option maxHeartbeats 4000000 in
theorem bd_pf_Stage_setValues_43 {x : kX} {l0 : Launch} {Q : State → Prop} (C : kCx x prog_8_method_11_code "PoetFines$Stage" none kcl yC 4 l0 R0_pf_Stage_setValues_43) (σ : kM) (x1 : Int) (x2 : Int) (x3 : Int) {out : kM} (h : pf_Stage_setValues_43 σ x1 x2 x3 = some out) (hR : ∀ (τ : kM), out = τ → Q = kQ x none τ 0 0) : KW x 0 0 Q σ 0 [some (kr 43), some (ki x1), some (ki x2), some (ki x3)] [] := by
  unfold pf_Stage_setValues_43 at h
  refine kw_aload_n C (kdec dc_Stage_setValues 0 rfl) rfl 1 rfl rfl ?_
  refine kw_getR C (kdec dc_Stage_setValues 1 rfl) 4 rfl fd_C_Stage_20_43 ?_
  refine kw_iconst C (kdec dc_Stage_setValues 2 rfl) 5 rfl rfl ⟨by decide, by decide⟩ ?_
  refine kw_aload_n C (kdec dc_Stage_setValues 3 rfl) rfl 6 rfl rfl ?_
  refine kw_getR C (kdec dc_Stage_setValues 4 rfl) 9 rfl fd_C_Stage_28_43 ?_
  refine kw_getR C (kdec dc_Stage_setValues 5 rfl) 12 rfl fd_C_Stage_51_30 ?_
  refine kw_bipush (v := 9) C (kdec dc_Stage_setValues 6 rfl) 14 rfl (by decide) ⟨by decide, by decide⟩ ?_
  refine kw_iload_n C (kdec dc_Stage_setValues 7 rfl) rfl 15 rfl rfl ?_
  refine kw_iadd C (kdec dc_Stage_setValues 8 rfl) 16 rfl ?_
  obtain ⟨hc_1, h⟩ := kchk_h h
  refine kw_iald C (kdec dc_Stage_setValues 9 rfl) 17 rfl rfl hc_1.1 hc_1.2 ?_
  obtain ⟨σ_2, eσ_2, h⟩ := klet_h h
  refine kw_iast C (kdec dc_Stage_setValues 10 rfl) 18 rfl rfl (by decide) (by decide) ?_
  refine kw_sig eσ_2 ?_
  refine kw_aload_n C (kdec dc_Stage_setValues 11 rfl) rfl 19 rfl rfl ?_
  refine kw_getR C (kdec dc_Stage_setValues 12 rfl) 22 rfl fd_C_Stage_20_43 ?_
  refine kw_iconst C (kdec dc_Stage_setValues 13 rfl) 23 rfl rfl ⟨by decide, by decide⟩ ?_
  refine kw_iload_n C (kdec dc_Stage_setValues 14 rfl) rfl 24 rfl rfl ?_
  obtain ⟨σ_3, eσ_3, h⟩ := klet_h h
  refine kw_iast C (kdec dc_Stage_setValues 15 rfl) 25 rfl rfl (by decide) (by decide) ?_
  refine kw_sig eσ_3 ?_
  refine kw_aload_n C (kdec dc_Stage_setValues 16 rfl) rfl 26 rfl rfl ?_
  refine kw_getR C (kdec dc_Stage_setValues 17 rfl) 29 rfl fd_C_Stage_20_43 ?_
  refine kw_iconst C (kdec dc_Stage_setValues 18 rfl) 30 rfl rfl ⟨by decide, by decide⟩ ?_
  refine kw_aload_n C (kdec dc_Stage_setValues 19 rfl) rfl 31 rfl rfl ?_
  refine kw_getR C (kdec dc_Stage_setValues 20 rfl) 34 rfl fd_C_Stage_28_43 ?_
  refine kw_iload_n C (kdec dc_Stage_setValues 21 rfl) rfl 35 rfl rfl ?_
  refine kw_iload_n C (kdec dc_Stage_setValues 22 rfl) rfl 36 rfl rfl ?_
  obtain ⟨r_4, hg_7, h⟩ := kbind_h h
  refine kw_callV (As := [ki x1, ki x2]) C (kdec dc_Stage_setValues 23 rfl) 39 rfl cv_Stage_136 rfl rfl (mt_pf_World_hitsBy_30 l0 hg_7) ⟨rfl, rfl⟩ ⟨Nat.le_of_ble_eq_true rfl, Nat.le_of_ble_eq_true rfl⟩ ⟨Nat.zero_le _, Nat.zero_le _⟩ rfl (Nat.le_of_ble_eq_true rfl) ?_
  change KW x 0 0 Q σ_3 39 [some (kr 43), some (ki x1), some (ki x2), some (ki x3)] [ki r_4, ki 2, kr 49]
  obtain ⟨σ_5, eσ_5, h⟩ := klet_h h
  refine kw_iast C (kdec dc_Stage_setValues 24 rfl) 40 rfl rfl (by decide) (by decide) ?_
  refine kw_sig eσ_5 ?_
  refine kw_aload_n C (kdec dc_Stage_setValues 25 rfl) rfl 41 rfl rfl ?_
  refine kw_getR C (kdec dc_Stage_setValues 26 rfl) 44 rfl fd_C_Stage_20_43 ?_
  refine kw_iconst C (kdec dc_Stage_setValues 27 rfl) 45 rfl rfl ⟨by decide, by decide⟩ ?_
  refine kw_aload_n C (kdec dc_Stage_setValues 28 rfl) rfl 46 rfl rfl ?_
  refine kw_getR C (kdec dc_Stage_setValues 29 rfl) 49 rfl fd_C_Stage_28_43 ?_
  refine kw_getR C (kdec dc_Stage_setValues 30 rfl) 52 rfl fd_C_Stage_51_30 ?_
  refine kw_iconst C (kdec dc_Stage_setValues 31 rfl) 53 rfl rfl ⟨by decide, by decide⟩ ?_
  refine kw_iald C (kdec dc_Stage_setValues 32 rfl) 54 rfl rfl (by decide) (by decide) ?_
  obtain ⟨σ_6, eσ_6, h⟩ := klet_h h
  refine kw_iast C (kdec dc_Stage_setValues 33 rfl) 55 rfl rfl (by decide) (by decide) ?_
  refine kw_sig eσ_6 ?_
  obtain rfl := Option.some.inj h
  exact kw_Q (hR _ rfl) (kw_return C (kdec dc_Stage_setValues 34 rfl))
theorem mt_pf_Stage_setValues_43 (l0 : Launch) {σ : kM} {x1 : Int} {x2 : Int} {x3 : Int} {τ : kM} (h : pf_Stage_setValues_43 σ x1 x2 x3 = some τ) : kMet l0 ky_Stage_setValues prog_8_method_11_code 4 none R0_pf_Stage_setValues_43 kcl yC σ [kr 43, ki x1, ki x2, ki x3] none τ := kMet.of' [some (kr 43), some (ki x1), some (ki x2), some (ki x3)] (by decide) (Nat.le_of_ble_eq_true rfl) ⟨rfl, rfl, rfl, rfl, trivial⟩ (fun x C => bd_pf_Stage_setValues_43 C σ x1 x2 x3 h (fun τ e => by subst e; rfl))
def R0_pf_Rules_combined : Room := ({ frames := 0, cells := 0, slots := 0, locals := 0 } : Room)
def pf_Rules_combined (σ : kM) (x0 : Int) (x1 : Int) (x2 : Int) : Option (Int) :=
  if x0 = (-16) then
    some (w32 (x1 * x2))
  else
    if x0 = (-15) then
      some (w32 (x1 - x2))
    else
      if x0 = (-14) then
        some (w32 (x1 + x2))
      else
        if x0 = (-13) then
          if x1 = x2 then
            some 1
          else
            some 0
        else
          if x0 = (-12) then
            if x2 ≤ x1 then
              some 0
            else
              some 1
          else
            if x0 = (-11) then
              if x1 = 0 then
                some 0
              else
                if x2 = 0 then
                  some 0
                else
                  some 1
            else
              if x0 = (-10) then
                if x1 = 0 then
                  if x2 = 0 then
                    some 0
                  else
                    some 1
                else
                  some 1
              else
                if x2 = 0 then
                  some 0
                else
                  kchk (¬ x2 = 0) <|
                  some (kdiv x1 x2)
set_option maxHeartbeats 4000000 in
theorem bd_pf_Rules_combined {x : kX} {l0 : Launch} {Q : State → Prop} (C : kCx x prog_7_method_10_code "PoetFines$Rules" (some .int) kcl yC 3 l0 R0_pf_Rules_combined) (σ : kM) (x0 : Int) (x1 : Int) (x2 : Int) {out : Int} (h : pf_Rules_combined σ x0 x1 x2 = some out) (hR : ∀ (r : Int), out = r → Q = kQ x (some (ki r)) σ 0 0) : KW x 0 0 Q σ 0 [some (ki x0), some (ki x1), some (ki x2)] [] := by
  unfold pf_Rules_combined at h
  refine kw_iload_n C (kdec dc_Rules_combined 0 rfl) rfl 1 rfl rfl ?_
  by_cases hc1_0 : x0 = (-16)
  · rw [if_pos hc1_0] at h
    refine kw_table C (kdec dc_Rules_combined 1 rfl) 102 (Or.inr ⟨by omega, by omega, _, by rw [hc1_0]; rfl, by decide⟩) ?_
    refine kw_iload_n C (kdec dc_Rules_combined 40 rfl) rfl 103 rfl rfl ?_
    refine kw_iload_n C (kdec dc_Rules_combined 41 rfl) rfl 104 rfl rfl ?_
    refine kw_imul C (kdec dc_Rules_combined 42 rfl) 105 rfl ?_
    obtain rfl := Option.some.inj h
    exact kw_Q (hR _ rfl) (kw_ireturn C (kdec dc_Rules_combined 43 rfl))
  · rw [if_neg hc1_0] at h
    by_cases hc1_1 : x0 = (-15)
    · rw [if_pos hc1_1] at h
      refine kw_table C (kdec dc_Rules_combined 1 rfl) 98 (Or.inr ⟨by omega, by omega, _, by rw [hc1_1]; rfl, by decide⟩) ?_
      refine kw_iload_n C (kdec dc_Rules_combined 36 rfl) rfl 99 rfl rfl ?_
      refine kw_iload_n C (kdec dc_Rules_combined 37 rfl) rfl 100 rfl rfl ?_
      refine kw_isub C (kdec dc_Rules_combined 38 rfl) 101 rfl ?_
      obtain rfl := Option.some.inj h
      exact kw_Q (hR _ rfl) (kw_ireturn C (kdec dc_Rules_combined 39 rfl))
    · rw [if_neg hc1_1] at h
      by_cases hc1_2 : x0 = (-14)
      · rw [if_pos hc1_2] at h
        refine kw_table C (kdec dc_Rules_combined 1 rfl) 94 (Or.inr ⟨by omega, by omega, _, by rw [hc1_2]; rfl, by decide⟩) ?_
        refine kw_iload_n C (kdec dc_Rules_combined 32 rfl) rfl 95 rfl rfl ?_
        refine kw_iload_n C (kdec dc_Rules_combined 33 rfl) rfl 96 rfl rfl ?_
        refine kw_iadd C (kdec dc_Rules_combined 34 rfl) 97 rfl ?_
        obtain rfl := Option.some.inj h
        exact kw_Q (hR _ rfl) (kw_ireturn C (kdec dc_Rules_combined 35 rfl))
      · rw [if_neg hc1_2] at h
        by_cases hc1_3 : x0 = (-13)
        · rw [if_pos hc1_3] at h
          refine kw_table C (kdec dc_Rules_combined 1 rfl) 83 (Or.inr ⟨by omega, by omega, _, by rw [hc1_3]; rfl, by decide⟩) ?_
          refine kw_iload_n C (kdec dc_Rules_combined 25 rfl) rfl 84 rfl rfl ?_
          refine kw_iload_n C (kdec dc_Rules_combined 26 rfl) rfl 85 rfl rfl ?_
          refine kw_icmp_ne C (kdec dc_Rules_combined 27 rfl) 92 88 (by decide) rfl (fun hc85 => ?_) (fun hc85 => ?_)
          · rw [if_neg hc85] at h
            refine kw_iconst C (kdec dc_Rules_combined 30 rfl) 93 rfl rfl ⟨by decide, by decide⟩ ?_
            obtain rfl := Option.some.inj h
            exact kw_Q (hR _ rfl) (kw_ireturn C (kdec dc_Rules_combined 31 rfl))
          · rw [if_pos hc85] at h
            refine kw_iconst C (kdec dc_Rules_combined 28 rfl) 89 rfl rfl ⟨by decide, by decide⟩ ?_
            refine kw_goto C (kdec dc_Rules_combined 29 rfl) 93 (by decide) ?_
            obtain rfl := Option.some.inj h
            exact kw_Q (hR _ rfl) (kw_ireturn C (kdec dc_Rules_combined 31 rfl))
        · rw [if_neg hc1_3] at h
          by_cases hc1_4 : x0 = (-12)
          · rw [if_pos hc1_4] at h
            refine kw_table C (kdec dc_Rules_combined 1 rfl) 72 (Or.inr ⟨by omega, by omega, _, by rw [hc1_4]; rfl, by decide⟩) ?_
            refine kw_iload_n C (kdec dc_Rules_combined 18 rfl) rfl 73 rfl rfl ?_
            refine kw_iload_n C (kdec dc_Rules_combined 19 rfl) rfl 74 rfl rfl ?_
            refine kw_icmp_ge C (kdec dc_Rules_combined 20 rfl) 81 77 (by decide) rfl (fun hc74 => ?_) (fun hc74 => ?_)
            · rw [if_pos hc74] at h
              refine kw_iconst C (kdec dc_Rules_combined 23 rfl) 82 rfl rfl ⟨by decide, by decide⟩ ?_
              obtain rfl := Option.some.inj h
              exact kw_Q (hR _ rfl) (kw_ireturn C (kdec dc_Rules_combined 24 rfl))
            · rw [if_neg hc74] at h
              refine kw_iconst C (kdec dc_Rules_combined 21 rfl) 78 rfl rfl ⟨by decide, by decide⟩ ?_
              refine kw_goto C (kdec dc_Rules_combined 22 rfl) 82 (by decide) ?_
              obtain rfl := Option.some.inj h
              exact kw_Q (hR _ rfl) (kw_ireturn C (kdec dc_Rules_combined 24 rfl))
          · rw [if_neg hc1_4] at h
            by_cases hc1_5 : x0 = (-11)
            · rw [if_pos hc1_5] at h
              refine kw_table C (kdec dc_Rules_combined 1 rfl) 58 (Or.inr ⟨by omega, by omega, _, by rw [hc1_5]; rfl, by decide⟩) ?_
              refine kw_iload_n C (kdec dc_Rules_combined 10 rfl) rfl 59 rfl rfl ?_
              refine kw_if_eq C (kdec dc_Rules_combined 11 rfl) 70 62 (by decide) rfl (fun hc59 => ?_) (fun hc59 => ?_)
              · rw [if_pos hc59] at h
                refine kw_iconst C (kdec dc_Rules_combined 16 rfl) 71 rfl rfl ⟨by decide, by decide⟩ ?_
                obtain rfl := Option.some.inj h
                exact kw_Q (hR _ rfl) (kw_ireturn C (kdec dc_Rules_combined 17 rfl))
              · rw [if_neg hc59] at h
                refine kw_iload_n C (kdec dc_Rules_combined 12 rfl) rfl 63 rfl rfl ?_
                refine kw_if_eq C (kdec dc_Rules_combined 13 rfl) 70 66 (by decide) rfl (fun hc63 => ?_) (fun hc63 => ?_)
                · rw [if_pos hc63] at h
                  refine kw_iconst C (kdec dc_Rules_combined 16 rfl) 71 rfl rfl ⟨by decide, by decide⟩ ?_
                  obtain rfl := Option.some.inj h
                  exact kw_Q (hR _ rfl) (kw_ireturn C (kdec dc_Rules_combined 17 rfl))
                · rw [if_neg hc63] at h
                  refine kw_iconst C (kdec dc_Rules_combined 14 rfl) 67 rfl rfl ⟨by decide, by decide⟩ ?_
                  refine kw_goto C (kdec dc_Rules_combined 15 rfl) 71 (by decide) ?_
                  obtain rfl := Option.some.inj h
                  exact kw_Q (hR _ rfl) (kw_ireturn C (kdec dc_Rules_combined 17 rfl))
            · rw [if_neg hc1_5] at h
              by_cases hc1_6 : x0 = (-10)
              · rw [if_pos hc1_6] at h
                refine kw_table C (kdec dc_Rules_combined 1 rfl) 44 (Or.inr ⟨by omega, by omega, _, by rw [hc1_6]; rfl, by decide⟩) ?_
                refine kw_iload_n C (kdec dc_Rules_combined 2 rfl) rfl 45 rfl rfl ?_
                refine kw_if_ne C (kdec dc_Rules_combined 3 rfl) 52 48 (by decide) rfl (fun hc45 => ?_) (fun hc45 => ?_)
                · rw [if_neg hc45] at h
                  refine kw_iconst C (kdec dc_Rules_combined 6 rfl) 53 rfl rfl ⟨by decide, by decide⟩ ?_
                  refine kw_goto C (kdec dc_Rules_combined 7 rfl) 57 (by decide) ?_
                  obtain rfl := Option.some.inj h
                  exact kw_Q (hR _ rfl) (kw_ireturn C (kdec dc_Rules_combined 9 rfl))
                · rw [if_pos hc45] at h
                  refine kw_iload_n C (kdec dc_Rules_combined 4 rfl) rfl 49 rfl rfl ?_
                  refine kw_if_eq C (kdec dc_Rules_combined 5 rfl) 56 52 (by decide) rfl (fun hc49 => ?_) (fun hc49 => ?_)
                  · rw [if_pos hc49] at h
                    refine kw_iconst C (kdec dc_Rules_combined 8 rfl) 57 rfl rfl ⟨by decide, by decide⟩ ?_
                    obtain rfl := Option.some.inj h
                    exact kw_Q (hR _ rfl) (kw_ireturn C (kdec dc_Rules_combined 9 rfl))
                  · rw [if_neg hc49] at h
                    refine kw_iconst C (kdec dc_Rules_combined 6 rfl) 53 rfl rfl ⟨by decide, by decide⟩ ?_
                    refine kw_goto C (kdec dc_Rules_combined 7 rfl) 57 (by decide) ?_
                    obtain rfl := Option.some.inj h
                    exact kw_Q (hR _ rfl) (kw_ireturn C (kdec dc_Rules_combined 9 rfl))
              · rw [if_neg hc1_6] at h
                refine kw_table C (kdec dc_Rules_combined 1 rfl) 106 (Or.inl ⟨by omega, by decide⟩) ?_
                refine kw_iload_n C (kdec dc_Rules_combined 44 rfl) rfl 107 rfl rfl ?_
                refine kw_if_ne C (kdec dc_Rules_combined 45 rfl) 114 110 (by decide) rfl (fun hc107 => ?_) (fun hc107 => ?_)
                · rw [if_neg hc107] at h
                  refine kw_iload_n C (kdec dc_Rules_combined 48 rfl) rfl 115 rfl rfl ?_
                  refine kw_iload_n C (kdec dc_Rules_combined 49 rfl) rfl 116 rfl rfl ?_
                  obtain ⟨hc_1, h⟩ := kchk_h h
                  refine kw_idiv C (kdec dc_Rules_combined 50 rfl) 117 rfl hc_1 ?_
                  obtain rfl := Option.some.inj h
                  exact kw_Q (hR _ rfl) (kw_ireturn C (kdec dc_Rules_combined 51 rfl))
                · rw [if_pos hc107] at h
                  refine kw_iconst C (kdec dc_Rules_combined 46 rfl) 111 rfl rfl ⟨by decide, by decide⟩ ?_
                  refine kw_goto C (kdec dc_Rules_combined 47 rfl) 117 (by decide) ?_
                  obtain rfl := Option.some.inj h
                  exact kw_Q (hR _ rfl) (kw_ireturn C (kdec dc_Rules_combined 51 rfl))
theorem mt_pf_Rules_combined (l0 : Launch) {σ : kM} {x0 : Int} {x1 : Int} {x2 : Int} {r : Int} (h : pf_Rules_combined σ x0 x1 x2 = some r) : kMet l0 ky_Rules_combined prog_7_method_10_code 3 (some .int) R0_pf_Rules_combined kcl yC σ [ki x0, ki x1, ki x2] (some (ki r)) σ := kMet.of' [some (ki x0), some (ki x1), some (ki x2)] (by decide) (Nat.le_of_ble_eq_true rfl) ⟨rfl, rfl, rfl, trivial⟩ (fun x C => bd_pf_Rules_combined C σ x0 x1 x2 h (fun r e => by subst e; rfl))
def R0_pf_Rules_worth_7_49 : Room := ({ frames := 1, cells := 0, slots := 0, locals := 22 } : Room)
def pf_Rules_worth_7_49_l10_j144 (σ : kM) (x1 : Int) (x3 : Int) (x4 : Int) : Option ((kM × Int × Int) ⊕ ((kM × Int))) :=
  klet (w32 (x4 + 1)) fun x4_6 =>
  some (Sum.inl (σ, x3, x4_6))
set_option maxHeartbeats 4000000 in
theorem bd_pf_Rules_worth_7_49_l10_j144 {x : kX} {l0 : Launch} {Q : State → Prop} (C : kCx x prog_7_method_9_code "PoetFines$Rules" (some .int) kcl yC 6 l0 R0_pf_Rules_worth_7_49) (σ : kM) (x1 : Int) (x3 : Int) (x4 : Int) {out : (kM × Int × Int) ⊕ ((kM × Int))} (h : pf_Rules_worth_7_49_l10_j144 σ x1 x3 x4 = some out) (hC : ∀ (σ' : kM) (x3' : Int) (x4' : Int), out = Sum.inl (σ', x3', x4') → KW x 0 0 Q σ' 10 [some (kr 7), some (ki x1), some (kr 49), some (ki x3'), some (ki x4'), none] []) (hX150 : ∀ (σ' : kM) (x3' : Int), out = Sum.inr (σ', x3') → KW x 0 0 Q σ' 150 [some (kr 7), none, none, some (ki x3'), none, none] []) : KW x 0 0 Q σ 144 [some (kr 7), some (ki x1), some (kr 49), some (ki x3), some (ki x4), none] [] := by
  unfold pf_Rules_worth_7_49_l10_j144 at h
  obtain ⟨x4_6, ex4_6, h⟩ := klet_h h
  refine kw_iinc (L' := [some (kr 7), some (ki x1), some (kr 49), some (ki x3), some (ki x4_6), none]) C (kdec dc_Rules_worth 83 rfl) 147 rfl rfl (by decide) rfl (by rw [ex4_6]; rfl) ?_
  refine kw_goto C (kdec dc_Rules_worth 84 rfl) 10 (by decide) ?_
  obtain rfl := Option.some.inj h
  exact (hC _ _ _ rfl)
def pf_Rules_worth_7_49_l10_j105 (σ : kM) (x1 : Int) (x3 : Int) (x4 : Int) (s0 : Int) (s1 : Int) : Option ((kM × Int × Int) ⊕ ((kM × Int))) :=
  kchk (0 ≤ s1 ∧ s1 < 64) <|
  klet (kst σ 11 (kup (σ 11) s1.toNat s0)) fun σ_16 =>
  pf_Rules_worth_7_49_l10_j144 σ_16 x1 x3 x4
set_option maxHeartbeats 4000000 in
theorem bd_pf_Rules_worth_7_49_l10_j105 {x : kX} {l0 : Launch} {Q : State → Prop} (C : kCx x prog_7_method_9_code "PoetFines$Rules" (some .int) kcl yC 6 l0 R0_pf_Rules_worth_7_49) (σ : kM) (x1 : Int) (x3 : Int) (x4 : Int) (s0 : Int) (s1 : Int) {out : (kM × Int × Int) ⊕ ((kM × Int))} (h : pf_Rules_worth_7_49_l10_j105 σ x1 x3 x4 s0 s1 = some out) (hC : ∀ (σ' : kM) (x3' : Int) (x4' : Int), out = Sum.inl (σ', x3', x4') → KW x 0 0 Q σ' 10 [some (kr 7), some (ki x1), some (kr 49), some (ki x3'), some (ki x4'), none] []) (hX150 : ∀ (σ' : kM) (x3' : Int), out = Sum.inr (σ', x3') → KW x 0 0 Q σ' 150 [some (kr 7), none, none, some (ki x3'), none, none] []) : KW x 0 0 Q σ 105 [some (kr 7), some (ki x1), some (kr 49), some (ki x3), some (ki x4), none] [ki s0, ki s1, kr 11] := by
  unfold pf_Rules_worth_7_49_l10_j105 at h
  obtain ⟨hc_15, h⟩ := kchk_h h
  obtain ⟨σ_16, eσ_16, h⟩ := klet_h h
  refine kw_iast C (kdec dc_Rules_worth 59 rfl) 106 rfl rfl hc_15.1 hc_15.2 ?_
  refine kw_sig eσ_16 ?_
  refine kw_goto C (kdec dc_Rules_worth 60 rfl) 144 (by decide) ?_
  exact bd_pf_Rules_worth_7_49_l10_j144 C σ_16 x1 x3 x4 h hC hX150
def pf_Rules_worth_7_49_l10_j64 (σ : kM) (x1 : Int) (x3 : Int) (x4 : Int) (s0 : Int) (s1 : Int) : Option ((kM × Int × Int) ⊕ ((kM × Int))) :=
  kchk (0 ≤ s1 ∧ s1 < 64) <|
  klet (kst σ 11 (kup (σ 11) s1.toNat s0)) fun σ_19 =>
  klet (w32 (x3 + 1)) fun x3_20 =>
  pf_Rules_worth_7_49_l10_j144 σ_19 x1 x3_20 x4
set_option maxHeartbeats 4000000 in
theorem bd_pf_Rules_worth_7_49_l10_j64 {x : kX} {l0 : Launch} {Q : State → Prop} (C : kCx x prog_7_method_9_code "PoetFines$Rules" (some .int) kcl yC 6 l0 R0_pf_Rules_worth_7_49) (σ : kM) (x1 : Int) (x3 : Int) (x4 : Int) (s0 : Int) (s1 : Int) {out : (kM × Int × Int) ⊕ ((kM × Int))} (h : pf_Rules_worth_7_49_l10_j64 σ x1 x3 x4 s0 s1 = some out) (hC : ∀ (σ' : kM) (x3' : Int) (x4' : Int), out = Sum.inl (σ', x3', x4') → KW x 0 0 Q σ' 10 [some (kr 7), some (ki x1), some (kr 49), some (ki x3'), some (ki x4'), none] []) (hX150 : ∀ (σ' : kM) (x3' : Int), out = Sum.inr (σ', x3') → KW x 0 0 Q σ' 150 [some (kr 7), none, none, some (ki x3'), none, none] []) : KW x 0 0 Q σ 64 [some (kr 7), some (ki x1), some (kr 49), some (ki x3), some (ki x4), none] [ki s0, ki s1, kr 11] := by
  unfold pf_Rules_worth_7_49_l10_j64 at h
  obtain ⟨hc_18, h⟩ := kchk_h h
  obtain ⟨σ_19, eσ_19, h⟩ := klet_h h
  refine kw_iast C (kdec dc_Rules_worth 36 rfl) 65 rfl rfl hc_18.1 hc_18.2 ?_
  refine kw_sig eσ_19 ?_
  obtain ⟨x3_20, ex3_20, h⟩ := klet_h h
  refine kw_iinc (L' := [some (kr 7), some (ki x1), some (kr 49), some (ki x3_20), some (ki x4), none]) C (kdec dc_Rules_worth 37 rfl) 68 rfl rfl (by decide) rfl (by rw [ex3_20]; rfl) ?_
  refine kw_goto C (kdec dc_Rules_worth 38 rfl) 144 (by decide) ?_
  exact bd_pf_Rules_worth_7_49_l10_j144 C σ_19 x1 x3_20 x4 h hC hX150
def pf_Rules_worth_7_49_l10 (σ : kM) (x1 : Int) (x3 : Int) (x4 : Int) : Option ((kM × Int × Int) ⊕ ((kM × Int))) :=
  kchk (0 ≤ x1 ∧ x1 < 3) <|
  if (σ 10 x1.toNat) ≤ x4 then
    some (Sum.inr (σ, x3))
  else
    kchk (0 ≤ x4 ∧ x4 < 700) <|
    klet (σ 8 x4.toNat) fun x5_5 =>
    if x5_5 ≤ ((-9)) then
      if x5_5 = ((-9)) then
        if x3 ≤ 0 then
          pf_Rules_worth_7_49_l10_j144 σ x1 x3 x4
        else
          kchk (0 ≤ (w32 (x3 - 1)) ∧ (w32 (x3 - 1)) < 64) <|
          if (σ 11 (w32 (x3 - 1)).toNat) = 0 then
            pf_Rules_worth_7_49_l10_j105 σ x1 x3 x4 1 (w32 (x3 - 1))
          else
            pf_Rules_worth_7_49_l10_j105 σ x1 x3 x4 0 (w32 (x3 - 1))
      else
        if x3 ≤ 1 then
          pf_Rules_worth_7_49_l10_j144 σ x1 x3 x4
        else
          klet (w32 (x3 + (-1))) fun x3_7 =>
          kchk (0 ≤ (w32 (x3_7 - 1)) ∧ (w32 (x3_7 - 1)) < 64) <|
          kchk (0 ≤ x3_7 ∧ x3_7 < 64) <|
          (pf_Rules_combined σ x5_5 (σ 11 (w32 (x3_7 - 1)).toNat) (σ 11 x3_7.toNat)).bind fun r_10 =>
          kchk (0 ≤ (w32 (x3_7 - 1)) ∧ (w32 (x3_7 - 1)) < 64) <|
          klet (kst σ 11 (kup (σ 11) ((w32 (x3_7 - 1)).toNat) r_10)) fun σ_12 =>
          pf_Rules_worth_7_49_l10_j144 σ_12 x1 x3_7 x4
    else
      if 64 ≤ x3 then
        pf_Rules_worth_7_49_l10_j144 σ x1 x3 x4
      else
        if x5_5 < 0 then
          kchk (0 ≤ (w32 (((-1)) - x5_5)) ∧ (w32 (((-1)) - x5_5)) < 8) <|
          pf_Rules_worth_7_49_l10_j64 σ x1 x3 x4 (σ 49 (w32 (((-1)) - x5_5)).toNat) x3
        else
          pf_Rules_worth_7_49_l10_j64 σ x1 x3 x4 x5_5 x3
set_option maxHeartbeats 4000000 in
theorem bd_pf_Rules_worth_7_49_l10 {x : kX} {l0 : Launch} {Q : State → Prop} (C : kCx x prog_7_method_9_code "PoetFines$Rules" (some .int) kcl yC 6 l0 R0_pf_Rules_worth_7_49) (σ : kM) (x1 : Int) (x3 : Int) (x4 : Int) {out : (kM × Int × Int) ⊕ ((kM × Int))} (h : pf_Rules_worth_7_49_l10 σ x1 x3 x4 = some out) (hC : ∀ (σ' : kM) (x3' : Int) (x4' : Int), out = Sum.inl (σ', x3', x4') → KW x 0 0 Q σ' 10 [some (kr 7), some (ki x1), some (kr 49), some (ki x3'), some (ki x4'), none] []) (hX150 : ∀ (σ' : kM) (x3' : Int), out = Sum.inr (σ', x3') → KW x 0 0 Q σ' 150 [some (kr 7), none, none, some (ki x3'), none, none] []) : KW x 0 0 Q σ 10 [some (kr 7), some (ki x1), some (kr 49), some (ki x3), some (ki x4), none] [] := by
  unfold pf_Rules_worth_7_49_l10 at h
  refine kw_iload C (kdec dc_Rules_worth 7 rfl) 12 rfl rfl ?_
  refine kw_aload_n C (kdec dc_Rules_worth 8 rfl) rfl 13 rfl rfl ?_
  refine kw_getR C (kdec dc_Rules_worth 9 rfl) 16 rfl fd_C_Rules_22_7 ?_
  refine kw_iload_n C (kdec dc_Rules_worth 10 rfl) rfl 17 rfl rfl ?_
  obtain ⟨hc_3, h⟩ := kchk_h h
  refine kw_iald C (kdec dc_Rules_worth 11 rfl) 18 rfl rfl hc_3.1 hc_3.2 ?_
  refine kw_icmp_ge C (kdec dc_Rules_worth 12 rfl) 150 21 (by decide) rfl (fun hc18 => ?_) (fun hc18 => ?_)
  · rw [if_pos hc18] at h
    obtain rfl := Option.some.inj h
    exact kw_sub (L' := [some (kr 7), none, none, some (ki x3), none, none]) ⟨rfl, rfl, trivial⟩ (hX150 _ _ rfl)
  · rw [if_neg hc18] at h
    refine kw_aload_n C (kdec dc_Rules_worth 13 rfl) rfl 22 rfl rfl ?_
    refine kw_getR C (kdec dc_Rules_worth 14 rfl) 25 rfl fd_C_Rules_11_7 ?_
    refine kw_iload C (kdec dc_Rules_worth 15 rfl) 27 rfl rfl ?_
    obtain ⟨hc_4, h⟩ := kchk_h h
    refine kw_iald C (kdec dc_Rules_worth 16 rfl) 28 rfl rfl hc_4.1 hc_4.2 ?_
    obtain ⟨x5_5, ex5_5, h⟩ := klet_h h
    refine kw_top ex5_5 ?_
    refine kw_istore (L' := [some (kr 7), some (ki x1), some (kr 49), some (ki x3), some (ki x4), some (ki x5_5)]) C (kdec dc_Rules_worth 17 rfl) 30 rfl (by decide) rfl rfl ?_
    refine kw_iload C (kdec dc_Rules_worth 18 rfl) 32 rfl rfl ?_
    refine kw_bipush (v := -9) C (kdec dc_Rules_worth 19 rfl) 34 rfl (by decide) ⟨by decide, by decide⟩ ?_
    refine kw_icmp_le C (kdec dc_Rules_worth 20 rfl) 71 37 (by decide) rfl (fun hc34 => ?_) (fun hc34 => ?_)
    · rw [if_pos hc34] at h
      refine kw_iload C (kdec dc_Rules_worth 39 rfl) 73 rfl rfl ?_
      refine kw_bipush (v := -9) C (kdec dc_Rules_worth 40 rfl) 75 rfl (by decide) ⟨by decide, by decide⟩ ?_
      refine kw_icmp_ne C (kdec dc_Rules_worth 41 rfl) 109 78 (by decide) rfl (fun hc75 => ?_) (fun hc75 => ?_)
      · rw [if_neg hc75] at h
        refine kw_iload_n C (kdec dc_Rules_worth 61 rfl) rfl 110 rfl rfl ?_
        refine kw_iconst C (kdec dc_Rules_worth 62 rfl) 111 rfl rfl ⟨by decide, by decide⟩ ?_
        refine kw_icmp_le C (kdec dc_Rules_worth 63 rfl) 144 114 (by decide) rfl (fun hc111 => ?_) (fun hc111 => ?_)
        · rw [if_pos hc111] at h
          exact kw_sub (L' := [some (kr 7), some (ki x1), some (kr 49), some (ki x3), some (ki x4), none]) ⟨rfl, rfl, rfl, rfl, rfl, trivial⟩ (bd_pf_Rules_worth_7_49_l10_j144 C σ x1 x3 x4 h hC hX150)
        · rw [if_neg hc111] at h
          obtain ⟨x3_7, ex3_7, h⟩ := klet_h h
          refine kw_iinc (L' := [some (kr 7), some (ki x1), some (kr 49), some (ki x3_7), some (ki x4), some (ki x5_5)]) C (kdec dc_Rules_worth 64 rfl) 117 rfl rfl (by decide) rfl (by rw [ex3_7]; rfl) ?_
          refine kw_aload_n C (kdec dc_Rules_worth 65 rfl) rfl 118 rfl rfl ?_
          refine kw_getR C (kdec dc_Rules_worth 66 rfl) 121 rfl fd_C_Rules_25_7 ?_
          refine kw_iload_n C (kdec dc_Rules_worth 67 rfl) rfl 122 rfl rfl ?_
          refine kw_iconst C (kdec dc_Rules_worth 68 rfl) 123 rfl rfl ⟨by decide, by decide⟩ ?_
          refine kw_isub C (kdec dc_Rules_worth 69 rfl) 124 rfl ?_
          refine kw_iload C (kdec dc_Rules_worth 70 rfl) 126 rfl rfl ?_
          refine kw_aload_n C (kdec dc_Rules_worth 71 rfl) rfl 127 rfl rfl ?_
          refine kw_getR C (kdec dc_Rules_worth 72 rfl) 130 rfl fd_C_Rules_25_7 ?_
          refine kw_iload_n C (kdec dc_Rules_worth 73 rfl) rfl 131 rfl rfl ?_
          refine kw_iconst C (kdec dc_Rules_worth 74 rfl) 132 rfl rfl ⟨by decide, by decide⟩ ?_
          refine kw_isub C (kdec dc_Rules_worth 75 rfl) 133 rfl ?_
          obtain ⟨hc_8, h⟩ := kchk_h h
          refine kw_iald C (kdec dc_Rules_worth 76 rfl) 134 rfl rfl hc_8.1 hc_8.2 ?_
          refine kw_aload_n C (kdec dc_Rules_worth 77 rfl) rfl 135 rfl rfl ?_
          refine kw_getR C (kdec dc_Rules_worth 78 rfl) 138 rfl fd_C_Rules_25_7 ?_
          refine kw_iload_n C (kdec dc_Rules_worth 79 rfl) rfl 139 rfl rfl ?_
          obtain ⟨hc_9, h⟩ := kchk_h h
          refine kw_iald C (kdec dc_Rules_worth 80 rfl) 140 rfl rfl hc_9.1 hc_9.2 ?_
          obtain ⟨r_10, hg_13, h⟩ := kbind_h h
          refine kw_callS (As := [ki x5_5, ki (σ 11 (w32 (x3_7 - 1)).toNat), ki (σ 11 x3_7.toNat)]) C (kdec dc_Rules_worth 81 rfl) 143 rfl cs_Rules_34 (mt_pf_Rules_combined l0 hg_13) ⟨rfl, rfl⟩ ⟨Nat.le_of_ble_eq_true rfl, Nat.le_of_ble_eq_true rfl⟩ ⟨Nat.zero_le _, Nat.zero_le _⟩ rfl (Nat.le_of_ble_eq_true rfl) ?_
          change KW x 0 0 Q σ 143 [some (kr 7), some (ki x1), some (kr 49), some (ki x3_7), some (ki x4), some (ki x5_5)] [ki r_10, ki (w32 (x3_7 - 1)), kr 11]
          obtain ⟨hc_11, h⟩ := kchk_h h
          obtain ⟨σ_12, eσ_12, h⟩ := klet_h h
          refine kw_iast C (kdec dc_Rules_worth 82 rfl) 144 rfl rfl hc_11.1 hc_11.2 ?_
          refine kw_sig eσ_12 ?_
          exact kw_sub (L' := [some (kr 7), some (ki x1), some (kr 49), some (ki x3_7), some (ki x4), none]) ⟨rfl, rfl, rfl, rfl, rfl, trivial⟩ (bd_pf_Rules_worth_7_49_l10_j144 C σ_12 x1 x3_7 x4 h hC hX150)
      · rw [if_pos hc75] at h
        refine kw_iload_n C (kdec dc_Rules_worth 42 rfl) rfl 79 rfl rfl ?_
        refine kw_if_le C (kdec dc_Rules_worth 43 rfl) 144 82 (by decide) rfl (fun hc79 => ?_) (fun hc79 => ?_)
        · rw [if_pos hc79] at h
          exact kw_sub (L' := [some (kr 7), some (ki x1), some (kr 49), some (ki x3), some (ki x4), none]) ⟨rfl, rfl, rfl, rfl, rfl, trivial⟩ (bd_pf_Rules_worth_7_49_l10_j144 C σ x1 x3 x4 h hC hX150)
        · rw [if_neg hc79] at h
          refine kw_aload_n C (kdec dc_Rules_worth 44 rfl) rfl 83 rfl rfl ?_
          refine kw_getR C (kdec dc_Rules_worth 45 rfl) 86 rfl fd_C_Rules_25_7 ?_
          refine kw_iload_n C (kdec dc_Rules_worth 46 rfl) rfl 87 rfl rfl ?_
          refine kw_iconst C (kdec dc_Rules_worth 47 rfl) 88 rfl rfl ⟨by decide, by decide⟩ ?_
          refine kw_isub C (kdec dc_Rules_worth 48 rfl) 89 rfl ?_
          refine kw_aload_n C (kdec dc_Rules_worth 49 rfl) rfl 90 rfl rfl ?_
          refine kw_getR C (kdec dc_Rules_worth 50 rfl) 93 rfl fd_C_Rules_25_7 ?_
          refine kw_iload_n C (kdec dc_Rules_worth 51 rfl) rfl 94 rfl rfl ?_
          refine kw_iconst C (kdec dc_Rules_worth 52 rfl) 95 rfl rfl ⟨by decide, by decide⟩ ?_
          refine kw_isub C (kdec dc_Rules_worth 53 rfl) 96 rfl ?_
          obtain ⟨hc_14, h⟩ := kchk_h h
          refine kw_iald C (kdec dc_Rules_worth 54 rfl) 97 rfl rfl hc_14.1 hc_14.2 ?_
          refine kw_if_ne C (kdec dc_Rules_worth 55 rfl) 104 100 (by decide) rfl (fun hc97 => ?_) (fun hc97 => ?_)
          · rw [if_neg hc97] at h
            refine kw_iconst C (kdec dc_Rules_worth 58 rfl) 105 rfl rfl ⟨by decide, by decide⟩ ?_
            exact kw_sub (L' := [some (kr 7), some (ki x1), some (kr 49), some (ki x3), some (ki x4), none]) ⟨rfl, rfl, rfl, rfl, rfl, trivial⟩ (bd_pf_Rules_worth_7_49_l10_j105 C σ x1 x3 x4 0 (w32 (x3 - 1)) h hC hX150)
          · rw [if_pos hc97] at h
            refine kw_iconst C (kdec dc_Rules_worth 56 rfl) 101 rfl rfl ⟨by decide, by decide⟩ ?_
            refine kw_goto C (kdec dc_Rules_worth 57 rfl) 105 (by decide) ?_
            exact kw_sub (L' := [some (kr 7), some (ki x1), some (kr 49), some (ki x3), some (ki x4), none]) ⟨rfl, rfl, rfl, rfl, rfl, trivial⟩ (bd_pf_Rules_worth_7_49_l10_j105 C σ x1 x3 x4 1 (w32 (x3 - 1)) h hC hX150)
    · rw [if_neg hc34] at h
      refine kw_iload_n C (kdec dc_Rules_worth 21 rfl) rfl 38 rfl rfl ?_
      refine kw_bipush (v := 64) C (kdec dc_Rules_worth 22 rfl) 40 rfl (by decide) ⟨by decide, by decide⟩ ?_
      refine kw_icmp_ge C (kdec dc_Rules_worth 23 rfl) 144 43 (by decide) rfl (fun hc40 => ?_) (fun hc40 => ?_)
      · rw [if_pos hc40] at h
        exact kw_sub (L' := [some (kr 7), some (ki x1), some (kr 49), some (ki x3), some (ki x4), none]) ⟨rfl, rfl, rfl, rfl, rfl, trivial⟩ (bd_pf_Rules_worth_7_49_l10_j144 C σ x1 x3 x4 h hC hX150)
      · rw [if_neg hc40] at h
        refine kw_aload_n C (kdec dc_Rules_worth 24 rfl) rfl 44 rfl rfl ?_
        refine kw_getR C (kdec dc_Rules_worth 25 rfl) 47 rfl fd_C_Rules_25_7 ?_
        refine kw_iload_n C (kdec dc_Rules_worth 26 rfl) rfl 48 rfl rfl ?_
        refine kw_iload C (kdec dc_Rules_worth 27 rfl) 50 rfl rfl ?_
        refine kw_if_lt C (kdec dc_Rules_worth 28 rfl) 58 53 (by decide) rfl (fun hc50 => ?_) (fun hc50 => ?_)
        · rw [if_pos hc50] at h
          refine kw_aload_n C (kdec dc_Rules_worth 31 rfl) rfl 59 rfl rfl ?_
          refine kw_iconst C (kdec dc_Rules_worth 32 rfl) 60 rfl rfl ⟨by decide, by decide⟩ ?_
          refine kw_iload C (kdec dc_Rules_worth 33 rfl) 62 rfl rfl ?_
          refine kw_isub C (kdec dc_Rules_worth 34 rfl) 63 rfl ?_
          obtain ⟨hc_17, h⟩ := kchk_h h
          refine kw_iald C (kdec dc_Rules_worth 35 rfl) 64 rfl rfl hc_17.1 hc_17.2 ?_
          exact kw_sub (L' := [some (kr 7), some (ki x1), some (kr 49), some (ki x3), some (ki x4), none]) ⟨rfl, rfl, rfl, rfl, rfl, trivial⟩ (bd_pf_Rules_worth_7_49_l10_j64 C σ x1 x3 x4 (σ 49 (w32 (((-1)) - x5_5)).toNat) x3 h hC hX150)
        · rw [if_neg hc50] at h
          refine kw_iload C (kdec dc_Rules_worth 29 rfl) 55 rfl rfl ?_
          refine kw_goto C (kdec dc_Rules_worth 30 rfl) 64 (by decide) ?_
          exact kw_sub (L' := [some (kr 7), some (ki x1), some (kr 49), some (ki x3), some (ki x4), none]) ⟨rfl, rfl, rfl, rfl, rfl, trivial⟩ (bd_pf_Rules_worth_7_49_l10_j64 C σ x1 x3 x4 x5_5 x3 h hC hX150)
theorem lp_pf_Rules_worth_7_49_l10 {x : kX} {l0 : Launch} {Q : State → Prop} (C : kCx x prog_7_method_9_code "PoetFines$Rules" (some .int) kcl yC 6 l0 R0_pf_Rules_worth_7_49) (x1 : Int) {ex : (kM × Int)} (hX150 : ∀ (σ' : kM) (x3' : Int), ex = (σ', x3') → KW x 0 0 Q σ' 150 [some (kr 7), none, none, some (ki x3'), none, none] []) (n : Nat) (σ : kM) (x3 : Int) (x4 : Int) (h : kloop (fun st => pf_Rules_worth_7_49_l10 st.1 x1 st.2.1 st.2.2) n (σ, x3, x4) = some ex) : KW x 0 0 Q σ 10 [some (kr 7), some (ki x1), some (kr 49), some (ki x3), some (ki x4), none] [] :=
  kloop_ind (P := (fun st : kM × Int × Int => KW x 0 0 Q st.1 10 [some (kr 7), some (ki x1), some (kr 49), some (ki (st.2.1)), some (ki (st.2.2)), none] [])) (fun st out hb hc hx => bd_pf_Rules_worth_7_49_l10 C st.1 x1 st.2.1 st.2.2 hb (fun a0 a1 a2 e => hc _ e) (fun a0 a1 e => hX150 _ _ ((hx _ e).symm))) n (σ, x3, x4) h
def pf_Rules_worth_7_49 (σ : kM) (x1 : Int) : Option (Int × kM) :=
  kchk (0 ≤ x1 ∧ x1 < 3) <|
  klet (σ 9 x1.toNat) fun x4_2 =>
  (kloop (fun st => pf_Rules_worth_7_49_l10 st.1 x1 st.2.1 st.2.2) kFuel (σ, 0, x4_2)).bind fun (σ_23, x3_24) =>
  if x3_24 ≤ 0 then
    some ((0, σ_23))
  else
    kchk (0 ≤ (w32 (x3_24 - 1)) ∧ (w32 (x3_24 - 1)) < 64) <|
    some ((σ_23 11 (w32 (x3_24 - 1)).toNat, σ_23))
set_option maxHeartbeats 4000000 in
theorem bd_pf_Rules_worth_7_49 {x : kX} {l0 : Launch} {Q : State → Prop} (C : kCx x prog_7_method_9_code "PoetFines$Rules" (some .int) kcl yC 6 l0 R0_pf_Rules_worth_7_49) (σ : kM) (x1 : Int) {out : Int × kM} (h : pf_Rules_worth_7_49 σ x1 = some out) (hR : ∀ (r : Int) (τ : kM), out = (r, τ) → Q = kQ x (some (ki r)) τ 0 0) : KW x 0 0 Q σ 0 [some (kr 7), some (ki x1), some (kr 49), none, none, none] [] := by
  unfold pf_Rules_worth_7_49 at h
  refine kw_iconst C (kdec dc_Rules_worth 0 rfl) 1 rfl rfl ⟨by decide, by decide⟩ ?_
  refine kw_istore_n (L' := [some (kr 7), some (ki x1), some (kr 49), some (ki 0), none, none]) C (kdec dc_Rules_worth 1 rfl) rfl 2 rfl (by decide) rfl rfl ?_
  refine kw_aload_n C (kdec dc_Rules_worth 2 rfl) rfl 3 rfl rfl ?_
  refine kw_getR C (kdec dc_Rules_worth 3 rfl) 6 rfl fd_C_Rules_19_7 ?_
  refine kw_iload_n C (kdec dc_Rules_worth 4 rfl) rfl 7 rfl rfl ?_
  obtain ⟨hc_1, h⟩ := kchk_h h
  refine kw_iald C (kdec dc_Rules_worth 5 rfl) 8 rfl rfl hc_1.1 hc_1.2 ?_
  obtain ⟨x4_2, ex4_2, h⟩ := klet_h h
  refine kw_top ex4_2 ?_
  refine kw_istore (L' := [some (kr 7), some (ki x1), some (kr 49), some (ki 0), some (ki x4_2), none]) C (kdec dc_Rules_worth 6 rfl) 10 rfl (by decide) rfl rfl ?_
  obtain ⟨ex_21, hl_22, h⟩ := kbind_h h
  refine lp_pf_Rules_worth_7_49_l10 C x1 ?_ kFuel σ 0 x4_2 hl_22
  · intro σ_23 x3_24 e
    subst ex_21
    try dsimp only at h
    refine kw_iload_n C (kdec dc_Rules_worth 85 rfl) rfl 151 rfl rfl ?_
    refine kw_if_le C (kdec dc_Rules_worth 86 rfl) 165 154 (by decide) rfl (fun hc151 => ?_) (fun hc151 => ?_)
    · rw [if_pos hc151] at h
      refine kw_iconst C (kdec dc_Rules_worth 94 rfl) 166 rfl rfl ⟨by decide, by decide⟩ ?_
      obtain rfl := Option.some.inj h
      exact kw_Q (hR _ _ rfl) (kw_ireturn C (kdec dc_Rules_worth 95 rfl))
    · rw [if_neg hc151] at h
      refine kw_aload_n C (kdec dc_Rules_worth 87 rfl) rfl 155 rfl rfl ?_
      refine kw_getR C (kdec dc_Rules_worth 88 rfl) 158 rfl fd_C_Rules_25_7 ?_
      refine kw_iload_n C (kdec dc_Rules_worth 89 rfl) rfl 159 rfl rfl ?_
      refine kw_iconst C (kdec dc_Rules_worth 90 rfl) 160 rfl rfl ⟨by decide, by decide⟩ ?_
      refine kw_isub C (kdec dc_Rules_worth 91 rfl) 161 rfl ?_
      obtain ⟨hc_25, h⟩ := kchk_h h
      refine kw_iald C (kdec dc_Rules_worth 92 rfl) 162 rfl rfl hc_25.1 hc_25.2 ?_
      refine kw_goto C (kdec dc_Rules_worth 93 rfl) 166 (by decide) ?_
      obtain rfl := Option.some.inj h
      exact kw_Q (hR _ _ rfl) (kw_ireturn C (kdec dc_Rules_worth 95 rfl))
theorem mt_pf_Rules_worth_7_49 (l0 : Launch) {σ : kM} {x1 : Int} {r : Int} {τ : kM} (h : pf_Rules_worth_7_49 σ x1 = some (r, τ)) : kMet l0 ky_Rules_worth prog_7_method_9_code 6 (some .int) R0_pf_Rules_worth_7_49 kcl yC σ [kr 7, ki x1, kr 49] (some (ki r)) τ := kMet.of' [some (kr 7), some (ki x1), some (kr 49), none, none, none] (by decide) (Nat.le_of_ble_eq_true rfl) ⟨rfl, rfl, rfl, trivial⟩ (fun x C => bd_pf_Rules_worth_7_49 C σ x1 h (fun r τ e => by cases e; rfl))
def R0_pf_Stage_within : Room := ({ frames := 0, cells := 0, slots := 0, locals := 0 } : Room)
def pf_Stage_within (σ : kM) (x0 : Int) (x1 : Int) : Option (Int) :=
  if 0 ≤ x0 then
    if x0 ≤ x1 then
      some x0
    else
      some x1
  else
    some 0
set_option maxHeartbeats 4000000 in
theorem bd_pf_Stage_within {x : kX} {l0 : Launch} {Q : State → Prop} (C : kCx x prog_8_method_12_code "PoetFines$Stage" (some .int) kcl yC 2 l0 R0_pf_Stage_within) (σ : kM) (x0 : Int) (x1 : Int) {out : Int} (h : pf_Stage_within σ x0 x1 = some out) (hR : ∀ (r : Int), out = r → Q = kQ x (some (ki r)) σ 0 0) : KW x 0 0 Q σ 0 [some (ki x0), some (ki x1)] [] := by
  unfold pf_Stage_within at h
  refine kw_iload_n C (kdec dc_Stage_within 0 rfl) rfl 1 rfl rfl ?_
  refine kw_if_ge C (kdec dc_Stage_within 1 rfl) 6 4 (by decide) rfl (fun hc1 => ?_) (fun hc1 => ?_)
  · rw [if_pos hc1] at h
    refine kw_iload_n C (kdec dc_Stage_within 4 rfl) rfl 7 rfl rfl ?_
    refine kw_iload_n C (kdec dc_Stage_within 5 rfl) rfl 8 rfl rfl ?_
    refine kw_icmp_le C (kdec dc_Stage_within 6 rfl) 15 11 (by decide) rfl (fun hc8 => ?_) (fun hc8 => ?_)
    · rw [if_pos hc8] at h
      refine kw_iload_n C (kdec dc_Stage_within 9 rfl) rfl 16 rfl rfl ?_
      obtain rfl := Option.some.inj h
      exact kw_Q (hR _ rfl) (kw_ireturn C (kdec dc_Stage_within 10 rfl))
    · rw [if_neg hc8] at h
      refine kw_iload_n C (kdec dc_Stage_within 7 rfl) rfl 12 rfl rfl ?_
      refine kw_goto C (kdec dc_Stage_within 8 rfl) 16 (by decide) ?_
      obtain rfl := Option.some.inj h
      exact kw_Q (hR _ rfl) (kw_ireturn C (kdec dc_Stage_within 10 rfl))
  · rw [if_neg hc1] at h
    refine kw_iconst C (kdec dc_Stage_within 2 rfl) 5 rfl rfl ⟨by decide, by decide⟩ ?_
    obtain rfl := Option.some.inj h
    exact kw_Q (hR _ rfl) (kw_ireturn C (kdec dc_Stage_within 3 rfl))
theorem mt_pf_Stage_within (l0 : Launch) {σ : kM} {x0 : Int} {x1 : Int} {r : Int} (h : pf_Stage_within σ x0 x1 = some r) : kMet l0 ky_Stage_within prog_8_method_12_code 2 (some .int) R0_pf_Stage_within kcl yC σ [ki x0, ki x1] (some (ki r)) σ := kMet.of' [some (ki x0), some (ki x1)] (by decide) (Nat.le_of_ble_eq_true rfl) ⟨rfl, rfl, trivial⟩ (fun x C => bd_pf_Stage_within C σ x0 x1 h (fun r e => by subst e; rfl))
def R0_pf_Stage_inchesInto_43 : Room := ({ frames := 2, cells := 0, slots := 0, locals := 47 } : Room)
def pf_Stage_inchesInto_43 (σ : kM) (x1 : Int) (x2 : Int) (x3 : Int) (x4 : Int) : Option (Int × kM) :=
  (pf_Law_truthOf_3 σ x2 x3).bind fun r_1 =>
  (pf_Rules_has_7 σ 0).bind fun r_2 =>
  if r_2 = 0 then
    some ((min x4 r_1, σ))
  else
    kchk (0 ≤ (w32 (49 + x1)) ∧ (w32 (49 + x1)) < 85) <|
    (pf_Stage_setValues_43 σ x1 x2 (σ 31 (w32 (49 + x1)).toNat)).bind fun σ_4 =>
    klet (kst σ_4 49 (kup (σ_4 49) ((4 : Int).toNat) x4)) fun σ_5 =>
    klet (kst σ_5 49 (kup (σ_5 49) ((5 : Int).toNat) r_1)) fun σ_6 =>
    (pf_Rules_worth_7_49 σ_6 0).bind fun (r_7, σ_8) =>
    (pf_Stage_within σ_8 r_7 9).bind fun r_9 =>
    some ((r_9, σ_8))
set_option maxHeartbeats 4000000 in
theorem bd_pf_Stage_inchesInto_43 {x : kX} {l0 : Launch} {Q : State → Prop} (C : kCx x prog_8_method_2_code "PoetFines$Stage" (some .int) kcl yC 6 l0 R0_pf_Stage_inchesInto_43) (σ : kM) (x1 : Int) (x2 : Int) (x3 : Int) (x4 : Int) {out : Int × kM} (h : pf_Stage_inchesInto_43 σ x1 x2 x3 x4 = some out) (hR : ∀ (r : Int) (τ : kM), out = (r, τ) → Q = kQ x (some (ki r)) τ 0 0) : KW x 0 0 Q σ 0 [some (kr 43), some (ki x1), some (ki x2), some (ki x3), some (ki x4), none] [] := by
  unfold pf_Stage_inchesInto_43 at h
  refine kw_aload_n C (kdec dc_Stage_inchesInto 0 rfl) rfl 1 rfl rfl ?_
  refine kw_getR C (kdec dc_Stage_inchesInto 1 rfl) 4 rfl fd_C_Stage_24_43 ?_
  refine kw_iload_n C (kdec dc_Stage_inchesInto 2 rfl) rfl 5 rfl rfl ?_
  refine kw_iload_n C (kdec dc_Stage_inchesInto 3 rfl) rfl 6 rfl rfl ?_
  obtain ⟨r_1, hg_14, h⟩ := kbind_h h
  refine kw_callV (As := [ki x2, ki x3]) C (kdec dc_Stage_inchesInto 4 rfl) 9 rfl cv_Stage_32 rfl rfl (mt_pf_Law_truthOf_3 l0 hg_14) ⟨rfl, rfl⟩ ⟨Nat.le_of_ble_eq_true rfl, Nat.le_of_ble_eq_true rfl⟩ ⟨Nat.zero_le _, Nat.zero_le _⟩ rfl (Nat.le_of_ble_eq_true rfl) ?_
  change KW x 0 0 Q σ 9 [some (kr 43), some (ki x1), some (ki x2), some (ki x3), some (ki x4), none] [ki r_1]
  refine kw_istore (L' := [some (kr 43), some (ki x1), some (ki x2), some (ki x3), some (ki x4), some (ki r_1)]) C (kdec dc_Stage_inchesInto 5 rfl) 11 rfl (by decide) rfl rfl ?_
  refine kw_aload_n C (kdec dc_Stage_inchesInto 6 rfl) rfl 12 rfl rfl ?_
  refine kw_getR C (kdec dc_Stage_inchesInto 7 rfl) 15 rfl fd_C_Stage_24_43 ?_
  refine kw_getR C (kdec dc_Stage_inchesInto 8 rfl) 18 rfl fd_C_Stage_38_3 ?_
  refine kw_iconst C (kdec dc_Stage_inchesInto 9 rfl) 19 rfl rfl ⟨by decide, by decide⟩ ?_
  obtain ⟨r_2, hg_13, h⟩ := kbind_h h
  refine kw_callV (As := [ki 0]) C (kdec dc_Stage_inchesInto 10 rfl) 22 rfl cv_Stage_42 rfl rfl (mt_pf_Rules_has_7 l0 hg_13) ⟨rfl, rfl⟩ ⟨Nat.le_of_ble_eq_true rfl, Nat.le_of_ble_eq_true rfl⟩ ⟨Nat.zero_le _, Nat.zero_le _⟩ rfl (Nat.le_of_ble_eq_true rfl) ?_
  change KW x 0 0 Q σ 22 [some (kr 43), some (ki x1), some (ki x2), some (ki x3), some (ki x4), some (ki r_1)] [ki r_2]
  refine kw_if_ne C (kdec dc_Stage_inchesInto 11 rfl) 33 25 (by decide) rfl (fun hc22 => ?_) (fun hc22 => ?_)
  · rw [if_neg hc22] at h
    refine kw_aload_n C (kdec dc_Stage_inchesInto 16 rfl) rfl 34 rfl rfl ?_
    refine kw_iload_n C (kdec dc_Stage_inchesInto 17 rfl) rfl 35 rfl rfl ?_
    refine kw_iload_n C (kdec dc_Stage_inchesInto 18 rfl) rfl 36 rfl rfl ?_
    refine kw_aload_n C (kdec dc_Stage_inchesInto 19 rfl) rfl 37 rfl rfl ?_
    refine kw_getR C (kdec dc_Stage_inchesInto 20 rfl) 40 rfl fd_C_Stage_28_43 ?_
    refine kw_getR C (kdec dc_Stage_inchesInto 21 rfl) 43 rfl fd_C_Stage_51_30 ?_
    refine kw_bipush (v := 49) C (kdec dc_Stage_inchesInto 22 rfl) 45 rfl (by decide) ⟨by decide, by decide⟩ ?_
    refine kw_iload_n C (kdec dc_Stage_inchesInto 23 rfl) rfl 46 rfl rfl ?_
    refine kw_iadd C (kdec dc_Stage_inchesInto 24 rfl) 47 rfl ?_
    obtain ⟨hc_3, h⟩ := kchk_h h
    refine kw_iald C (kdec dc_Stage_inchesInto 25 rfl) 48 rfl rfl hc_3.1 hc_3.2 ?_
    obtain ⟨σ_4, hg_12, h⟩ := kbind_h h
    refine kw_callV (As := [ki x1, ki x2, ki (σ 31 (w32 (49 + x1)).toNat)]) C (kdec dc_Stage_inchesInto 26 rfl) 51 rfl cv_Stage_56 rfl rfl (mt_pf_Stage_setValues_43 l0 hg_12) ⟨rfl, rfl⟩ ⟨Nat.le_of_ble_eq_true rfl, Nat.le_of_ble_eq_true rfl⟩ ⟨Nat.zero_le _, Nat.zero_le _⟩ rfl (Nat.le_of_ble_eq_true rfl) ?_
    change KW x 0 0 Q σ_4 51 [some (kr 43), some (ki x1), some (ki x2), some (ki x3), some (ki x4), some (ki r_1)] []
    refine kw_aload_n C (kdec dc_Stage_inchesInto 27 rfl) rfl 52 rfl rfl ?_
    refine kw_getR C (kdec dc_Stage_inchesInto 28 rfl) 55 rfl fd_C_Stage_20_43 ?_
    refine kw_iconst C (kdec dc_Stage_inchesInto 29 rfl) 56 rfl rfl ⟨by decide, by decide⟩ ?_
    refine kw_iload C (kdec dc_Stage_inchesInto 30 rfl) 58 rfl rfl ?_
    obtain ⟨σ_5, eσ_5, h⟩ := klet_h h
    refine kw_iast C (kdec dc_Stage_inchesInto 31 rfl) 59 rfl rfl (by decide) (by decide) ?_
    refine kw_sig eσ_5 ?_
    refine kw_aload_n C (kdec dc_Stage_inchesInto 32 rfl) rfl 60 rfl rfl ?_
    refine kw_getR C (kdec dc_Stage_inchesInto 33 rfl) 63 rfl fd_C_Stage_20_43 ?_
    refine kw_iconst C (kdec dc_Stage_inchesInto 34 rfl) 64 rfl rfl ⟨by decide, by decide⟩ ?_
    refine kw_iload C (kdec dc_Stage_inchesInto 35 rfl) 66 rfl rfl ?_
    obtain ⟨σ_6, eσ_6, h⟩ := klet_h h
    refine kw_iast C (kdec dc_Stage_inchesInto 36 rfl) 67 rfl rfl (by decide) (by decide) ?_
    refine kw_sig eσ_6 ?_
    refine kw_aload_n C (kdec dc_Stage_inchesInto 37 rfl) rfl 68 rfl rfl ?_
    refine kw_getR C (kdec dc_Stage_inchesInto 38 rfl) 71 rfl fd_C_Stage_24_43 ?_
    refine kw_getR C (kdec dc_Stage_inchesInto 39 rfl) 74 rfl fd_C_Stage_38_3 ?_
    refine kw_iconst C (kdec dc_Stage_inchesInto 40 rfl) 75 rfl rfl ⟨by decide, by decide⟩ ?_
    refine kw_aload_n C (kdec dc_Stage_inchesInto 41 rfl) rfl 76 rfl rfl ?_
    refine kw_getR C (kdec dc_Stage_inchesInto 42 rfl) 79 rfl fd_C_Stage_20_43 ?_
    obtain ⟨⟨r_7, σ_8⟩, hg_11, h⟩ := kbind_h h
    dsimp only at h
    refine kw_callV (As := [ki 0, kr 49]) C (kdec dc_Stage_inchesInto 43 rfl) 82 rfl cv_Stage_60 rfl rfl (mt_pf_Rules_worth_7_49 l0 hg_11) ⟨rfl, rfl⟩ ⟨Nat.le_of_ble_eq_true rfl, Nat.le_of_ble_eq_true rfl⟩ ⟨Nat.zero_le _, Nat.zero_le _⟩ rfl (Nat.le_of_ble_eq_true rfl) ?_
    change KW x 0 0 Q σ_8 82 [some (kr 43), some (ki x1), some (ki x2), some (ki x3), some (ki x4), some (ki r_1)] [ki r_7]
    refine kw_bipush (v := 9) C (kdec dc_Stage_inchesInto 44 rfl) 84 rfl (by decide) ⟨by decide, by decide⟩ ?_
    obtain ⟨r_9, hg_10, h⟩ := kbind_h h
    refine kw_callS (As := [ki r_7, ki 9]) C (kdec dc_Stage_inchesInto 45 rfl) 87 rfl cs_Stage_64 (mt_pf_Stage_within l0 hg_10) ⟨rfl, rfl⟩ ⟨Nat.le_of_ble_eq_true rfl, Nat.le_of_ble_eq_true rfl⟩ ⟨Nat.zero_le _, Nat.zero_le _⟩ rfl (Nat.le_of_ble_eq_true rfl) ?_
    change KW x 0 0 Q σ_8 87 [some (kr 43), some (ki x1), some (ki x2), some (ki x3), some (ki x4), some (ki r_1)] [ki r_9]
    obtain rfl := Option.some.inj h
    exact kw_Q (hR _ _ rfl) (kw_ireturn C (kdec dc_Stage_inchesInto 46 rfl))
  · rw [if_pos hc22] at h
    refine kw_iload C (kdec dc_Stage_inchesInto 12 rfl) 27 rfl rfl ?_
    refine kw_iload C (kdec dc_Stage_inchesInto 13 rfl) 29 rfl rfl ?_
    refine kw_min C (kdec dc_Stage_inchesInto 14 rfl) 32 rfl cm_Stage_46 ⟨Nat.le_of_ble_eq_true rfl, Nat.le_of_ble_eq_true rfl⟩ ⟨Nat.zero_le _, Nat.zero_le _⟩ (Nat.le_of_ble_eq_true rfl) ?_
    obtain rfl := Option.some.inj h
    exact kw_Q (hR _ _ rfl) (kw_ireturn C (kdec dc_Stage_inchesInto 15 rfl))
theorem mt_pf_Stage_inchesInto_43 (l0 : Launch) {σ : kM} {x1 : Int} {x2 : Int} {x3 : Int} {x4 : Int} {r : Int} {τ : kM} (h : pf_Stage_inchesInto_43 σ x1 x2 x3 x4 = some (r, τ)) : kMet l0 ky_Stage_inchesInto prog_8_method_2_code 6 (some .int) R0_pf_Stage_inchesInto_43 kcl yC σ [kr 43, ki x1, ki x2, ki x3, ki x4] (some (ki r)) τ := kMet.of' [some (kr 43), some (ki x1), some (ki x2), some (ki x3), some (ki x4), none] (by decide) (Nat.le_of_ble_eq_true rfl) ⟨rfl, rfl, rfl, rfl, rfl, trivial⟩ (fun x C => bd_pf_Stage_inchesInto_43 C σ x1 x2 x3 x4 h (fun r τ e => by cases e; rfl))
def R0_pf_Court_inchesNow_50 : Room := ({ frames := 3, cells := 0, slots := 0, locals := 72 } : Room)
def pf_Court_inchesNow_50 (σ : kM) (x1 : Int) (x2 : Int) (x3 : Int) : Option (Int × kM) :=
  (pf_Law_topicOf_3 σ x1 x3).bind fun r_1 =>
  (pf_World_depthOf_30 σ x1 x3).bind fun r_2 =>
  (pf_Stage_inchesInto_43 σ x1 x2 r_1 r_2).bind fun (r_3, σ_4) =>
  some ((r_3, σ_4))
set_option maxHeartbeats 4000000 in
theorem bd_pf_Court_inchesNow_50 {x : kX} {l0 : Launch} {Q : State → Prop} (C : kCx x prog_3_method_14_code "PoetFines$Court" (some .int) kcl yC 4 l0 R0_pf_Court_inchesNow_50) (σ : kM) (x1 : Int) (x2 : Int) (x3 : Int) {out : Int × kM} (h : pf_Court_inchesNow_50 σ x1 x2 x3 = some out) (hR : ∀ (r : Int) (τ : kM), out = (r, τ) → Q = kQ x (some (ki r)) τ 0 0) : KW x 0 0 Q σ 0 [some (kr 50), some (ki x1), some (ki x2), some (ki x3)] [] := by
  unfold pf_Court_inchesNow_50 at h
  refine kw_aload_n C (kdec dc_Court_inchesNow 0 rfl) rfl 1 rfl rfl ?_
  refine kw_getR C (kdec dc_Court_inchesNow 1 rfl) 4 rfl fd_C_Court_38_50 ?_
  refine kw_iload_n C (kdec dc_Court_inchesNow 2 rfl) rfl 5 rfl rfl ?_
  refine kw_iload_n C (kdec dc_Court_inchesNow 3 rfl) rfl 6 rfl rfl ?_
  refine kw_aload_n C (kdec dc_Court_inchesNow 4 rfl) rfl 7 rfl rfl ?_
  refine kw_getR C (kdec dc_Court_inchesNow 5 rfl) 10 rfl fd_C_Court_34_50 ?_
  refine kw_iload_n C (kdec dc_Court_inchesNow 6 rfl) rfl 11 rfl rfl ?_
  refine kw_iload_n C (kdec dc_Court_inchesNow 7 rfl) rfl 12 rfl rfl ?_
  obtain ⟨r_1, hg_7, h⟩ := kbind_h h
  refine kw_callV (As := [ki x1, ki x3]) C (kdec dc_Court_inchesNow 8 rfl) 15 rfl cv_Court_121 rfl rfl (mt_pf_Law_topicOf_3 l0 hg_7) ⟨rfl, rfl⟩ ⟨Nat.le_of_ble_eq_true rfl, Nat.le_of_ble_eq_true rfl⟩ ⟨Nat.zero_le _, Nat.zero_le _⟩ rfl (Nat.le_of_ble_eq_true rfl) ?_
  change KW x 0 0 Q σ 15 [some (kr 50), some (ki x1), some (ki x2), some (ki x3)] [ki r_1, ki x2, ki x1, kr 43]
  refine kw_aload_n C (kdec dc_Court_inchesNow 9 rfl) rfl 16 rfl rfl ?_
  refine kw_getR C (kdec dc_Court_inchesNow 10 rfl) 19 rfl fd_C_Court_38_50 ?_
  refine kw_getR C (kdec dc_Court_inchesNow 11 rfl) 22 rfl fd_C_Court_42_43 ?_
  refine kw_iload_n C (kdec dc_Court_inchesNow 12 rfl) rfl 23 rfl rfl ?_
  refine kw_iload_n C (kdec dc_Court_inchesNow 13 rfl) rfl 24 rfl rfl ?_
  obtain ⟨r_2, hg_6, h⟩ := kbind_h h
  refine kw_callV (As := [ki x1, ki x3]) C (kdec dc_Court_inchesNow 14 rfl) 27 rfl cv_Court_124 rfl rfl (mt_pf_World_depthOf_30 l0 hg_6) ⟨rfl, rfl⟩ ⟨Nat.le_of_ble_eq_true rfl, Nat.le_of_ble_eq_true rfl⟩ ⟨Nat.zero_le _, Nat.zero_le _⟩ rfl (Nat.le_of_ble_eq_true rfl) ?_
  change KW x 0 0 Q σ 27 [some (kr 50), some (ki x1), some (ki x2), some (ki x3)] [ki r_2, ki r_1, ki x2, ki x1, kr 43]
  obtain ⟨⟨r_3, σ_4⟩, hg_5, h⟩ := kbind_h h
  dsimp only at h
  refine kw_callV (As := [ki x1, ki x2, ki r_1, ki r_2]) C (kdec dc_Court_inchesNow 15 rfl) 30 rfl cv_Court_65 rfl rfl (mt_pf_Stage_inchesInto_43 l0 hg_5) ⟨rfl, rfl⟩ ⟨Nat.le_of_ble_eq_true rfl, Nat.le_of_ble_eq_true rfl⟩ ⟨Nat.zero_le _, Nat.zero_le _⟩ rfl (Nat.le_of_ble_eq_true rfl) ?_
  change KW x 0 0 Q σ_4 30 [some (kr 50), some (ki x1), some (ki x2), some (ki x3)] [ki r_3]
  obtain rfl := Option.some.inj h
  exact kw_Q (hR _ _ rfl) (kw_ireturn C (kdec dc_Court_inchesNow 16 rfl))
theorem mt_pf_Court_inchesNow_50 (l0 : Launch) {σ : kM} {x1 : Int} {x2 : Int} {x3 : Int} {r : Int} {τ : kM} (h : pf_Court_inchesNow_50 σ x1 x2 x3 = some (r, τ)) : kMet l0 ky_Court_inchesNow prog_3_method_14_code 4 (some .int) R0_pf_Court_inchesNow_50 kcl yC σ [kr 50, ki x1, ki x2, ki x3] (some (ki r)) τ := kMet.of' [some (kr 50), some (ki x1), some (ki x2), some (ki x3)] (by decide) (Nat.le_of_ble_eq_true rfl) ⟨rfl, rfl, rfl, rfl, trivial⟩ (fun x C => bd_pf_Court_inchesNow_50 C σ x1 x2 x3 h (fun r τ e => by cases e; rfl))
def R0_pf_Court_nextHits_50 : Room := ({ frames := 4, cells := 0, slots := 0, locals := 95 } : Room)
def pf_Court_nextHits_50_l21_j53 (σ : kM) (x1 : Int) (x2 : Int) (x4 : Int) (s0 : Int) (s1 : Int) : Option ((kM × Int × Int) ⊕ ((kM × Int))) :=
  klet (kor s1 s0) fun x3_5 =>
  klet (w32 (x4 + 1)) fun x4_6 =>
  some (Sum.inl (σ, x3_5, x4_6))
set_option maxHeartbeats 4000000 in
theorem bd_pf_Court_nextHits_50_l21_j53 {x : kX} {l0 : Launch} {Q : State → Prop} (C : kCx x prog_3_method_2_code "PoetFines$Court" (some .int) kcl yC 5 l0 R0_pf_Court_nextHits_50) (σ : kM) (x1 : Int) (x2 : Int) (x4 : Int) (s0 : Int) (s1 : Int) {out : (kM × Int × Int) ⊕ ((kM × Int))} (h : pf_Court_nextHits_50_l21_j53 σ x1 x2 x4 s0 s1 = some out) (hC : ∀ (σ' : kM) (x3' : Int) (x4' : Int), out = Sum.inl (σ', x3', x4') → KW x 0 0 Q σ' 21 [some (kr 50), some (ki x1), some (ki x2), some (ki x3'), some (ki x4')] []) (hX61 : ∀ (σ' : kM) (x3' : Int), out = Sum.inr (σ', x3') → KW x 0 0 Q σ' 61 [none, none, none, some (ki x3'), none] []) : KW x 0 0 Q σ 53 [some (kr 50), some (ki x1), some (ki x2), none, some (ki x4)] [ki s0, ki s1] := by
  unfold pf_Court_nextHits_50_l21_j53 at h
  refine kw_ior C (kdec dc_Court_nextHits 30 rfl) 54 rfl ?_
  obtain ⟨x3_5, ex3_5, h⟩ := klet_h h
  refine kw_top ex3_5 ?_
  refine kw_istore_n (L' := [some (kr 50), some (ki x1), some (ki x2), some (ki x3_5), some (ki x4)]) C (kdec dc_Court_nextHits 31 rfl) rfl 55 rfl (by decide) rfl rfl ?_
  obtain ⟨x4_6, ex4_6, h⟩ := klet_h h
  refine kw_iinc (L' := [some (kr 50), some (ki x1), some (ki x2), some (ki x3_5), some (ki x4_6)]) C (kdec dc_Court_nextHits 32 rfl) 58 rfl rfl (by decide) rfl (by rw [ex4_6]; rfl) ?_
  refine kw_goto C (kdec dc_Court_nextHits 33 rfl) 21 (by decide) ?_
  obtain rfl := Option.some.inj h
  exact (hC _ _ _ rfl)
def pf_Court_nextHits_50_l21 (σ : kM) (x1 : Int) (x2 : Int) (x3 : Int) (x4 : Int) : Option ((kM × Int × Int) ⊕ ((kM × Int))) :=
  if (σ 3 1) ≤ x4 then
    some (Sum.inr (σ, x3))
  else
    (pf_Court_inchesNow_50 σ x1 x4 x2).bind fun (r_3, σ_4) =>
    if r_3 ≤ 0 then
      pf_Court_nextHits_50_l21_j53 σ_4 x1 x2 x4 0 x3
    else
      pf_Court_nextHits_50_l21_j53 σ_4 x1 x2 x4 (kshl 1 x4) x3
set_option maxHeartbeats 4000000 in
theorem bd_pf_Court_nextHits_50_l21 {x : kX} {l0 : Launch} {Q : State → Prop} (C : kCx x prog_3_method_2_code "PoetFines$Court" (some .int) kcl yC 5 l0 R0_pf_Court_nextHits_50) (σ : kM) (x1 : Int) (x2 : Int) (x3 : Int) (x4 : Int) {out : (kM × Int × Int) ⊕ ((kM × Int))} (h : pf_Court_nextHits_50_l21 σ x1 x2 x3 x4 = some out) (hC : ∀ (σ' : kM) (x3' : Int) (x4' : Int), out = Sum.inl (σ', x3', x4') → KW x 0 0 Q σ' 21 [some (kr 50), some (ki x1), some (ki x2), some (ki x3'), some (ki x4')] []) (hX61 : ∀ (σ' : kM) (x3' : Int), out = Sum.inr (σ', x3') → KW x 0 0 Q σ' 61 [none, none, none, some (ki x3'), none] []) : KW x 0 0 Q σ 21 [some (kr 50), some (ki x1), some (ki x2), some (ki x3), some (ki x4)] [] := by
  unfold pf_Court_nextHits_50_l21 at h
  refine kw_iload C (kdec dc_Court_nextHits 13 rfl) 23 rfl rfl ?_
  refine kw_aload_n C (kdec dc_Court_nextHits 14 rfl) rfl 24 rfl rfl ?_
  refine kw_getR C (kdec dc_Court_nextHits 15 rfl) 27 rfl fd_C_Court_34_50 ?_
  refine kw_getI C (kdec dc_Court_nextHits 16 rfl) 30 rfl fd_C_Court_53_3 ?_
  refine kw_icmp_ge C (kdec dc_Court_nextHits 17 rfl) 61 33 (by decide) rfl (fun hc30 => ?_) (fun hc30 => ?_)
  · rw [if_pos hc30] at h
    obtain rfl := Option.some.inj h
    exact kw_sub (L' := [none, none, none, some (ki x3), none]) ⟨rfl, trivial⟩ (hX61 _ _ rfl)
  · rw [if_neg hc30] at h
    refine kw_iload_n C (kdec dc_Court_nextHits 18 rfl) rfl 34 rfl rfl ?_
    refine kw_aload_n C (kdec dc_Court_nextHits 19 rfl) rfl 35 rfl rfl ?_
    refine kw_iload_n C (kdec dc_Court_nextHits 20 rfl) rfl 36 rfl rfl ?_
    refine kw_iload C (kdec dc_Court_nextHits 21 rfl) 38 rfl rfl ?_
    refine kw_iload_n C (kdec dc_Court_nextHits 22 rfl) rfl 39 rfl rfl ?_
    obtain ⟨⟨r_3, σ_4⟩, hg_7, h⟩ := kbind_h h
    dsimp only at h
    refine kw_callV (As := [ki x1, ki x4, ki x2]) C (kdec dc_Court_nextHits 23 rfl) 42 rfl cv_Court_58 rfl rfl (mt_pf_Court_inchesNow_50 l0 hg_7) ⟨rfl, rfl⟩ ⟨Nat.le_of_ble_eq_true rfl, Nat.le_of_ble_eq_true rfl⟩ ⟨Nat.zero_le _, Nat.zero_le _⟩ rfl (Nat.le_of_ble_eq_true rfl) ?_
    change KW x 0 0 Q σ_4 42 [some (kr 50), some (ki x1), some (ki x2), some (ki x3), some (ki x4)] [ki r_3, ki x3]
    refine kw_if_le C (kdec dc_Court_nextHits 24 rfl) 52 45 (by decide) rfl (fun hc42 => ?_) (fun hc42 => ?_)
    · rw [if_pos hc42] at h
      refine kw_iconst C (kdec dc_Court_nextHits 29 rfl) 53 rfl rfl ⟨by decide, by decide⟩ ?_
      exact kw_sub (L' := [some (kr 50), some (ki x1), some (ki x2), none, some (ki x4)]) ⟨rfl, rfl, rfl, rfl, trivial⟩ (bd_pf_Court_nextHits_50_l21_j53 C σ_4 x1 x2 x4 0 x3 h hC hX61)
    · rw [if_neg hc42] at h
      refine kw_iconst C (kdec dc_Court_nextHits 25 rfl) 46 rfl rfl ⟨by decide, by decide⟩ ?_
      refine kw_iload C (kdec dc_Court_nextHits 26 rfl) 48 rfl rfl ?_
      refine kw_ishl C (kdec dc_Court_nextHits 27 rfl) 49 rfl ?_
      refine kw_goto C (kdec dc_Court_nextHits 28 rfl) 53 (by decide) ?_
      exact kw_sub (L' := [some (kr 50), some (ki x1), some (ki x2), none, some (ki x4)]) ⟨rfl, rfl, rfl, rfl, trivial⟩ (bd_pf_Court_nextHits_50_l21_j53 C σ_4 x1 x2 x4 (kshl 1 x4) x3 h hC hX61)
theorem lp_pf_Court_nextHits_50_l21 {x : kX} {l0 : Launch} {Q : State → Prop} (C : kCx x prog_3_method_2_code "PoetFines$Court" (some .int) kcl yC 5 l0 R0_pf_Court_nextHits_50) (x1 : Int) (x2 : Int) {ex : (kM × Int)} (hX61 : ∀ (σ' : kM) (x3' : Int), ex = (σ', x3') → KW x 0 0 Q σ' 61 [none, none, none, some (ki x3'), none] []) (n : Nat) (σ : kM) (x3 : Int) (x4 : Int) (h : kloop (fun st => pf_Court_nextHits_50_l21 st.1 x1 x2 st.2.1 st.2.2) n (σ, x3, x4) = some ex) : KW x 0 0 Q σ 21 [some (kr 50), some (ki x1), some (ki x2), some (ki x3), some (ki x4)] [] :=
  kloop_ind (P := (fun st : kM × Int × Int => KW x 0 0 Q st.1 21 [some (kr 50), some (ki x1), some (ki x2), some (ki (st.2.1)), some (ki (st.2.2))] [])) (fun st out hb hc hx => bd_pf_Court_nextHits_50_l21 C st.1 x1 x2 st.2.1 st.2.2 hb (fun a0 a1 a2 e => hc _ e) (fun a0 a1 e => hX61 _ _ ((hx _ e).symm))) n (σ, x3, x4) h
def pf_Court_nextHits_50 (σ : kM) (x1 : Int) : Option (Int × kM) :=
  kchk (0 ≤ (w32 (53 + x1)) ∧ (w32 (53 + x1)) < 85) <|
  klet (σ 31 (w32 (53 + x1)).toNat) fun x2_2 =>
  (kloop (fun st => pf_Court_nextHits_50_l21 st.1 x1 x2_2 st.2.1 st.2.2) kFuel (σ, 0, 0)).bind fun (σ_10, x3_11) =>
  some ((x3_11, σ_10))
set_option maxHeartbeats 4000000 in
theorem bd_pf_Court_nextHits_50 {x : kX} {l0 : Launch} {Q : State → Prop} (C : kCx x prog_3_method_2_code "PoetFines$Court" (some .int) kcl yC 5 l0 R0_pf_Court_nextHits_50) (σ : kM) (x1 : Int) {out : Int × kM} (h : pf_Court_nextHits_50 σ x1 = some out) (hR : ∀ (r : Int) (τ : kM), out = (r, τ) → Q = kQ x (some (ki r)) τ 0 0) : KW x 0 0 Q σ 0 [some (kr 50), some (ki x1), none, none, none] [] := by
  unfold pf_Court_nextHits_50 at h
  refine kw_aload_n C (kdec dc_Court_nextHits 0 rfl) rfl 1 rfl rfl ?_
  refine kw_getR C (kdec dc_Court_nextHits 1 rfl) 4 rfl fd_C_Court_38_50 ?_
  refine kw_getR C (kdec dc_Court_nextHits 2 rfl) 7 rfl fd_C_Court_42_43 ?_
  refine kw_getR C (kdec dc_Court_nextHits 3 rfl) 10 rfl fd_C_Court_48_30 ?_
  refine kw_bipush (v := 53) C (kdec dc_Court_nextHits 4 rfl) 12 rfl (by decide) ⟨by decide, by decide⟩ ?_
  refine kw_iload_n C (kdec dc_Court_nextHits 5 rfl) rfl 13 rfl rfl ?_
  refine kw_iadd C (kdec dc_Court_nextHits 6 rfl) 14 rfl ?_
  obtain ⟨hc_1, h⟩ := kchk_h h
  refine kw_iald C (kdec dc_Court_nextHits 7 rfl) 15 rfl rfl hc_1.1 hc_1.2 ?_
  obtain ⟨x2_2, ex2_2, h⟩ := klet_h h
  refine kw_top ex2_2 ?_
  refine kw_istore_n (L' := [some (kr 50), some (ki x1), some (ki x2_2), none, none]) C (kdec dc_Court_nextHits 8 rfl) rfl 16 rfl (by decide) rfl rfl ?_
  refine kw_iconst C (kdec dc_Court_nextHits 9 rfl) 17 rfl rfl ⟨by decide, by decide⟩ ?_
  refine kw_istore_n (L' := [some (kr 50), some (ki x1), some (ki x2_2), some (ki 0), none]) C (kdec dc_Court_nextHits 10 rfl) rfl 18 rfl (by decide) rfl rfl ?_
  refine kw_iconst C (kdec dc_Court_nextHits 11 rfl) 19 rfl rfl ⟨by decide, by decide⟩ ?_
  refine kw_istore (L' := [some (kr 50), some (ki x1), some (ki x2_2), some (ki 0), some (ki 0)]) C (kdec dc_Court_nextHits 12 rfl) 21 rfl (by decide) rfl rfl ?_
  obtain ⟨ex_8, hl_9, h⟩ := kbind_h h
  refine lp_pf_Court_nextHits_50_l21 C x1 x2_2 ?_ kFuel σ 0 0 hl_9
  · intro σ_10 x3_11 e
    subst ex_8
    try dsimp only at h
    refine kw_iload_n C (kdec dc_Court_nextHits 34 rfl) rfl 62 rfl rfl ?_
    obtain rfl := Option.some.inj h
    exact kw_Q (hR _ _ rfl) (kw_ireturn C (kdec dc_Court_nextHits 35 rfl))
theorem mt_pf_Court_nextHits_50 (l0 : Launch) {σ : kM} {x1 : Int} {r : Int} {τ : kM} (h : pf_Court_nextHits_50 σ x1 = some (r, τ)) : kMet l0 ky_Court_nextHits prog_3_method_2_code 5 (some .int) R0_pf_Court_nextHits_50 kcl yC σ [kr 50, ki x1] (some (ki r)) τ := kMet.of' [some (kr 50), some (ki x1), none, none, none] (by decide) (Nat.le_of_ble_eq_true rfl) ⟨rfl, rfl, trivial⟩ (fun x C => bd_pf_Court_nextHits_50 C σ x1 h (fun r τ e => by cases e; rfl))

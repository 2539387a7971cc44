def R0_pf_P_readings_0 : Room := ({ frames := 13, cells := 1, slots := 6, locals := 330 } : Room)
def pf_P_readings_0_j10 (σ : kM) (x1 : Int) : Option ((String ⊕ Int) × kM) :=
  (pf_Court_assignReadings_50 σ).bind fun σ_1 =>
  if x1 = ((-1)) then
    some ((.inr (σ_1 50 8), σ_1))
  else
    kchk (0 ≤ x1 ∧ x1 < 4) <|
    some ((.inr (σ_1 56 x1.toNat), σ_1))
set_option maxHeartbeats 4000000 in
theorem bd_pf_P_readings_0_j10 {x : kX} {l0 : Launch} {Q : State → Prop} (C : kCx x prog_1_method_25_code "PoetFines" (some .int) kcl yC 2 l0 R0_pf_P_readings_0) (hT : kTb x) (hfl : l0.stackTraces = false) (σ : kM) (x1 : Int) {out : (String ⊕ Int) × kM} (h : pf_P_readings_0_j10 σ x1 = some out) (hR : ∀ (r : Int) (τ : kM), out = (.inr r, τ) → Q = kQX x (.inr (some (ki r))) τ 1 6) (hE : ∀ (E : String) (τ : kM), out = (.inl E, τ) → Q = kQX x (.inl E) τ 1 6) : KW x 1 6 Q σ 10 [some (kr 0), some (ki x1)] [] := by
  unfold pf_P_readings_0_j10 at h
  refine kw_aload_n C (kdec dc_P_readings 6 rfl) rfl 11 rfl rfl ?_
  refine kw_getR C (kdec dc_P_readings 7 rfl) 14 rfl fd_C_P_72_0 ?_
  obtain ⟨σ_1, hg_3, h⟩ := kbind_h h
  refine kw_callV (As := []) C (kdec dc_P_readings 8 rfl) 17 rfl cv_P_268 rfl rfl (mt_pf_Court_assignReadings_50 l0 hg_3) ⟨rfl, rfl⟩ ⟨Nat.le_of_ble_eq_true rfl, Nat.le_of_ble_eq_true rfl⟩ ⟨Nat.le_of_ble_eq_true rfl, Nat.le_of_ble_eq_true rfl⟩ rfl (Nat.le_of_ble_eq_true rfl) ?_
  change KW x 1 6 Q σ_1 17 [some (kr 0), some (ki x1)] []
  refine kw_iload_n C (kdec dc_P_readings 9 rfl) rfl 18 rfl rfl ?_
  refine kw_iconst C (kdec dc_P_readings 10 rfl) 19 rfl rfl ⟨by decide, by decide⟩ ?_
  refine kw_icmp_ne C (kdec dc_P_readings 11 rfl) 32 22 (by decide) rfl (fun hc19 => ?_) (fun hc19 => ?_)
  · rw [if_neg hc19] at h
    refine kw_aload_n C (kdec dc_P_readings 16 rfl) rfl 33 rfl rfl ?_
    refine kw_getR C (kdec dc_P_readings 17 rfl) 36 rfl fd_C_P_72_0 ?_
    refine kw_getR C (kdec dc_P_readings 18 rfl) 39 rfl fd_C_P_274_50 ?_
    refine kw_iload_n C (kdec dc_P_readings 19 rfl) rfl 40 rfl rfl ?_
    obtain ⟨hc_2, h⟩ := kchk_h h
    refine kw_iald C (kdec dc_P_readings 20 rfl) 41 rfl rfl hc_2.1 hc_2.2 ?_
    obtain rfl := Option.some.inj h
    exact kw_Q (hR _ _ rfl) (kw_xret (by decide) (by decide) (kw_ireturn C (kdec dc_P_readings 21 rfl)))
  · rw [if_pos hc19] at h
    refine kw_aload_n C (kdec dc_P_readings 12 rfl) rfl 23 rfl rfl ?_
    refine kw_getR C (kdec dc_P_readings 13 rfl) 26 rfl fd_C_P_72_0 ?_
    refine kw_getI C (kdec dc_P_readings 14 rfl) 29 rfl fd_C_P_271_50 ?_
    refine kw_goto C (kdec dc_P_readings 15 rfl) 41 (by decide) ?_
    obtain rfl := Option.some.inj h
    exact kw_Q (hR _ _ rfl) (kw_xret (by decide) (by decide) (kw_ireturn C (kdec dc_P_readings 21 rfl)))
def pf_P_readings_0 (σ : kM) (x1 : Int) : Option ((String ⊕ Int) × kM) :=
  if x1 = ((-1)) then
    pf_P_readings_0_j10 σ x1
  else
    (pf_P_needPoet_0 σ x1).bind fun q_7 => match q_7 with
    | (.inl E_6, σ_4) => some (.inl E_6, σ_4)
    | (.inr _, σ_4) =>
      pf_P_readings_0_j10 σ_4 x1
set_option maxHeartbeats 4000000 in
theorem bd_pf_P_readings_0 {x : kX} {l0 : Launch} {Q : State → Prop} (C : kCx x prog_1_method_25_code "PoetFines" (some .int) kcl yC 2 l0 R0_pf_P_readings_0) (hT : kTb x) (hfl : l0.stackTraces = false) (σ : kM) (x1 : Int) {out : (String ⊕ Int) × kM} (h : pf_P_readings_0 σ x1 = some out) (hR : ∀ (r : Int) (τ : kM), out = (.inr r, τ) → Q = kQX x (.inr (some (ki r))) τ 1 6) (hE : ∀ (E : String) (τ : kM), out = (.inl E, τ) → Q = kQX x (.inl E) τ 1 6) : KW x 0 0 Q σ 0 [some (kr 0), some (ki x1)] [] := by
  unfold pf_P_readings_0 at h
  refine kw_iload_n C (kdec dc_P_readings 0 rfl) rfl 1 rfl rfl ?_
  refine kw_iconst C (kdec dc_P_readings 1 rfl) 2 rfl rfl ⟨by decide, by decide⟩ ?_
  refine kw_icmp_eq C (kdec dc_P_readings 2 rfl) 10 5 (by decide) rfl (fun hc2 => ?_) (fun hc2 => ?_)
  · rw [if_pos hc2] at h
    exact kw_widen (by decide) (by decide) (bd_pf_P_readings_0_j10 C hT hfl σ x1 h hR hE)
  · rw [if_neg hc2] at h
    refine kw_aload_n C (kdec dc_P_readings 3 rfl) rfl 6 rfl rfl ?_
    refine kw_iload_n C (kdec dc_P_readings 4 rfl) rfl 7 rfl rfl ?_
    obtain ⟨⟨q_7, σ_4⟩, hg_5, h⟩ := kbind_h h
    rcases q_7 with E_6 | _
    · dsimp only at h
      obtain rfl := Option.some.inj h
      exact kw_Q (hE _ _ rfl) (kw_callVX_t (As := [ki x1]) C hT (kdec dc_P_readings 5 rfl) cv_P_162 rfl rfl (me_pf_P_needPoet_0 l0 hfl hg_5) ⟨rfl, rfl⟩ ⟨Nat.le_of_ble_eq_true rfl, Nat.le_of_ble_eq_true rfl⟩ ⟨Nat.le_of_ble_eq_true rfl, Nat.le_of_ble_eq_true rfl⟩ rfl (Nat.le_of_ble_eq_true rfl) (Nat.le_of_ble_eq_true rfl) (Nat.le_of_ble_eq_true rfl))
    · dsimp only at h
      refine kw_callVX (As := [ki x1]) C (kdec dc_P_readings 5 rfl) 10 rfl cv_P_162 rfl rfl (mx_pf_P_needPoet_0 l0 hfl hg_5) ⟨rfl, rfl⟩ ⟨Nat.le_of_ble_eq_true rfl, Nat.le_of_ble_eq_true rfl⟩ ⟨Nat.le_of_ble_eq_true rfl, Nat.le_of_ble_eq_true rfl⟩ rfl (Nat.le_of_ble_eq_true rfl) ?_
      change KW x 1 6 Q σ_4 10 [some (kr 0), some (ki x1)] []
      exact kw_widen (by decide) (by decide) (bd_pf_P_readings_0_j10 C hT hfl σ_4 x1 h hR hE)
theorem mx_pf_P_readings_0 (l0 : Launch) (hfl : l0.stackTraces = false) {σ : kM} {x1 : Int} {r : Int} {τ : kM} (h : pf_P_readings_0 σ x1 = some (.inr r, τ)) : kXet l0 ky_P_readings prog_1_method_25_code 2 (some .int) R0_pf_P_readings_0 kcl yC σ [kr 0, ki x1] (.inr (some (ki r))) τ 1 6 := kXet.of [some (kr 0), some (ki x1)] (by decide) (Nat.le_of_ble_eq_true rfl) ⟨rfl, rfl, trivial⟩ (fun x C hT => bd_pf_P_readings_0 C hT hfl σ x1 h (fun r τ e => by cases e; rfl) (fun E τ e => by cases e))
theorem me_pf_P_readings_0 (l0 : Launch) (hfl : l0.stackTraces = false) {σ : kM} {x1 : Int} {E : String} {τ : kM} (h : pf_P_readings_0 σ x1 = some (.inl E, τ)) : kXet l0 ky_P_readings prog_1_method_25_code 2 (some .int) R0_pf_P_readings_0 kcl yC σ [kr 0, ki x1] (.inl E) τ 1 6 := kXet.of [some (kr 0), some (ki x1)] (by decide) (Nat.le_of_ble_eq_true rfl) ⟨rfl, rfl, trivial⟩ (fun x C hT => bd_pf_P_readings_0 C hT hfl σ x1 h (fun r τ e => by cases e) (fun E τ e => by cases e; rfl))
def R0_pf_Oracle_bestBurner_57 : Room := ({ frames := 6, cells := 0, slots := 0, locals := 145 } : Room)
def pf_Oracle_bestBurner_57_l22_j88 (σ : kM) (x1 : Int) (x2 : Int) (x3 : Int) (x4 : Int) : Option ((kM × Int × Int × Int) ⊕ ((kM × Int))) :=
  klet (w32 (x4 + 1)) fun x4_6 =>
  some (Sum.inl (σ, x2, x3, x4_6))
set_option maxHeartbeats 4000000 in
theorem bd_pf_Oracle_bestBurner_57_l22_j88 {x : kX} {l0 : Launch} {Q : State → Prop} (C : kCx x prog_5_method_8_code "PoetFines$Oracle" (some .int) kcl yC 5 l0 R0_pf_Oracle_bestBurner_57) (σ : kM) (x1 : Int) (x2 : Int) (x3 : Int) (x4 : Int) {out : (kM × Int × Int × Int) ⊕ ((kM × Int))} (h : pf_Oracle_bestBurner_57_l22_j88 σ x1 x2 x3 x4 = some out) (hC : ∀ (σ' : kM) (x2' : Int) (x3' : Int) (x4' : Int), out = Sum.inl (σ', x2', x3', x4') → KW x 0 0 Q σ' 22 [some (kr 57), some (ki x1), some (ki x2'), some (ki x3'), some (ki x4')] []) (hX94 : ∀ (σ' : kM) (x3' : Int), out = Sum.inr (σ', x3') → KW x 0 0 Q σ' 94 [none, none, none, some (ki x3'), none] []) : KW x 0 0 Q σ 88 [some (kr 57), some (ki x1), some (ki x2), some (ki x3), some (ki x4)] [] := by
  unfold pf_Oracle_bestBurner_57_l22_j88 at h
  obtain ⟨x4_6, ex4_6, h⟩ := klet_h h
  refine kw_iinc (L' := [some (kr 57), some (ki x1), some (ki x2), some (ki x3), some (ki x4_6)]) C (kdec dc_Oracle_bestBurner 45 rfl) 91 rfl rfl (by decide) rfl (by rw [ex4_6]; rfl) ?_
  refine kw_goto C (kdec dc_Oracle_bestBurner 46 rfl) 22 (by decide) ?_
  obtain rfl := Option.some.inj h
  exact (hC _ _ _ _ rfl)
def pf_Oracle_bestBurner_57_l22 (σ : kM) (x1 : Int) (x2 : Int) (x3 : Int) (x4 : Int) : Option ((kM × Int × Int × Int) ⊕ ((kM × Int))) :=
  if (σ 3 2) ≤ x4 then
    some (Sum.inr (σ, x3))
  else
    kchk (0 ≤ x4 ∧ x4 < 4) <|
    if (σ 4 x4.toNat) ≤ 1 then
      pf_Oracle_bestBurner_57_l22_j88 σ x1 x2 x3 x4
    else
      (pf_Oracle_begin_57 σ).bind fun σ_7 =>
      (pf_Stage_turnPage_64 σ_7 x4).bind fun σ_8 =>
      (pf_Oracle_letGoBy_57 σ_8 x1).bind fun σ_9 =>
      if x2 ≤ (σ_9 65 4) then
        pf_Oracle_bestBurner_57_l22_j88 σ_9 x1 x2 x3 x4
      else
        klet (σ_9 65 4) fun x2_10 =>
        pf_Oracle_bestBurner_57_l22_j88 σ_9 x1 x2_10 x4 x4
set_option maxHeartbeats 4000000 in
theorem bd_pf_Oracle_bestBurner_57_l22 {x : kX} {l0 : Launch} {Q : State → Prop} (C : kCx x prog_5_method_8_code "PoetFines$Oracle" (some .int) kcl yC 5 l0 R0_pf_Oracle_bestBurner_57) (σ : kM) (x1 : Int) (x2 : Int) (x3 : Int) (x4 : Int) {out : (kM × Int × Int × Int) ⊕ ((kM × Int))} (h : pf_Oracle_bestBurner_57_l22 σ x1 x2 x3 x4 = some out) (hC : ∀ (σ' : kM) (x2' : Int) (x3' : Int) (x4' : Int), out = Sum.inl (σ', x2', x3', x4') → KW x 0 0 Q σ' 22 [some (kr 57), some (ki x1), some (ki x2'), some (ki x3'), some (ki x4')] []) (hX94 : ∀ (σ' : kM) (x3' : Int), out = Sum.inr (σ', x3') → KW x 0 0 Q σ' 94 [none, none, none, some (ki x3'), none] []) : KW x 0 0 Q σ 22 [some (kr 57), some (ki x1), some (ki x2), some (ki x3), some (ki x4)] [] := by
  unfold pf_Oracle_bestBurner_57_l22 at h
  refine kw_iload C (kdec dc_Oracle_bestBurner 13 rfl) 24 rfl rfl ?_
  refine kw_aload_n C (kdec dc_Oracle_bestBurner 14 rfl) rfl 25 rfl rfl ?_
  refine kw_getR C (kdec dc_Oracle_bestBurner 15 rfl) 28 rfl fd_C_Oracle_42_57 ?_
  refine kw_getI C (kdec dc_Oracle_bestBurner 16 rfl) 31 rfl fd_C_Oracle_87_3 ?_
  refine kw_icmp_ge C (kdec dc_Oracle_bestBurner 17 rfl) 94 34 (by decide) rfl (fun hc31 => ?_) (fun hc31 => ?_)
  · rw [if_pos hc31] at h
    obtain rfl := Option.some.inj h
    exact kw_sub (L' := [none, none, none, some (ki x3), none]) ⟨rfl, trivial⟩ (hX94 _ _ rfl)
  · rw [if_neg hc31] at h
    refine kw_aload_n C (kdec dc_Oracle_bestBurner 18 rfl) rfl 35 rfl rfl ?_
    refine kw_getR C (kdec dc_Oracle_bestBurner 19 rfl) 38 rfl fd_C_Oracle_42_57 ?_
    refine kw_getR C (kdec dc_Oracle_bestBurner 20 rfl) 41 rfl fd_C_Oracle_106_3 ?_
    refine kw_iload C (kdec dc_Oracle_bestBurner 21 rfl) 43 rfl rfl ?_
    obtain ⟨hc_5, h⟩ := kchk_h h
    refine kw_iald C (kdec dc_Oracle_bestBurner 22 rfl) 44 rfl rfl hc_5.1 hc_5.2 ?_
    refine kw_iconst C (kdec dc_Oracle_bestBurner 23 rfl) 45 rfl rfl ⟨by decide, by decide⟩ ?_
    refine kw_icmp_le C (kdec dc_Oracle_bestBurner 24 rfl) 88 48 (by decide) rfl (fun hc45 => ?_) (fun hc45 => ?_)
    · rw [if_pos hc45] at h
      exact bd_pf_Oracle_bestBurner_57_l22_j88 C σ x1 x2 x3 x4 h hC hX94
    · rw [if_neg hc45] at h
      refine kw_aload_n C (kdec dc_Oracle_bestBurner 25 rfl) rfl 49 rfl rfl ?_
      obtain ⟨σ_7, hg_13, h⟩ := kbind_h h
      refine kw_callV (As := []) C (kdec dc_Oracle_bestBurner 26 rfl) 52 rfl cv_Oracle_64 rfl rfl (mt_pf_Oracle_begin_57 l0 hg_13) ⟨rfl, rfl⟩ ⟨Nat.le_of_ble_eq_true rfl, Nat.le_of_ble_eq_true rfl⟩ ⟨Nat.zero_le _, Nat.zero_le _⟩ rfl (Nat.le_of_ble_eq_true rfl) ?_
      change KW x 0 0 Q σ_7 52 [some (kr 57), some (ki x1), some (ki x2), some (ki x3), some (ki x4)] []
      refine kw_aload_n C (kdec dc_Oracle_bestBurner 27 rfl) rfl 53 rfl rfl ?_
      refine kw_getR C (kdec dc_Oracle_bestBurner 28 rfl) 56 rfl fd_C_Oracle_55_57 ?_
      refine kw_iload C (kdec dc_Oracle_bestBurner 29 rfl) 58 rfl rfl ?_
      obtain ⟨σ_8, hg_12, h⟩ := kbind_h h
      refine kw_callV (As := [ki x4]) C (kdec dc_Oracle_bestBurner 30 rfl) 61 rfl cv_Oracle_109 rfl rfl (mt_pf_Stage_turnPage_64 l0 hg_12) ⟨rfl, rfl⟩ ⟨Nat.le_of_ble_eq_true rfl, Nat.le_of_ble_eq_true rfl⟩ ⟨Nat.zero_le _, Nat.zero_le _⟩ rfl (Nat.le_of_ble_eq_true rfl) ?_
      change KW x 0 0 Q σ_8 61 [some (kr 57), some (ki x1), some (ki x2), some (ki x3), some (ki x4)] []
      refine kw_aload_n C (kdec dc_Oracle_bestBurner 31 rfl) rfl 62 rfl rfl ?_
      refine kw_iload_n C (kdec dc_Oracle_bestBurner 32 rfl) rfl 63 rfl rfl ?_
      obtain ⟨σ_9, hg_11, h⟩ := kbind_h h
      refine kw_callV (As := [ki x1]) C (kdec dc_Oracle_bestBurner 33 rfl) 66 rfl cv_Oracle_67 rfl rfl (mt_pf_Oracle_letGoBy_57 l0 hg_11) ⟨rfl, rfl⟩ ⟨Nat.le_of_ble_eq_true rfl, Nat.le_of_ble_eq_true rfl⟩ ⟨Nat.zero_le _, Nat.zero_le _⟩ rfl (Nat.le_of_ble_eq_true rfl) ?_
      change KW x 0 0 Q σ_9 66 [some (kr 57), some (ki x1), some (ki x2), some (ki x3), some (ki x4)] []
      refine kw_aload_n C (kdec dc_Oracle_bestBurner 34 rfl) rfl 67 rfl rfl ?_
      refine kw_getR C (kdec dc_Oracle_bestBurner 35 rfl) 70 rfl fd_C_Oracle_63_57 ?_
      refine kw_getI C (kdec dc_Oracle_bestBurner 36 rfl) 73 rfl fd_C_Oracle_103_65 ?_
      refine kw_iload_n C (kdec dc_Oracle_bestBurner 37 rfl) rfl 74 rfl rfl ?_
      refine kw_icmp_ge C (kdec dc_Oracle_bestBurner 38 rfl) 88 77 (by decide) rfl (fun hc74 => ?_) (fun hc74 => ?_)
      · rw [if_pos hc74] at h
        exact bd_pf_Oracle_bestBurner_57_l22_j88 C σ_9 x1 x2 x3 x4 h hC hX94
      · rw [if_neg hc74] at h
        refine kw_aload_n C (kdec dc_Oracle_bestBurner 39 rfl) rfl 78 rfl rfl ?_
        refine kw_getR C (kdec dc_Oracle_bestBurner 40 rfl) 81 rfl fd_C_Oracle_63_57 ?_
        refine kw_getI C (kdec dc_Oracle_bestBurner 41 rfl) 84 rfl fd_C_Oracle_103_65 ?_
        obtain ⟨x2_10, ex2_10, h⟩ := klet_h h
        refine kw_top ex2_10 ?_
        refine kw_istore_n (L' := [some (kr 57), some (ki x1), some (ki x2_10), some (ki x3), some (ki x4)]) C (kdec dc_Oracle_bestBurner 42 rfl) rfl 85 rfl (by decide) rfl rfl ?_
        refine kw_iload C (kdec dc_Oracle_bestBurner 43 rfl) 87 rfl rfl ?_
        refine kw_istore_n (L' := [some (kr 57), some (ki x1), some (ki x2_10), some (ki x4), some (ki x4)]) C (kdec dc_Oracle_bestBurner 44 rfl) rfl 88 rfl (by decide) rfl rfl ?_
        exact bd_pf_Oracle_bestBurner_57_l22_j88 C σ_9 x1 x2_10 x4 x4 h hC hX94
theorem lp_pf_Oracle_bestBurner_57_l22 {x : kX} {l0 : Launch} {Q : State → Prop} (C : kCx x prog_5_method_8_code "PoetFines$Oracle" (some .int) kcl yC 5 l0 R0_pf_Oracle_bestBurner_57) (x1 : Int) {ex : (kM × Int)} (hX94 : ∀ (σ' : kM) (x3' : Int), ex = (σ', x3') → KW x 0 0 Q σ' 94 [none, none, none, some (ki x3'), none] []) (n : Nat) (σ : kM) (x2 : Int) (x3 : Int) (x4 : Int) (h : kloop (fun st => pf_Oracle_bestBurner_57_l22 st.1 x1 st.2.1 st.2.2.1 st.2.2.2) n (σ, x2, x3, x4) = some ex) : KW x 0 0 Q σ 22 [some (kr 57), some (ki x1), some (ki x2), some (ki x3), some (ki x4)] [] :=
  kloop_ind (P := (fun st : kM × Int × Int × Int => KW x 0 0 Q st.1 22 [some (kr 57), some (ki x1), some (ki (st.2.1)), some (ki (st.2.2.1)), some (ki (st.2.2.2))] [])) (fun st out hb hc hx => bd_pf_Oracle_bestBurner_57_l22 C st.1 x1 st.2.1 st.2.2.1 st.2.2.2 hb (fun a0 a1 a2 a3 e => hc _ e) (fun a0 a1 e => hX94 _ _ ((hx _ e).symm))) n (σ, x2, x3, x4) h
def pf_Oracle_bestBurner_57 (σ : kM) (x1 : Int) : Option (Int × kM) :=
  (pf_Oracle_begin_57 σ).bind fun σ_1 =>
  (pf_Oracle_letGoBy_57 σ_1 x1).bind fun σ_2 =>
  klet (σ_2 65 4) fun x2_3 =>
  klet ((-1)) fun x3_4 =>
  (kloop (fun st => pf_Oracle_bestBurner_57_l22 st.1 x1 st.2.1 st.2.2.1 st.2.2.2) kFuel (σ_2, x2_3, x3_4, 0)).bind fun (σ_16, x3_17) =>
  some ((x3_17, σ_16))
set_option maxHeartbeats 4000000 in
theorem bd_pf_Oracle_bestBurner_57 {x : kX} {l0 : Launch} {Q : State → Prop} (C : kCx x prog_5_method_8_code "PoetFines$Oracle" (some .int) kcl yC 5 l0 R0_pf_Oracle_bestBurner_57) (σ : kM) (x1 : Int) {out : Int × kM} (h : pf_Oracle_bestBurner_57 σ x1 = some out) (hR : ∀ (r : Int) (τ : kM), out = (r, τ) → Q = kQ x (some (ki r)) τ 0 0) : KW x 0 0 Q σ 0 [some (kr 57), some (ki x1), none, none, none] [] := by
  unfold pf_Oracle_bestBurner_57 at h
  refine kw_aload_n C (kdec dc_Oracle_bestBurner 0 rfl) rfl 1 rfl rfl ?_
  obtain ⟨σ_1, hg_19, h⟩ := kbind_h h
  refine kw_callV (As := []) C (kdec dc_Oracle_bestBurner 1 rfl) 4 rfl cv_Oracle_64 rfl rfl (mt_pf_Oracle_begin_57 l0 hg_19) ⟨rfl, rfl⟩ ⟨Nat.le_of_ble_eq_true rfl, Nat.le_of_ble_eq_true rfl⟩ ⟨Nat.zero_le _, Nat.zero_le _⟩ rfl (Nat.le_of_ble_eq_true rfl) ?_
  change KW x 0 0 Q σ_1 4 [some (kr 57), some (ki x1), none, none, none] []
  refine kw_aload_n C (kdec dc_Oracle_bestBurner 2 rfl) rfl 5 rfl rfl ?_
  refine kw_iload_n C (kdec dc_Oracle_bestBurner 3 rfl) rfl 6 rfl rfl ?_
  obtain ⟨σ_2, hg_18, h⟩ := kbind_h h
  refine kw_callV (As := [ki x1]) C (kdec dc_Oracle_bestBurner 4 rfl) 9 rfl cv_Oracle_67 rfl rfl (mt_pf_Oracle_letGoBy_57 l0 hg_18) ⟨rfl, rfl⟩ ⟨Nat.le_of_ble_eq_true rfl, Nat.le_of_ble_eq_true rfl⟩ ⟨Nat.zero_le _, Nat.zero_le _⟩ rfl (Nat.le_of_ble_eq_true rfl) ?_
  change KW x 0 0 Q σ_2 9 [some (kr 57), some (ki x1), none, none, none] []
  refine kw_aload_n C (kdec dc_Oracle_bestBurner 5 rfl) rfl 10 rfl rfl ?_
  refine kw_getR C (kdec dc_Oracle_bestBurner 6 rfl) 13 rfl fd_C_Oracle_63_57 ?_
  refine kw_getI C (kdec dc_Oracle_bestBurner 7 rfl) 16 rfl fd_C_Oracle_103_65 ?_
  obtain ⟨x2_3, ex2_3, h⟩ := klet_h h
  refine kw_top ex2_3 ?_
  refine kw_istore_n (L' := [some (kr 57), some (ki x1), some (ki x2_3), none, none]) C (kdec dc_Oracle_bestBurner 8 rfl) rfl 17 rfl (by decide) rfl rfl ?_
  refine kw_iconst C (kdec dc_Oracle_bestBurner 9 rfl) 18 rfl rfl ⟨by decide, by decide⟩ ?_
  obtain ⟨x3_4, ex3_4, h⟩ := klet_h h
  refine kw_top ex3_4 ?_
  refine kw_istore_n (L' := [some (kr 57), some (ki x1), some (ki x2_3), some (ki x3_4), none]) C (kdec dc_Oracle_bestBurner 10 rfl) rfl 19 rfl (by decide) rfl rfl ?_
  refine kw_iconst C (kdec dc_Oracle_bestBurner 11 rfl) 20 rfl rfl ⟨by decide, by decide⟩ ?_
  refine kw_istore (L' := [some (kr 57), some (ki x1), some (ki x2_3), some (ki x3_4), some (ki 0)]) C (kdec dc_Oracle_bestBurner 12 rfl) 22 rfl (by decide) rfl rfl ?_
  obtain ⟨ex_14, hl_15, h⟩ := kbind_h h
  refine lp_pf_Oracle_bestBurner_57_l22 C x1 ?_ kFuel σ_2 x2_3 x3_4 0 hl_15
  · intro σ_16 x3_17 e
    subst ex_14
    try dsimp only at h
    refine kw_iload_n C (kdec dc_Oracle_bestBurner 47 rfl) rfl 95 rfl rfl ?_
    obtain rfl := Option.some.inj h
    exact kw_Q (hR _ _ rfl) (kw_ireturn C (kdec dc_Oracle_bestBurner 48 rfl))
theorem mt_pf_Oracle_bestBurner_57 (l0 : Launch) {σ : kM} {x1 : Int} {r : Int} {τ : kM} (h : pf_Oracle_bestBurner_57 σ x1 = some (r, τ)) : kMet l0 ky_Oracle_bestBurner prog_5_method_8_code 5 (some .int) R0_pf_Oracle_bestBurner_57 kcl yC σ [kr 57, ki x1] (some (ki r)) τ := kMet.of' [some (kr 57), some (ki x1), none, none, none] (by decide) (Nat.le_of_ble_eq_true rfl) ⟨rfl, rfl, trivial⟩ (fun x C => bd_pf_Oracle_bestBurner_57 C σ x1 h (fun r τ e => by cases e; rfl))
def R0_pf_World_total_58 : Room := ({ frames := 0, cells := 0, slots := 0, locals := 0 } : Room)
def pf_World_total_58_l5 (σ : kM) (x1 : Int) (x2 : Int) (x3 : Int) (x4 : Int) : Option ((Int × Int) ⊕ ((Int))) :=
  if x2 ≤ x4 then
    some (Sum.inr x3)
  else
    kchk (0 ≤ (w32 (x1 + x4)) ∧ (w32 (x1 + x4)) < 85) <|
    klet (w32 (x3 + (σ 59 (w32 (x1 + x4)).toNat))) fun x3_2 =>
    klet (w32 (x4 + 1)) fun x4_3 =>
    some (Sum.inl (x3_2, x4_3))
set_option maxHeartbeats 4000000 in
theorem bd_pf_World_total_58_l5 {x : kX} {l0 : Launch} {Q : State → Prop} (C : kCx x prog_12_method_8_code "PoetFines$World" (some .int) kcl yC 5 l0 R0_pf_World_total_58) (σ : kM) (x1 : Int) (x2 : Int) (x3 : Int) (x4 : Int) {out : (Int × Int) ⊕ ((Int))} (h : pf_World_total_58_l5 σ x1 x2 x3 x4 = some out) (hC : ∀ (x3' : Int) (x4' : Int), out = Sum.inl (x3', x4') → KW x 0 0 Q σ 5 [some (kr 58), some (ki x1), some (ki x2), some (ki x3'), some (ki x4')] []) (hX29 : ∀ (x3' : Int), out = Sum.inr x3' → KW x 0 0 Q σ 29 [none, none, none, some (ki x3'), none] []) : KW x 0 0 Q σ 5 [some (kr 58), some (ki x1), some (ki x2), some (ki x3), some (ki x4)] [] := by
  unfold pf_World_total_58_l5 at h
  refine kw_iload C (kdec dc_World_total 4 rfl) 7 rfl rfl ?_
  refine kw_iload_n C (kdec dc_World_total 5 rfl) rfl 8 rfl rfl ?_
  refine kw_icmp_ge C (kdec dc_World_total 6 rfl) 29 11 (by decide) rfl (fun hc8 => ?_) (fun hc8 => ?_)
  · rw [if_pos hc8] at h
    obtain rfl := Option.some.inj h
    exact kw_sub (L' := [none, none, none, some (ki x3), none]) ⟨rfl, trivial⟩ (hX29 _ rfl)
  · rw [if_neg hc8] at h
    refine kw_iload_n C (kdec dc_World_total 7 rfl) rfl 12 rfl rfl ?_
    refine kw_aload_n C (kdec dc_World_total 8 rfl) rfl 13 rfl rfl ?_
    refine kw_getR C (kdec dc_World_total 9 rfl) 16 rfl fd_C_World_11_58 ?_
    refine kw_iload_n C (kdec dc_World_total 10 rfl) rfl 17 rfl rfl ?_
    refine kw_iload C (kdec dc_World_total 11 rfl) 19 rfl rfl ?_
    refine kw_iadd C (kdec dc_World_total 12 rfl) 20 rfl ?_
    obtain ⟨hc_1, h⟩ := kchk_h h
    refine kw_iald C (kdec dc_World_total 13 rfl) 21 rfl rfl hc_1.1 hc_1.2 ?_
    refine kw_iadd C (kdec dc_World_total 14 rfl) 22 rfl ?_
    obtain ⟨x3_2, ex3_2, h⟩ := klet_h h
    refine kw_top ex3_2 ?_
    refine kw_istore_n (L' := [some (kr 58), some (ki x1), some (ki x2), some (ki x3_2), some (ki x4)]) C (kdec dc_World_total 15 rfl) rfl 23 rfl (by decide) rfl rfl ?_
    obtain ⟨x4_3, ex4_3, h⟩ := klet_h h
    refine kw_iinc (L' := [some (kr 58), some (ki x1), some (ki x2), some (ki x3_2), some (ki x4_3)]) C (kdec dc_World_total 16 rfl) 26 rfl rfl (by decide) rfl (by rw [ex4_3]; rfl) ?_
    refine kw_goto C (kdec dc_World_total 17 rfl) 5 (by decide) ?_
    obtain rfl := Option.some.inj h
    exact (hC _ _ rfl)
theorem lp_pf_World_total_58_l5 {x : kX} {l0 : Launch} {Q : State → Prop} (C : kCx x prog_12_method_8_code "PoetFines$World" (some .int) kcl yC 5 l0 R0_pf_World_total_58) (σ : kM) (x1 : Int) (x2 : Int) {ex : (Int)} (hX29 : ∀ (x3' : Int), ex = x3' → KW x 0 0 Q σ 29 [none, none, none, some (ki x3'), none] []) (n : Nat) (x3 : Int) (x4 : Int) (h : kloop (fun st => pf_World_total_58_l5 σ x1 x2 st.1 st.2) n (x3, x4) = some ex) : KW x 0 0 Q σ 5 [some (kr 58), some (ki x1), some (ki x2), some (ki x3), some (ki x4)] [] :=
  kloop_ind (P := (fun st : Int × Int => KW x 0 0 Q σ 5 [some (kr 58), some (ki x1), some (ki x2), some (ki (st.1)), some (ki (st.2))] [])) (fun st out hb hc hx => bd_pf_World_total_58_l5 C σ x1 x2 st.1 st.2 hb (fun a0 a1 e => hc _ e) (fun a0 e => hX29 _ ((hx _ e).symm))) n (x3, x4) h
def pf_World_total_58 (σ : kM) (x1 : Int) (x2 : Int) : Option (Int) :=
  (kloop (fun st => pf_World_total_58_l5 σ x1 x2 st.1 st.2) kFuel (0, 0)).bind fun x3_6 =>
  some x3_6
set_option maxHeartbeats 4000000 in
theorem bd_pf_World_total_58 {x : kX} {l0 : Launch} {Q : State → Prop} (C : kCx x prog_12_method_8_code "PoetFines$World" (some .int) kcl yC 5 l0 R0_pf_World_total_58) (σ : kM) (x1 : Int) (x2 : Int) {out : Int} (h : pf_World_total_58 σ x1 x2 = some out) (hR : ∀ (r : Int), out = r → Q = kQ x (some (ki r)) σ 0 0) : KW x 0 0 Q σ 0 [some (kr 58), some (ki x1), some (ki x2), none, none] [] := by
  unfold pf_World_total_58 at h
  refine kw_iconst C (kdec dc_World_total 0 rfl) 1 rfl rfl ⟨by decide, by decide⟩ ?_
  refine kw_istore_n (L' := [some (kr 58), some (ki x1), some (ki x2), some (ki 0), none]) C (kdec dc_World_total 1 rfl) rfl 2 rfl (by decide) rfl rfl ?_
  refine kw_iconst C (kdec dc_World_total 2 rfl) 3 rfl rfl ⟨by decide, by decide⟩ ?_
  refine kw_istore (L' := [some (kr 58), some (ki x1), some (ki x2), some (ki 0), some (ki 0)]) C (kdec dc_World_total 3 rfl) 5 rfl (by decide) rfl rfl ?_
  obtain ⟨ex_4, hl_5, h⟩ := kbind_h h
  refine lp_pf_World_total_58_l5 C σ x1 x2 ?_ kFuel 0 0 hl_5
  · intro x3_6 e
    subst ex_4
    try dsimp only at h
    refine kw_iload_n C (kdec dc_World_total 18 rfl) rfl 30 rfl rfl ?_
    obtain rfl := Option.some.inj h
    exact kw_Q (hR _ rfl) (kw_ireturn C (kdec dc_World_total 19 rfl))
theorem mt_pf_World_total_58 (l0 : Launch) {σ : kM} {x1 : Int} {x2 : Int} {r : Int} (h : pf_World_total_58 σ x1 x2 = some r) : kMet l0 ky_World_total prog_12_method_8_code 5 (some .int) R0_pf_World_total_58 kcl yC σ [kr 58, ki x1, ki x2] (some (ki r)) σ := kMet.of' [some (kr 58), some (ki x1), some (ki x2), none, none] (by decide) (Nat.le_of_ble_eq_true rfl) ⟨rfl, rfl, rfl, trivial⟩ (fun x C => bd_pf_World_total_58 C σ x1 x2 h (fun r e => by subst e; rfl))
def R0_pf_Oracle_bestPardon_57 : Room := ({ frames := 6, cells := 0, slots := 0, locals := 145 } : Room)
def pf_Oracle_bestPardon_57_l30_j113 (σ : kM) (x1 : Int) (x2 : Int) (x3 : Int) (x4 : Int) : Option ((kM × Int × Int × Int) ⊕ ((kM × Int))) :=
  klet (w32 (x4 + 1)) fun x4_6 =>
  some (Sum.inl (σ, x2, x3, x4_6))
set_option maxHeartbeats 4000000 in
theorem bd_pf_Oracle_bestPardon_57_l30_j113 {x : kX} {l0 : Launch} {Q : State → Prop} (C : kCx x prog_5_method_7_code "PoetFines$Oracle" (some .int) kcl yC 6 l0 R0_pf_Oracle_bestPardon_57) (σ : kM) (x1 : Int) (x2 : Int) (x3 : Int) (x4 : Int) {out : (kM × Int × Int × Int) ⊕ ((kM × Int))} (h : pf_Oracle_bestPardon_57_l30_j113 σ x1 x2 x3 x4 = some out) (hC : ∀ (σ' : kM) (x2' : Int) (x3' : Int) (x4' : Int), out = Sum.inl (σ', x2', x3', x4') → KW x 0 0 Q σ' 30 [some (kr 57), some (ki x1), some (ki x2'), some (ki x3'), some (ki x4'), none] []) (hX119 : ∀ (σ' : kM) (x3' : Int), out = Sum.inr (σ', x3') → KW x 0 0 Q σ' 119 [none, none, none, some (ki x3'), none, none] []) : KW x 0 0 Q σ 113 [some (kr 57), some (ki x1), some (ki x2), some (ki x3), some (ki x4), none] [] := by
  unfold pf_Oracle_bestPardon_57_l30_j113 at h
  obtain ⟨x4_6, ex4_6, h⟩ := klet_h h
  refine kw_iinc (L' := [some (kr 57), some (ki x1), some (ki x2), some (ki x3), some (ki x4_6), none]) C (kdec dc_Oracle_bestPardon 59 rfl) 116 rfl rfl (by decide) rfl (by rw [ex4_6]; rfl) ?_
  refine kw_goto C (kdec dc_Oracle_bestPardon 60 rfl) 30 (by decide) ?_
  obtain rfl := Option.some.inj h
  exact (hC _ _ _ _ rfl)
def pf_Oracle_bestPardon_57_l30 (σ : kM) (x1 : Int) (x2 : Int) (x3 : Int) (x4 : Int) : Option ((kM × Int × Int × Int) ⊕ ((kM × Int))) :=
  if (σ 3 2) ≤ x4 then
    some (Sum.inr (σ, x3))
  else
    kchk (0 ≤ (w32 (57 + x4)) ∧ (w32 (57 + x4)) < 85) <|
    if (σ 31 (w32 (57 + x4)).toNat) ≤ 0 then
      pf_Oracle_bestPardon_57_l30_j113 σ x1 x2 x3 x4
    else
      (pf_Oracle_begin_57 σ).bind fun σ_7 =>
      kchk (0 ≤ (w32 (57 + x4)) ∧ (w32 (57 + x4)) < 85) <|
      klet (kst σ_7 59 (kup (σ_7 59) ((w32 (57 + x4)).toNat) 0)) fun σ_9 =>
      (pf_Oracle_letGoBy_57 σ_9 x1).bind fun σ_10 =>
      (pf_World_total_58 σ_10 1 (σ_10 3 1)).bind fun r_11 =>
      if r_11 ≤ x2 then
        pf_Oracle_bestPardon_57_l30_j113 σ_10 x1 x2 x3 x4
      else
        pf_Oracle_bestPardon_57_l30_j113 σ_10 x1 r_11 x4 x4
set_option maxHeartbeats 4000000 in
theorem bd_pf_Oracle_bestPardon_57_l30 {x : kX} {l0 : Launch} {Q : State → Prop} (C : kCx x prog_5_method_7_code "PoetFines$Oracle" (some .int) kcl yC 6 l0 R0_pf_Oracle_bestPardon_57) (σ : kM) (x1 : Int) (x2 : Int) (x3 : Int) (x4 : Int) {out : (kM × Int × Int × Int) ⊕ ((kM × Int))} (h : pf_Oracle_bestPardon_57_l30 σ x1 x2 x3 x4 = some out) (hC : ∀ (σ' : kM) (x2' : Int) (x3' : Int) (x4' : Int), out = Sum.inl (σ', x2', x3', x4') → KW x 0 0 Q σ' 30 [some (kr 57), some (ki x1), some (ki x2'), some (ki x3'), some (ki x4'), none] []) (hX119 : ∀ (σ' : kM) (x3' : Int), out = Sum.inr (σ', x3') → KW x 0 0 Q σ' 119 [none, none, none, some (ki x3'), none, none] []) : KW x 0 0 Q σ 30 [some (kr 57), some (ki x1), some (ki x2), some (ki x3), some (ki x4), none] [] := by
  unfold pf_Oracle_bestPardon_57_l30 at h
  refine kw_iload C (kdec dc_Oracle_bestPardon 17 rfl) 32 rfl rfl ?_
  refine kw_aload_n C (kdec dc_Oracle_bestPardon 18 rfl) rfl 33 rfl rfl ?_
  refine kw_getR C (kdec dc_Oracle_bestPardon 19 rfl) 36 rfl fd_C_Oracle_42_57 ?_
  refine kw_getI C (kdec dc_Oracle_bestPardon 20 rfl) 39 rfl fd_C_Oracle_87_3 ?_
  refine kw_icmp_ge C (kdec dc_Oracle_bestPardon 21 rfl) 119 42 (by decide) rfl (fun hc39 => ?_) (fun hc39 => ?_)
  · rw [if_pos hc39] at h
    obtain rfl := Option.some.inj h
    exact kw_sub (L' := [none, none, none, some (ki x3), none, none]) ⟨rfl, trivial⟩ (hX119 _ _ rfl)
  · rw [if_neg hc39] at h
    refine kw_aload_n C (kdec dc_Oracle_bestPardon 22 rfl) rfl 43 rfl rfl ?_
    refine kw_getR C (kdec dc_Oracle_bestPardon 23 rfl) 46 rfl fd_C_Oracle_46_57 ?_
    refine kw_getR C (kdec dc_Oracle_bestPardon 24 rfl) 49 rfl fd_C_Oracle_98_29 ?_
    refine kw_getR C (kdec dc_Oracle_bestPardon 25 rfl) 52 rfl fd_C_Oracle_84_30 ?_
    refine kw_bipush (v := 57) C (kdec dc_Oracle_bestPardon 26 rfl) 54 rfl (by decide) ⟨by decide, by decide⟩ ?_
    refine kw_iload C (kdec dc_Oracle_bestPardon 27 rfl) 56 rfl rfl ?_
    refine kw_iadd C (kdec dc_Oracle_bestPardon 28 rfl) 57 rfl ?_
    obtain ⟨hc_5, h⟩ := kchk_h h
    refine kw_iald C (kdec dc_Oracle_bestPardon 29 rfl) 58 rfl rfl hc_5.1 hc_5.2 ?_
    refine kw_if_le C (kdec dc_Oracle_bestPardon 30 rfl) 113 61 (by decide) rfl (fun hc58 => ?_) (fun hc58 => ?_)
    · rw [if_pos hc58] at h
      exact bd_pf_Oracle_bestPardon_57_l30_j113 C σ x1 x2 x3 x4 h hC hX119
    · rw [if_neg hc58] at h
      refine kw_aload_n C (kdec dc_Oracle_bestPardon 31 rfl) rfl 62 rfl rfl ?_
      obtain ⟨σ_7, hg_14, h⟩ := kbind_h h
      refine kw_callV (As := []) C (kdec dc_Oracle_bestPardon 32 rfl) 65 rfl cv_Oracle_64 rfl rfl (mt_pf_Oracle_begin_57 l0 hg_14) ⟨rfl, rfl⟩ ⟨Nat.le_of_ble_eq_true rfl, Nat.le_of_ble_eq_true rfl⟩ ⟨Nat.zero_le _, Nat.zero_le _⟩ rfl (Nat.le_of_ble_eq_true rfl) ?_
      change KW x 0 0 Q σ_7 65 [some (kr 57), some (ki x1), some (ki x2), some (ki x3), some (ki x4), none] []
      refine kw_aload_n C (kdec dc_Oracle_bestPardon 33 rfl) rfl 66 rfl rfl ?_
      refine kw_getR C (kdec dc_Oracle_bestPardon 34 rfl) 69 rfl fd_C_Oracle_12_57 ?_
      refine kw_getR C (kdec dc_Oracle_bestPardon 35 rfl) 72 rfl fd_C_Oracle_84_58 ?_
      refine kw_bipush (v := 57) C (kdec dc_Oracle_bestPardon 36 rfl) 74 rfl (by decide) ⟨by decide, by decide⟩ ?_
      refine kw_iload C (kdec dc_Oracle_bestPardon 37 rfl) 76 rfl rfl ?_
      refine kw_iadd C (kdec dc_Oracle_bestPardon 38 rfl) 77 rfl ?_
      refine kw_iconst C (kdec dc_Oracle_bestPardon 39 rfl) 78 rfl rfl ⟨by decide, by decide⟩ ?_
      obtain ⟨hc_8, h⟩ := kchk_h h
      obtain ⟨σ_9, eσ_9, h⟩ := klet_h h
      refine kw_iast C (kdec dc_Oracle_bestPardon 40 rfl) 79 rfl rfl hc_8.1 hc_8.2 ?_
      refine kw_sig eσ_9 ?_
      refine kw_aload_n C (kdec dc_Oracle_bestPardon 41 rfl) rfl 80 rfl rfl ?_
      refine kw_iload_n C (kdec dc_Oracle_bestPardon 42 rfl) rfl 81 rfl rfl ?_
      obtain ⟨σ_10, hg_13, h⟩ := kbind_h h
      refine kw_callV (As := [ki x1]) C (kdec dc_Oracle_bestPardon 43 rfl) 84 rfl cv_Oracle_67 rfl rfl (mt_pf_Oracle_letGoBy_57 l0 hg_13) ⟨rfl, rfl⟩ ⟨Nat.le_of_ble_eq_true rfl, Nat.le_of_ble_eq_true rfl⟩ ⟨Nat.zero_le _, Nat.zero_le _⟩ rfl (Nat.le_of_ble_eq_true rfl) ?_
      change KW x 0 0 Q σ_10 84 [some (kr 57), some (ki x1), some (ki x2), some (ki x3), some (ki x4), none] []
      refine kw_aload_n C (kdec dc_Oracle_bestPardon 44 rfl) rfl 85 rfl rfl ?_
      refine kw_getR C (kdec dc_Oracle_bestPardon 45 rfl) 88 rfl fd_C_Oracle_12_57 ?_
      refine kw_iconst C (kdec dc_Oracle_bestPardon 46 rfl) 89 rfl rfl ⟨by decide, by decide⟩ ?_
      refine kw_aload_n C (kdec dc_Oracle_bestPardon 47 rfl) rfl 90 rfl rfl ?_
      refine kw_getR C (kdec dc_Oracle_bestPardon 48 rfl) 93 rfl fd_C_Oracle_42_57 ?_
      refine kw_getI C (kdec dc_Oracle_bestPardon 49 rfl) 96 rfl fd_C_Oracle_79_3 ?_
      obtain ⟨r_11, hg_12, h⟩ := kbind_h h
      refine kw_callV (As := [ki 1, ki (σ_10 3 1)]) C (kdec dc_Oracle_bestPardon 50 rfl) 99 rfl cv_Oracle_95 rfl rfl (mt_pf_World_total_58 l0 hg_12) ⟨rfl, rfl⟩ ⟨Nat.le_of_ble_eq_true rfl, Nat.le_of_ble_eq_true rfl⟩ ⟨Nat.zero_le _, Nat.zero_le _⟩ rfl (Nat.le_of_ble_eq_true rfl) ?_
      change KW x 0 0 Q σ_10 99 [some (kr 57), some (ki x1), some (ki x2), some (ki x3), some (ki x4), none] [ki r_11]
      refine kw_istore (L' := [some (kr 57), some (ki x1), some (ki x2), some (ki x3), some (ki x4), some (ki r_11)]) C (kdec dc_Oracle_bestPardon 51 rfl) 101 rfl (by decide) rfl rfl ?_
      refine kw_iload C (kdec dc_Oracle_bestPardon 52 rfl) 103 rfl rfl ?_
      refine kw_iload_n C (kdec dc_Oracle_bestPardon 53 rfl) rfl 104 rfl rfl ?_
      refine kw_icmp_le C (kdec dc_Oracle_bestPardon 54 rfl) 113 107 (by decide) rfl (fun hc104 => ?_) (fun hc104 => ?_)
      · rw [if_pos hc104] at h
        exact kw_sub (L' := [some (kr 57), some (ki x1), some (ki x2), some (ki x3), some (ki x4), none]) ⟨rfl, rfl, rfl, rfl, rfl, trivial⟩ (bd_pf_Oracle_bestPardon_57_l30_j113 C σ_10 x1 x2 x3 x4 h hC hX119)
      · rw [if_neg hc104] at h
        refine kw_iload C (kdec dc_Oracle_bestPardon 55 rfl) 109 rfl rfl ?_
        refine kw_istore_n (L' := [some (kr 57), some (ki x1), some (ki r_11), some (ki x3), some (ki x4), some (ki r_11)]) C (kdec dc_Oracle_bestPardon 56 rfl) rfl 110 rfl (by decide) rfl rfl ?_
        refine kw_iload C (kdec dc_Oracle_bestPardon 57 rfl) 112 rfl rfl ?_
        refine kw_istore_n (L' := [some (kr 57), some (ki x1), some (ki r_11), some (ki x4), some (ki x4), some (ki r_11)]) C (kdec dc_Oracle_bestPardon 58 rfl) rfl 113 rfl (by decide) rfl rfl ?_
        exact kw_sub (L' := [some (kr 57), some (ki x1), some (ki r_11), some (ki x4), some (ki x4), none]) ⟨rfl, rfl, rfl, rfl, rfl, trivial⟩ (bd_pf_Oracle_bestPardon_57_l30_j113 C σ_10 x1 r_11 x4 x4 h hC hX119)
theorem lp_pf_Oracle_bestPardon_57_l30 {x : kX} {l0 : Launch} {Q : State → Prop} (C : kCx x prog_5_method_7_code "PoetFines$Oracle" (some .int) kcl yC 6 l0 R0_pf_Oracle_bestPardon_57) (x1 : Int) {ex : (kM × Int)} (hX119 : ∀ (σ' : kM) (x3' : Int), ex = (σ', x3') → KW x 0 0 Q σ' 119 [none, none, none, some (ki x3'), none, none] []) (n : Nat) (σ : kM) (x2 : Int) (x3 : Int) (x4 : Int) (h : kloop (fun st => pf_Oracle_bestPardon_57_l30 st.1 x1 st.2.1 st.2.2.1 st.2.2.2) n (σ, x2, x3, x4) = some ex) : KW x 0 0 Q σ 30 [some (kr 57), some (ki x1), some (ki x2), some (ki x3), some (ki x4), none] [] :=
  kloop_ind (P := (fun st : kM × Int × Int × Int => KW x 0 0 Q st.1 30 [some (kr 57), some (ki x1), some (ki (st.2.1)), some (ki (st.2.2.1)), some (ki (st.2.2.2)), none] [])) (fun st out hb hc hx => bd_pf_Oracle_bestPardon_57_l30 C st.1 x1 st.2.1 st.2.2.1 st.2.2.2 hb (fun a0 a1 a2 a3 e => hc _ e) (fun a0 a1 e => hX119 _ _ ((hx _ e).symm))) n (σ, x2, x3, x4) h
def pf_Oracle_bestPardon_57 (σ : kM) (x1 : Int) : Option (Int × kM) :=
  (pf_Oracle_begin_57 σ).bind fun σ_1 =>
  (pf_Oracle_letGoBy_57 σ_1 x1).bind fun σ_2 =>
  (pf_World_total_58 σ_2 1 (σ_2 3 1)).bind fun r_3 =>
  klet ((-1)) fun x3_4 =>
  (kloop (fun st => pf_Oracle_bestPardon_57_l30 st.1 x1 st.2.1 st.2.2.1 st.2.2.2) kFuel (σ_2, r_3, x3_4, 0)).bind fun (σ_17, x3_18) =>
  some ((x3_18, σ_17))
set_option maxHeartbeats 4000000 in
theorem bd_pf_Oracle_bestPardon_57 {x : kX} {l0 : Launch} {Q : State → Prop} (C : kCx x prog_5_method_7_code "PoetFines$Oracle" (some .int) kcl yC 6 l0 R0_pf_Oracle_bestPardon_57) (σ : kM) (x1 : Int) {out : Int × kM} (h : pf_Oracle_bestPardon_57 σ x1 = some out) (hR : ∀ (r : Int) (τ : kM), out = (r, τ) → Q = kQ x (some (ki r)) τ 0 0) : KW x 0 0 Q σ 0 [some (kr 57), some (ki x1), none, none, none, none] [] := by
  unfold pf_Oracle_bestPardon_57 at h
  refine kw_aload_n C (kdec dc_Oracle_bestPardon 0 rfl) rfl 1 rfl rfl ?_
  obtain ⟨σ_1, hg_21, h⟩ := kbind_h h
  refine kw_callV (As := []) C (kdec dc_Oracle_bestPardon 1 rfl) 4 rfl cv_Oracle_64 rfl rfl (mt_pf_Oracle_begin_57 l0 hg_21) ⟨rfl, rfl⟩ ⟨Nat.le_of_ble_eq_true rfl, Nat.le_of_ble_eq_true rfl⟩ ⟨Nat.zero_le _, Nat.zero_le _⟩ rfl (Nat.le_of_ble_eq_true rfl) ?_
  change KW x 0 0 Q σ_1 4 [some (kr 57), some (ki x1), none, none, none, none] []
  refine kw_aload_n C (kdec dc_Oracle_bestPardon 2 rfl) rfl 5 rfl rfl ?_
  refine kw_iload_n C (kdec dc_Oracle_bestPardon 3 rfl) rfl 6 rfl rfl ?_
  obtain ⟨σ_2, hg_20, h⟩ := kbind_h h
  refine kw_callV (As := [ki x1]) C (kdec dc_Oracle_bestPardon 4 rfl) 9 rfl cv_Oracle_67 rfl rfl (mt_pf_Oracle_letGoBy_57 l0 hg_20) ⟨rfl, rfl⟩ ⟨Nat.le_of_ble_eq_true rfl, Nat.le_of_ble_eq_true rfl⟩ ⟨Nat.zero_le _, Nat.zero_le _⟩ rfl (Nat.le_of_ble_eq_true rfl) ?_
  change KW x 0 0 Q σ_2 9 [some (kr 57), some (ki x1), none, none, none, none] []
  refine kw_aload_n C (kdec dc_Oracle_bestPardon 5 rfl) rfl 10 rfl rfl ?_
  refine kw_getR C (kdec dc_Oracle_bestPardon 6 rfl) 13 rfl fd_C_Oracle_12_57 ?_
  refine kw_iconst C (kdec dc_Oracle_bestPardon 7 rfl) 14 rfl rfl ⟨by decide, by decide⟩ ?_
  refine kw_aload_n C (kdec dc_Oracle_bestPardon 8 rfl) rfl 15 rfl rfl ?_
  refine kw_getR C (kdec dc_Oracle_bestPardon 9 rfl) 18 rfl fd_C_Oracle_42_57 ?_
  refine kw_getI C (kdec dc_Oracle_bestPardon 10 rfl) 21 rfl fd_C_Oracle_79_3 ?_
  obtain ⟨r_3, hg_19, h⟩ := kbind_h h
  refine kw_callV (As := [ki 1, ki (σ_2 3 1)]) C (kdec dc_Oracle_bestPardon 11 rfl) 24 rfl cv_Oracle_95 rfl rfl (mt_pf_World_total_58 l0 hg_19) ⟨rfl, rfl⟩ ⟨Nat.le_of_ble_eq_true rfl, Nat.le_of_ble_eq_true rfl⟩ ⟨Nat.zero_le _, Nat.zero_le _⟩ rfl (Nat.le_of_ble_eq_true rfl) ?_
  change KW x 0 0 Q σ_2 24 [some (kr 57), some (ki x1), none, none, none, none] [ki r_3]
  refine kw_istore_n (L' := [some (kr 57), some (ki x1), some (ki r_3), none, none, none]) C (kdec dc_Oracle_bestPardon 12 rfl) rfl 25 rfl (by decide) rfl rfl ?_
  refine kw_iconst C (kdec dc_Oracle_bestPardon 13 rfl) 26 rfl rfl ⟨by decide, by decide⟩ ?_
  obtain ⟨x3_4, ex3_4, h⟩ := klet_h h
  refine kw_top ex3_4 ?_
  refine kw_istore_n (L' := [some (kr 57), some (ki x1), some (ki r_3), some (ki x3_4), none, none]) C (kdec dc_Oracle_bestPardon 14 rfl) rfl 27 rfl (by decide) rfl rfl ?_
  refine kw_iconst C (kdec dc_Oracle_bestPardon 15 rfl) 28 rfl rfl ⟨by decide, by decide⟩ ?_
  refine kw_istore (L' := [some (kr 57), some (ki x1), some (ki r_3), some (ki x3_4), some (ki 0), none]) C (kdec dc_Oracle_bestPardon 16 rfl) 30 rfl (by decide) rfl rfl ?_
  obtain ⟨ex_15, hl_16, h⟩ := kbind_h h
  refine lp_pf_Oracle_bestPardon_57_l30 C x1 ?_ kFuel σ_2 r_3 x3_4 0 hl_16
  · intro σ_17 x3_18 e
    subst ex_15
    try dsimp only at h
    refine kw_iload_n C (kdec dc_Oracle_bestPardon 61 rfl) rfl 120 rfl rfl ?_
    obtain rfl := Option.some.inj h
    exact kw_Q (hR _ _ rfl) (kw_ireturn C (kdec dc_Oracle_bestPardon 62 rfl))
theorem mt_pf_Oracle_bestPardon_57 (l0 : Launch) {σ : kM} {x1 : Int} {r : Int} {τ : kM} (h : pf_Oracle_bestPardon_57 σ x1 = some (r, τ)) : kMet l0 ky_Oracle_bestPardon prog_5_method_7_code 6 (some .int) R0_pf_Oracle_bestPardon_57 kcl yC σ [kr 57, ki x1] (some (ki r)) τ := kMet.of' [some (kr 57), some (ki x1), none, none, none, none] (by decide) (Nat.le_of_ble_eq_true rfl) ⟨rfl, rfl, trivial⟩ (fun x C => bd_pf_Oracle_bestPardon_57 C σ x1 h (fun r τ e => by cases e; rfl))
def R0_pf_P_best_0 : Room := ({ frames := 7, cells := 2, slots := 12, locals := 170 } : Room)
def pf_P_best_0 (σ : kM) (x1 : Int) (x2 : Int) : Option ((String ⊕ Int) × kM) :=
  (pf_P_needWhat_0 σ x2 1).bind fun q_14 => match q_14 with
  | (.inl E_3, σ_1) => some (.inl E_3, σ_1)
  | (.inr _, σ_1) =>
    (pf_P_needWithin_0 σ_1 x1 1 60).bind fun q_13 => match q_13 with
    | (.inl E_6, σ_4) => some (.inl E_6, σ_4)
    | (.inr _, σ_4) =>
      if x2 = 0 then
        (pf_Oracle_bestPardon_57 σ_4 x1).bind fun (r_10, σ_11) =>
        some ((.inr r_10, σ_11))
      else
        (pf_Oracle_bestBurner_57 σ_4 x1).bind fun (r_7, σ_8) =>
        some ((.inr r_7, σ_8))
set_option maxHeartbeats 4000000 in
theorem bd_pf_P_best_0 {x : kX} {l0 : Launch} {Q : State → Prop} (C : kCx x prog_1_method_26_code "PoetFines" (some .int) kcl yC 3 l0 R0_pf_P_best_0) (hT : kTb x) (hfl : l0.stackTraces = false) (σ : kM) (x1 : Int) (x2 : Int) {out : (String ⊕ Int) × kM} (h : pf_P_best_0 σ x1 x2 = some out) (hR : ∀ (r : Int) (τ : kM), out = (.inr r, τ) → Q = kQX x (.inr (some (ki r))) τ 2 12) (hE : ∀ (E : String) (τ : kM), out = (.inl E, τ) → Q = kQX x (.inl E) τ 2 12) : KW x 0 0 Q σ 0 [some (kr 0), some (ki x1), some (ki x2)] [] := by
  unfold pf_P_best_0 at h
  refine kw_aload_n C (kdec dc_P_best 0 rfl) rfl 1 rfl rfl ?_
  refine kw_iload_n C (kdec dc_P_best 1 rfl) rfl 2 rfl rfl ?_
  refine kw_iconst C (kdec dc_P_best 2 rfl) 3 rfl rfl ⟨by decide, by decide⟩ ?_
  obtain ⟨⟨q_14, σ_1⟩, hg_2, h⟩ := kbind_h h
  rcases q_14 with E_3 | _
  · dsimp only at h
    obtain rfl := Option.some.inj h
    exact kw_Q (hE _ _ rfl) (kw_callVX_t (As := [ki x2, ki 1]) C hT (kdec dc_P_best 3 rfl) cv_P_154 rfl rfl (me_pf_P_needWhat_0 l0 hfl hg_2) ⟨rfl, rfl⟩ ⟨Nat.le_of_ble_eq_true rfl, Nat.le_of_ble_eq_true rfl⟩ ⟨Nat.le_of_ble_eq_true rfl, Nat.le_of_ble_eq_true rfl⟩ rfl (Nat.le_of_ble_eq_true rfl) (Nat.le_of_ble_eq_true rfl) (Nat.le_of_ble_eq_true rfl))
  · dsimp only at h
    refine kw_callVX (As := [ki x2, ki 1]) C (kdec dc_P_best 3 rfl) 6 rfl cv_P_154 rfl rfl (mx_pf_P_needWhat_0 l0 hfl hg_2) ⟨rfl, rfl⟩ ⟨Nat.le_of_ble_eq_true rfl, Nat.le_of_ble_eq_true rfl⟩ ⟨Nat.le_of_ble_eq_true rfl, Nat.le_of_ble_eq_true rfl⟩ rfl (Nat.le_of_ble_eq_true rfl) ?_
    change KW x 1 6 Q σ_1 6 [some (kr 0), some (ki x1), some (ki x2)] []
    refine kw_aload_n C (kdec dc_P_best 4 rfl) rfl 7 rfl rfl ?_
    refine kw_iload_n C (kdec dc_P_best 5 rfl) rfl 8 rfl rfl ?_
    refine kw_iconst C (kdec dc_P_best 6 rfl) 9 rfl rfl ⟨by decide, by decide⟩ ?_
    refine kw_bipush (v := 60) C (kdec dc_P_best 7 rfl) 11 rfl (by decide) ⟨by decide, by decide⟩ ?_
    obtain ⟨⟨q_13, σ_4⟩, hg_5, h⟩ := kbind_h h
    rcases q_13 with E_6 | _
    · dsimp only at h
      obtain rfl := Option.some.inj h
      exact kw_Q (hE _ _ rfl) (kw_callVX_t (As := [ki x1, ki 1, ki 60]) C hT (kdec dc_P_best 8 rfl) cv_P_210 rfl rfl (me_pf_P_needWithin_0 l0 hfl hg_5) ⟨rfl, rfl⟩ ⟨Nat.le_of_ble_eq_true rfl, Nat.le_of_ble_eq_true rfl⟩ ⟨Nat.le_of_ble_eq_true rfl, Nat.le_of_ble_eq_true rfl⟩ rfl (Nat.le_of_ble_eq_true rfl) (Nat.le_of_ble_eq_true rfl) (Nat.le_of_ble_eq_true rfl))
    · dsimp only at h
      refine kw_callVX (As := [ki x1, ki 1, ki 60]) C (kdec dc_P_best 8 rfl) 14 rfl cv_P_210 rfl rfl (mx_pf_P_needWithin_0 l0 hfl hg_5) ⟨rfl, rfl⟩ ⟨Nat.le_of_ble_eq_true rfl, Nat.le_of_ble_eq_true rfl⟩ ⟨Nat.le_of_ble_eq_true rfl, Nat.le_of_ble_eq_true rfl⟩ rfl (Nat.le_of_ble_eq_true rfl) ?_
      change KW x 2 12 Q σ_4 14 [some (kr 0), some (ki x1), some (ki x2)] []
      refine kw_iload_n C (kdec dc_P_best 9 rfl) rfl 15 rfl rfl ?_
      refine kw_if_ne C (kdec dc_P_best 10 rfl) 29 18 (by decide) rfl (fun hc15 => ?_) (fun hc15 => ?_)
      · rw [if_neg hc15] at h
        refine kw_aload_n C (kdec dc_P_best 16 rfl) rfl 30 rfl rfl ?_
        refine kw_getR C (kdec dc_P_best 17 rfl) 33 rfl fd_C_P_81_0 ?_
        refine kw_iload_n C (kdec dc_P_best 18 rfl) rfl 34 rfl rfl ?_
        obtain ⟨⟨r_7, σ_8⟩, hg_9, h⟩ := kbind_h h
        dsimp only at h
        refine kw_callV (As := [ki x1]) C (kdec dc_P_best 19 rfl) 37 rfl cv_P_280 rfl rfl (mt_pf_Oracle_bestBurner_57 l0 hg_9) ⟨rfl, rfl⟩ ⟨Nat.le_of_ble_eq_true rfl, Nat.le_of_ble_eq_true rfl⟩ ⟨Nat.le_of_ble_eq_true rfl, Nat.le_of_ble_eq_true rfl⟩ rfl (Nat.le_of_ble_eq_true rfl) ?_
        change KW x 2 12 Q σ_8 37 [some (kr 0), some (ki x1), some (ki x2)] [ki r_7]
        obtain rfl := Option.some.inj h
        exact kw_Q (hR _ _ rfl) (kw_xret (by decide) (by decide) (kw_ireturn C (kdec dc_P_best 20 rfl)))
      · rw [if_pos hc15] at h
        refine kw_aload_n C (kdec dc_P_best 11 rfl) rfl 19 rfl rfl ?_
        refine kw_getR C (kdec dc_P_best 12 rfl) 22 rfl fd_C_P_81_0 ?_
        refine kw_iload_n C (kdec dc_P_best 13 rfl) rfl 23 rfl rfl ?_
        obtain ⟨⟨r_10, σ_11⟩, hg_12, h⟩ := kbind_h h
        dsimp only at h
        refine kw_callV (As := [ki x1]) C (kdec dc_P_best 14 rfl) 26 rfl cv_P_277 rfl rfl (mt_pf_Oracle_bestPardon_57 l0 hg_12) ⟨rfl, rfl⟩ ⟨Nat.le_of_ble_eq_true rfl, Nat.le_of_ble_eq_true rfl⟩ ⟨Nat.le_of_ble_eq_true rfl, Nat.le_of_ble_eq_true rfl⟩ rfl (Nat.le_of_ble_eq_true rfl) ?_
        change KW x 2 12 Q σ_11 26 [some (kr 0), some (ki x1), some (ki x2)] [ki r_10]
        refine kw_goto C (kdec dc_P_best 15 rfl) 37 (by decide) ?_
        obtain rfl := Option.some.inj h
        exact kw_Q (hR _ _ rfl) (kw_xret (by decide) (by decide) (kw_ireturn C (kdec dc_P_best 20 rfl)))
theorem mx_pf_P_best_0 (l0 : Launch) (hfl : l0.stackTraces = false) {σ : kM} {x1 : Int} {x2 : Int} {r : Int} {τ : kM} (h : pf_P_best_0 σ x1 x2 = some (.inr r, τ)) : kXet l0 ky_P_best prog_1_method_26_code 3 (some .int) R0_pf_P_best_0 kcl yC σ [kr 0, ki x1, ki x2] (.inr (some (ki r))) τ 2 12 := kXet.of [some (kr 0), some (ki x1), some (ki x2)] (by decide) (Nat.le_of_ble_eq_true rfl) ⟨rfl, rfl, rfl, trivial⟩ (fun x C hT => bd_pf_P_best_0 C hT hfl σ x1 x2 h (fun r τ e => by cases e; rfl) (fun E τ e => by cases e))
theorem me_pf_P_best_0 (l0 : Launch) (hfl : l0.stackTraces = false) {σ : kM} {x1 : Int} {x2 : Int} {E : String} {τ : kM} (h : pf_P_best_0 σ x1 x2 = some (.inl E, τ)) : kXet l0 ky_P_best prog_1_method_26_code 3 (some .int) R0_pf_P_best_0 kcl yC σ [kr 0, ki x1, ki x2] (.inl E) τ 2 12 := kXet.of [some (kr 0), some (ki x1), some (ki x2)] (by decide) (Nat.le_of_ble_eq_true rfl) ⟨rfl, rfl, rfl, trivial⟩ (fun x C hT => bd_pf_P_best_0 C hT hfl σ x1 x2 h (fun r τ e => by cases e) (fun E τ e => by cases e; rfl))
def R0_pf_Chronicle_addFelt_29 : Room := ({ frames := 0, cells := 0, slots := 0, locals := 0 } : Room)
def pf_Chronicle_addFelt_29_j46 (σ : kM) (s0 : Int) (s1 : Int) : Option (kM) :=
  kchk (0 ≤ s1 ∧ s1 < 8) <|
  klet (kst σ 35 (kup (σ 35) s1.toNat s0)) fun σ_6 =>
  klet (kst σ_6 29 (kup (σ_6 29) 4 (w32 ((σ_6 29 4) + 1)))) fun σ_7 =>
  some σ_7
set_option maxHeartbeats 4000000 in
theorem bd_pf_Chronicle_addFelt_29_j46 {x : kX} {l0 : Launch} {Q : State → Prop} (C : kCx x prog_2_method_6_code "PoetFines$Chronicle" none kcl yC 4 l0 R0_pf_Chronicle_addFelt_29) (σ : kM) (s0 : Int) (s1 : Int) {out : kM} (h : pf_Chronicle_addFelt_29_j46 σ s0 s1 = some out) (hR : ∀ (τ : kM), out = τ → Q = kQ x none τ 0 0) : KW x 0 0 Q σ 46 [some (kr 29), none, none, none] [ki s0, ki s1, kr 35] := by
  unfold pf_Chronicle_addFelt_29_j46 at h
  obtain ⟨hc_5, h⟩ := kchk_h h
  obtain ⟨σ_6, eσ_6, h⟩ := klet_h h
  refine kw_iast C (kdec dc_Chronicle_addFelt 25 rfl) 47 rfl rfl hc_5.1 hc_5.2 ?_
  refine kw_sig eσ_6 ?_
  refine kw_aload_n C (kdec dc_Chronicle_addFelt 26 rfl) rfl 48 rfl rfl ?_
  refine kw_dup C (kdec dc_Chronicle_addFelt 27 rfl) 49 rfl rfl ?_
  refine kw_getI C (kdec dc_Chronicle_addFelt 28 rfl) 52 rfl fd_C_Chronicle_29_29 ?_
  refine kw_iconst C (kdec dc_Chronicle_addFelt 29 rfl) 53 rfl rfl ⟨by decide, by decide⟩ ?_
  refine kw_iadd C (kdec dc_Chronicle_addFelt 30 rfl) 54 rfl ?_
  obtain ⟨σ_7, eσ_7, h⟩ := klet_h h
  refine kw_putI C (kdec dc_Chronicle_addFelt 31 rfl) 57 rfl fp_C_Chronicle_29_29 ?_
  refine kw_sig eσ_7 ?_
  obtain rfl := Option.some.inj h
  exact kw_Q (hR _ rfl) (kw_return C (kdec dc_Chronicle_addFelt 32 rfl))
def pf_Chronicle_addFelt_29 (σ : kM) (x1 : Int) (x2 : Int) (x3 : Int) : Option (kM) :=
  if 8 ≤ (σ 29 4) then
    some σ
  else
    kchk (0 ≤ (σ 29 4) ∧ (σ 29 4) < 8) <|
    klet (kst σ 33 (kup (σ 33) ((σ 29 4).toNat) x1)) fun σ_2 =>
    kchk (0 ≤ (σ_2 29 4) ∧ (σ_2 29 4) < 8) <|
    klet (kst σ_2 34 (kup (σ_2 34) ((σ_2 29 4).toNat) x2)) fun σ_4 =>
    if x3 = 0 then
      pf_Chronicle_addFelt_29_j46 σ_4 0 (σ_4 29 4)
    else
      pf_Chronicle_addFelt_29_j46 σ_4 1 (σ_4 29 4)
set_option maxHeartbeats 4000000 in
theorem bd_pf_Chronicle_addFelt_29 {x : kX} {l0 : Launch} {Q : State → Prop} (C : kCx x prog_2_method_6_code "PoetFines$Chronicle" none kcl yC 4 l0 R0_pf_Chronicle_addFelt_29) (σ : kM) (x1 : Int) (x2 : Int) (x3 : Int) {out : kM} (h : pf_Chronicle_addFelt_29 σ x1 x2 x3 = some out) (hR : ∀ (τ : kM), out = τ → Q = kQ x none τ 0 0) : KW x 0 0 Q σ 0 [some (kr 29), some (ki x1), some (ki x2), some (ki x3)] [] := by
  unfold pf_Chronicle_addFelt_29 at h
  refine kw_aload_n C (kdec dc_Chronicle_addFelt 0 rfl) rfl 1 rfl rfl ?_
  refine kw_getI C (kdec dc_Chronicle_addFelt 1 rfl) 4 rfl fd_C_Chronicle_29_29 ?_
  refine kw_bipush (v := 8) C (kdec dc_Chronicle_addFelt 2 rfl) 6 rfl (by decide) ⟨by decide, by decide⟩ ?_
  refine kw_icmp_ge C (kdec dc_Chronicle_addFelt 3 rfl) 57 9 (by decide) rfl (fun hc6 => ?_) (fun hc6 => ?_)
  · rw [if_pos hc6] at h
    obtain rfl := Option.some.inj h
    exact kw_Q (hR _ rfl) (kw_return C (kdec dc_Chronicle_addFelt 32 rfl))
  · rw [if_neg hc6] at h
    refine kw_aload_n C (kdec dc_Chronicle_addFelt 4 rfl) rfl 10 rfl rfl ?_
    refine kw_getR C (kdec dc_Chronicle_addFelt 5 rfl) 13 rfl fd_C_Chronicle_32_29 ?_
    refine kw_aload_n C (kdec dc_Chronicle_addFelt 6 rfl) rfl 14 rfl rfl ?_
    refine kw_getI C (kdec dc_Chronicle_addFelt 7 rfl) 17 rfl fd_C_Chronicle_29_29 ?_
    refine kw_iload_n C (kdec dc_Chronicle_addFelt 8 rfl) rfl 18 rfl rfl ?_
    obtain ⟨hc_1, h⟩ := kchk_h h
    obtain ⟨σ_2, eσ_2, h⟩ := klet_h h
    refine kw_iast C (kdec dc_Chronicle_addFelt 9 rfl) 19 rfl rfl hc_1.1 hc_1.2 ?_
    refine kw_sig eσ_2 ?_
    refine kw_aload_n C (kdec dc_Chronicle_addFelt 10 rfl) rfl 20 rfl rfl ?_
    refine kw_getR C (kdec dc_Chronicle_addFelt 11 rfl) 23 rfl fd_C_Chronicle_35_29 ?_
    refine kw_aload_n C (kdec dc_Chronicle_addFelt 12 rfl) rfl 24 rfl rfl ?_
    refine kw_getI C (kdec dc_Chronicle_addFelt 13 rfl) 27 rfl fd_C_Chronicle_29_29 ?_
    refine kw_iload_n C (kdec dc_Chronicle_addFelt 14 rfl) rfl 28 rfl rfl ?_
    obtain ⟨hc_3, h⟩ := kchk_h h
    obtain ⟨σ_4, eσ_4, h⟩ := klet_h h
    refine kw_iast C (kdec dc_Chronicle_addFelt 15 rfl) 29 rfl rfl hc_3.1 hc_3.2 ?_
    refine kw_sig eσ_4 ?_
    refine kw_aload_n C (kdec dc_Chronicle_addFelt 16 rfl) rfl 30 rfl rfl ?_
    refine kw_getR C (kdec dc_Chronicle_addFelt 17 rfl) 33 rfl fd_C_Chronicle_38_29 ?_
    refine kw_aload_n C (kdec dc_Chronicle_addFelt 18 rfl) rfl 34 rfl rfl ?_
    refine kw_getI C (kdec dc_Chronicle_addFelt 19 rfl) 37 rfl fd_C_Chronicle_29_29 ?_
    refine kw_iload_n C (kdec dc_Chronicle_addFelt 20 rfl) rfl 38 rfl rfl ?_
    refine kw_if_eq C (kdec dc_Chronicle_addFelt 21 rfl) 45 41 (by decide) rfl (fun hc38 => ?_) (fun hc38 => ?_)
    · rw [if_pos hc38] at h
      refine kw_iconst C (kdec dc_Chronicle_addFelt 24 rfl) 46 rfl rfl ⟨by decide, by decide⟩ ?_
      exact kw_sub (L' := [some (kr 29), none, none, none]) ⟨rfl, trivial⟩ (bd_pf_Chronicle_addFelt_29_j46 C σ_4 0 (σ_4 29 4) h hR)
    · rw [if_neg hc38] at h
      refine kw_iconst C (kdec dc_Chronicle_addFelt 22 rfl) 42 rfl rfl ⟨by decide, by decide⟩ ?_
      refine kw_goto C (kdec dc_Chronicle_addFelt 23 rfl) 46 (by decide) ?_
      exact kw_sub (L' := [some (kr 29), none, none, none]) ⟨rfl, trivial⟩ (bd_pf_Chronicle_addFelt_29_j46 C σ_4 1 (σ_4 29 4) h hR)
theorem mt_pf_Chronicle_addFelt_29 (l0 : Launch) {σ : kM} {x1 : Int} {x2 : Int} {x3 : Int} {τ : kM} (h : pf_Chronicle_addFelt_29 σ x1 x2 x3 = some τ) : kMet l0 ky_Chronicle_addFelt prog_2_method_6_code 4 none R0_pf_Chronicle_addFelt_29 kcl yC σ [kr 29, ki x1, ki x2, ki x3] none τ := kMet.of' [some (kr 29), some (ki x1), some (ki x2), some (ki x3)] (by decide) (Nat.le_of_ble_eq_true rfl) ⟨rfl, rfl, rfl, rfl, trivial⟩ (fun x C => bd_pf_Chronicle_addFelt_29 C σ x1 x2 x3 h (fun τ e => by subst e; rfl))
def R0_pf_P_feel_0 : Room := ({ frames := 7, cells := 1, slots := 6, locals := 121 } : Room)
def pf_P_feel_0_j28 (σ : kM) : Option ((String ⊕ Int) × kM) :=
  klet (kst σ 2 (kup (σ 2) ((2 : Int).toNat) (w32 ((σ 2 (2 : Int).toNat) + 1)))) fun σ_4 =>
  some ((.inr ((-1)), σ_4))
set_option maxHeartbeats 4000000 in
theorem bd_pf_P_feel_0_j28 {x : kX} {l0 : Launch} {Q : State → Prop} (C : kCx x prog_1_method_27_code "PoetFines" (some .int) kcl yC 4 l0 R0_pf_P_feel_0) (hT : kTb x) (hfl : l0.stackTraces = false) (σ : kM) {out : (String ⊕ Int) × kM} (h : pf_P_feel_0_j28 σ = some out) (hR : ∀ (r : Int) (τ : kM), out = (.inr r, τ) → Q = kQX x (.inr (some (ki r))) τ 1 6) (hE : ∀ (E : String) (τ : kM), out = (.inl E, τ) → Q = kQX x (.inl E) τ 1 6) : KW x 1 6 Q σ 28 [some (kr 0), none, none, none] [] := by
  unfold pf_P_feel_0_j28 at h
  refine kw_aload_n C (kdec dc_P_feel 14 rfl) rfl 29 rfl rfl ?_
  refine kw_getR C (kdec dc_P_feel 15 rfl) 32 rfl fd_C_P_20_0 ?_
  refine kw_iconst C (kdec dc_P_feel 16 rfl) 33 rfl rfl ⟨by decide, by decide⟩ ?_
  refine kw_dup2 C (kdec dc_P_feel 17 rfl) 34 rfl rfl rfl ?_
  refine kw_iald C (kdec dc_P_feel 18 rfl) 35 rfl rfl (by decide) (by decide) ?_
  refine kw_iconst C (kdec dc_P_feel 19 rfl) 36 rfl rfl ⟨by decide, by decide⟩ ?_
  refine kw_iadd C (kdec dc_P_feel 20 rfl) 37 rfl ?_
  obtain ⟨σ_4, eσ_4, h⟩ := klet_h h
  refine kw_iast C (kdec dc_P_feel 21 rfl) 38 rfl rfl (by decide) (by decide) ?_
  refine kw_sig eσ_4 ?_
  refine kw_iconst C (kdec dc_P_feel 22 rfl) 39 rfl rfl ⟨by decide, by decide⟩ ?_
  obtain rfl := Option.some.inj h
  exact kw_Q (hR _ _ rfl) (kw_xret (by decide) (by decide) (kw_ireturn C (kdec dc_P_feel 23 rfl)))
def pf_P_feel_0 (σ : kM) (x1 : Int) (x2 : Int) (x3 : Int) : Option ((String ⊕ Int) × kM) :=
  (pf_P_needPerson_0 σ x1).bind fun q_7 => match q_7 with
  | (.inl E_3, σ_1) => some (.inl E_3, σ_1)
  | (.inr _, σ_1) =>
    if 8 ≤ (σ_1 29 4) then
      pf_P_feel_0_j28 σ_1
    else
      if x2 < 1 then
        pf_P_feel_0_j28 σ_1
      else
        if x2 ≤ 20 then
          (pf_Chronicle_addFelt_29 σ_1 x1 x2 x3).bind fun σ_5 =>
          some ((.inr (σ_5 29 4), σ_5))
        else
          pf_P_feel_0_j28 σ_1
set_option maxHeartbeats 4000000 in
theorem bd_pf_P_feel_0 {x : kX} {l0 : Launch} {Q : State → Prop} (C : kCx x prog_1_method_27_code "PoetFines" (some .int) kcl yC 4 l0 R0_pf_P_feel_0) (hT : kTb x) (hfl : l0.stackTraces = false) (σ : kM) (x1 : Int) (x2 : Int) (x3 : Int) {out : (String ⊕ Int) × kM} (h : pf_P_feel_0 σ x1 x2 x3 = some out) (hR : ∀ (r : Int) (τ : kM), out = (.inr r, τ) → Q = kQX x (.inr (some (ki r))) τ 1 6) (hE : ∀ (E : String) (τ : kM), out = (.inl E, τ) → Q = kQX x (.inl E) τ 1 6) : KW x 0 0 Q σ 0 [some (kr 0), some (ki x1), some (ki x2), some (ki x3)] [] := by
  unfold pf_P_feel_0 at h
  refine kw_aload_n C (kdec dc_P_feel 0 rfl) rfl 1 rfl rfl ?_
  refine kw_iload_n C (kdec dc_P_feel 1 rfl) rfl 2 rfl rfl ?_
  obtain ⟨⟨q_7, σ_1⟩, hg_2, h⟩ := kbind_h h
  rcases q_7 with E_3 | _
  · dsimp only at h
    obtain rfl := Option.some.inj h
    exact kw_Q (hE _ _ rfl) (kw_callVX_t (As := [ki x1]) C hT (kdec dc_P_feel 2 rfl) cv_P_148 rfl rfl (me_pf_P_needPerson_0 l0 hfl hg_2) ⟨rfl, rfl⟩ ⟨Nat.le_of_ble_eq_true rfl, Nat.le_of_ble_eq_true rfl⟩ ⟨Nat.le_of_ble_eq_true rfl, Nat.le_of_ble_eq_true rfl⟩ rfl (Nat.le_of_ble_eq_true rfl) (Nat.le_of_ble_eq_true rfl) (Nat.le_of_ble_eq_true rfl))
  · dsimp only at h
    refine kw_callVX (As := [ki x1]) C (kdec dc_P_feel 2 rfl) 5 rfl cv_P_148 rfl rfl (mx_pf_P_needPerson_0 l0 hfl hg_2) ⟨rfl, rfl⟩ ⟨Nat.le_of_ble_eq_true rfl, Nat.le_of_ble_eq_true rfl⟩ ⟨Nat.le_of_ble_eq_true rfl, Nat.le_of_ble_eq_true rfl⟩ rfl (Nat.le_of_ble_eq_true rfl) ?_
    change KW x 1 6 Q σ_1 5 [some (kr 0), some (ki x1), some (ki x2), some (ki x3)] []
    refine kw_aload_n C (kdec dc_P_feel 3 rfl) rfl 6 rfl rfl ?_
    refine kw_getR C (kdec dc_P_feel 4 rfl) 9 rfl fd_C_P_43_0 ?_
    refine kw_getI C (kdec dc_P_feel 5 rfl) 12 rfl fd_C_P_140_29 ?_
    refine kw_bipush (v := 8) C (kdec dc_P_feel 6 rfl) 14 rfl (by decide) ⟨by decide, by decide⟩ ?_
    refine kw_icmp_ge C (kdec dc_P_feel 7 rfl) 28 17 (by decide) rfl (fun hc14 => ?_) (fun hc14 => ?_)
    · rw [if_pos hc14] at h
      exact kw_sub (L' := [some (kr 0), none, none, none]) ⟨rfl, trivial⟩ (kw_widen (by decide) (by decide) (bd_pf_P_feel_0_j28 C hT hfl σ_1 h hR hE))
    · rw [if_neg hc14] at h
      refine kw_iload_n C (kdec dc_P_feel 8 rfl) rfl 18 rfl rfl ?_
      refine kw_iconst C (kdec dc_P_feel 9 rfl) 19 rfl rfl ⟨by decide, by decide⟩ ?_
      refine kw_icmp_lt C (kdec dc_P_feel 10 rfl) 28 22 (by decide) rfl (fun hc19 => ?_) (fun hc19 => ?_)
      · rw [if_pos hc19] at h
        exact kw_sub (L' := [some (kr 0), none, none, none]) ⟨rfl, trivial⟩ (kw_widen (by decide) (by decide) (bd_pf_P_feel_0_j28 C hT hfl σ_1 h hR hE))
      · rw [if_neg hc19] at h
        refine kw_iload_n C (kdec dc_P_feel 11 rfl) rfl 23 rfl rfl ?_
        refine kw_bipush (v := 20) C (kdec dc_P_feel 12 rfl) 25 rfl (by decide) ⟨by decide, by decide⟩ ?_
        refine kw_icmp_le C (kdec dc_P_feel 13 rfl) 40 28 (by decide) rfl (fun hc25 => ?_) (fun hc25 => ?_)
        · rw [if_pos hc25] at h
          refine kw_aload_n C (kdec dc_P_feel 24 rfl) rfl 41 rfl rfl ?_
          refine kw_getR C (kdec dc_P_feel 25 rfl) 44 rfl fd_C_P_43_0 ?_
          refine kw_iload_n C (kdec dc_P_feel 26 rfl) rfl 45 rfl rfl ?_
          refine kw_iload_n C (kdec dc_P_feel 27 rfl) rfl 46 rfl rfl ?_
          refine kw_iload_n C (kdec dc_P_feel 28 rfl) rfl 47 rfl rfl ?_
          obtain ⟨σ_5, hg_6, h⟩ := kbind_h h
          refine kw_callV (As := [ki x1, ki x2, ki x3]) C (kdec dc_P_feel 29 rfl) 50 rfl cv_P_283 rfl rfl (mt_pf_Chronicle_addFelt_29 l0 hg_6) ⟨rfl, rfl⟩ ⟨Nat.le_of_ble_eq_true rfl, Nat.le_of_ble_eq_true rfl⟩ ⟨Nat.le_of_ble_eq_true rfl, Nat.le_of_ble_eq_true rfl⟩ rfl (Nat.le_of_ble_eq_true rfl) ?_
          change KW x 1 6 Q σ_5 50 [some (kr 0), some (ki x1), some (ki x2), some (ki x3)] []
          refine kw_aload_n C (kdec dc_P_feel 30 rfl) rfl 51 rfl rfl ?_
          refine kw_getR C (kdec dc_P_feel 31 rfl) 54 rfl fd_C_P_43_0 ?_
          refine kw_getI C (kdec dc_P_feel 32 rfl) 57 rfl fd_C_P_140_29 ?_
          obtain rfl := Option.some.inj h
          exact kw_Q (hR _ _ rfl) (kw_xret (by decide) (by decide) (kw_ireturn C (kdec dc_P_feel 33 rfl)))
        · rw [if_neg hc25] at h
          exact kw_sub (L' := [some (kr 0), none, none, none]) ⟨rfl, trivial⟩ (kw_widen (by decide) (by decide) (bd_pf_P_feel_0_j28 C hT hfl σ_1 h hR hE))
theorem mx_pf_P_feel_0 (l0 : Launch) (hfl : l0.stackTraces = false) {σ : kM} {x1 : Int} {x2 : Int} {x3 : Int} {r : Int} {τ : kM} (h : pf_P_feel_0 σ x1 x2 x3 = some (.inr r, τ)) : kXet l0 ky_P_feel prog_1_method_27_code 4 (some .int) R0_pf_P_feel_0 kcl yC σ [kr 0, ki x1, ki x2, ki x3] (.inr (some (ki r))) τ 1 6 := kXet.of [some (kr 0), some (ki x1), some (ki x2), some (ki x3)] (by decide) (Nat.le_of_ble_eq_true rfl) ⟨rfl, rfl, rfl, rfl, trivial⟩ (fun x C hT => bd_pf_P_feel_0 C hT hfl σ x1 x2 x3 h (fun r τ e => by cases e; rfl) (fun E τ e => by cases e))
theorem me_pf_P_feel_0 (l0 : Launch) (hfl : l0.stackTraces = false) {σ : kM} {x1 : Int} {x2 : Int} {x3 : Int} {E : String} {τ : kM} (h : pf_P_feel_0 σ x1 x2 x3 = some (.inl E, τ)) : kXet l0 ky_P_feel prog_1_method_27_code 4 (some .int) R0_pf_P_feel_0 kcl yC σ [kr 0, ki x1, ki x2, ki x3] (.inl E) τ 1 6 := kXet.of [some (kr 0), some (ki x1), some (ki x2), some (ki x3)] (by decide) (Nat.le_of_ble_eq_true rfl) ⟨rfl, rfl, rfl, rfl, trivial⟩ (fun x C hT => bd_pf_P_feel_0 C hT hfl σ x1 x2 x3 h (fun r τ e => by cases e) (fun E τ e => by cases e; rfl))
def R0_pf_P_forget_0 : Room := ({ frames := 0, cells := 0, slots := 0, locals := 0 } : Room)
def pf_P_forget_0 (σ : kM) : Option (kM) :=
  klet (kst σ 29 (kup (σ 29) 4 0)) fun σ_1 =>
  some σ_1
set_option maxHeartbeats 4000000 in
theorem bd_pf_P_forget_0 {x : kX} {l0 : Launch} {Q : State → Prop} (C : kCx x prog_1_method_28_code "PoetFines" none kcl yC 1 l0 R0_pf_P_forget_0) (σ : kM) {out : kM} (h : pf_P_forget_0 σ = some out) (hR : ∀ (τ : kM), out = τ → Q = kQ x none τ 0 0) : KW x 0 0 Q σ 0 [some (kr 0)] [] := by
  unfold pf_P_forget_0 at h
  refine kw_aload_n C (kdec dc_P_forget 0 rfl) rfl 1 rfl rfl ?_
  refine kw_getR C (kdec dc_P_forget 1 rfl) 4 rfl fd_C_P_43_0 ?_
  refine kw_iconst C (kdec dc_P_forget 2 rfl) 5 rfl rfl ⟨by decide, by decide⟩ ?_
  obtain ⟨σ_1, eσ_1, h⟩ := klet_h h
  refine kw_putI C (kdec dc_P_forget 3 rfl) 8 rfl fp_C_P_140_29 ?_
  refine kw_sig eσ_1 ?_
  obtain rfl := Option.some.inj h
  exact kw_Q (hR _ rfl) (kw_return C (kdec dc_P_forget 4 rfl))
theorem mt_pf_P_forget_0 (l0 : Launch) {σ : kM} {τ : kM} (h : pf_P_forget_0 σ = some τ) : kMet l0 ky_P_forget prog_1_method_28_code 1 none R0_pf_P_forget_0 kcl yC σ [kr 0] none τ := kMet.of' [some (kr 0)] (by decide) (Nat.le_of_ble_eq_true rfl) ⟨rfl, trivial⟩ (fun x C => bd_pf_P_forget_0 C σ h (fun τ e => by subst e; rfl))
def R0_pf_Chronicle_lastFelt_29 : Room := ({ frames := 1, cells := 0, slots := 0, locals := 21 } : Room)
def pf_Chronicle_lastFelt_29_l4 (σ : kM) (x1 : Int) (x2 : Int) : Option ((Int × Int) ⊕ ((Int))) :=
  if (σ 29 4) ≤ x2 then
    some (Sum.inr x1)
  else
    kchk (0 ≤ x2 ∧ x2 < 8) <|
    klet (max x1 (σ 34 x2.toNat)) fun x1_2 =>
    klet (w32 (x2 + 1)) fun x2_3 =>
    some (Sum.inl (x1_2, x2_3))
set_option maxHeartbeats 4000000 in
theorem bd_pf_Chronicle_lastFelt_29_l4 {x : kX} {l0 : Launch} {Q : State → Prop} (C : kCx x prog_2_method_7_code "PoetFines$Chronicle" (some .int) kcl yC 3 l0 R0_pf_Chronicle_lastFelt_29) (σ : kM) (x1 : Int) (x2 : Int) {out : (Int × Int) ⊕ ((Int))} (h : pf_Chronicle_lastFelt_29_l4 σ x1 x2 = some out) (hC : ∀ (x1' : Int) (x2' : Int), out = Sum.inl (x1', x2') → KW x 0 0 Q σ 4 [some (kr 29), some (ki x1'), some (ki x2')] []) (hX29 : ∀ (x1' : Int), out = Sum.inr x1' → KW x 0 0 Q σ 29 [none, some (ki x1'), none] []) : KW x 0 0 Q σ 4 [some (kr 29), some (ki x1), some (ki x2)] [] := by
  unfold pf_Chronicle_lastFelt_29_l4 at h
  refine kw_iload_n C (kdec dc_Chronicle_lastFelt 4 rfl) rfl 5 rfl rfl ?_
  refine kw_aload_n C (kdec dc_Chronicle_lastFelt 5 rfl) rfl 6 rfl rfl ?_
  refine kw_getI C (kdec dc_Chronicle_lastFelt 6 rfl) 9 rfl fd_C_Chronicle_29_29 ?_
  refine kw_icmp_ge C (kdec dc_Chronicle_lastFelt 7 rfl) 29 12 (by decide) rfl (fun hc9 => ?_) (fun hc9 => ?_)
  · rw [if_pos hc9] at h
    obtain rfl := Option.some.inj h
    exact kw_sub (L' := [none, some (ki x1), none]) ⟨rfl, trivial⟩ (hX29 _ rfl)
  · rw [if_neg hc9] at h
    refine kw_iload_n C (kdec dc_Chronicle_lastFelt 8 rfl) rfl 13 rfl rfl ?_
    refine kw_aload_n C (kdec dc_Chronicle_lastFelt 9 rfl) rfl 14 rfl rfl ?_
    refine kw_getR C (kdec dc_Chronicle_lastFelt 10 rfl) 17 rfl fd_C_Chronicle_35_29 ?_
    refine kw_iload_n C (kdec dc_Chronicle_lastFelt 11 rfl) rfl 18 rfl rfl ?_
    obtain ⟨hc_1, h⟩ := kchk_h h
    refine kw_iald C (kdec dc_Chronicle_lastFelt 12 rfl) 19 rfl rfl hc_1.1 hc_1.2 ?_
    refine kw_max C (kdec dc_Chronicle_lastFelt 13 rfl) 22 rfl cm_Chronicle_54 ⟨Nat.le_of_ble_eq_true rfl, Nat.le_of_ble_eq_true rfl⟩ ⟨Nat.zero_le _, Nat.zero_le _⟩ (Nat.le_of_ble_eq_true rfl) ?_
    obtain ⟨x1_2, ex1_2, h⟩ := klet_h h
    refine kw_top ex1_2 ?_
    refine kw_istore_n (L' := [some (kr 29), some (ki x1_2), some (ki x2)]) C (kdec dc_Chronicle_lastFelt 14 rfl) rfl 23 rfl (by decide) rfl rfl ?_
    obtain ⟨x2_3, ex2_3, h⟩ := klet_h h
    refine kw_iinc (L' := [some (kr 29), some (ki x1_2), some (ki x2_3)]) C (kdec dc_Chronicle_lastFelt 15 rfl) 26 rfl rfl (by decide) rfl (by rw [ex2_3]; rfl) ?_
    refine kw_goto C (kdec dc_Chronicle_lastFelt 16 rfl) 4 (by decide) ?_
    obtain rfl := Option.some.inj h
    exact (hC _ _ rfl)
theorem lp_pf_Chronicle_lastFelt_29_l4 {x : kX} {l0 : Launch} {Q : State → Prop} (C : kCx x prog_2_method_7_code "PoetFines$Chronicle" (some .int) kcl yC 3 l0 R0_pf_Chronicle_lastFelt_29) (σ : kM) {ex : (Int)} (hX29 : ∀ (x1' : Int), ex = x1' → KW x 0 0 Q σ 29 [none, some (ki x1'), none] []) (n : Nat) (x1 : Int) (x2 : Int) (h : kloop (fun st => pf_Chronicle_lastFelt_29_l4 σ st.1 st.2) n (x1, x2) = some ex) : KW x 0 0 Q σ 4 [some (kr 29), some (ki x1), some (ki x2)] [] :=
  kloop_ind (P := (fun st : Int × Int => KW x 0 0 Q σ 4 [some (kr 29), some (ki (st.1)), some (ki (st.2))] [])) (fun st out hb hc hx => bd_pf_Chronicle_lastFelt_29_l4 C σ st.1 st.2 hb (fun a0 a1 e => hc _ e) (fun a0 e => hX29 _ ((hx _ e).symm))) n (x1, x2) h
def pf_Chronicle_lastFelt_29 (σ : kM) : Option (Int) :=
  (kloop (fun st => pf_Chronicle_lastFelt_29_l4 σ st.1 st.2) kFuel (0, 0)).bind fun x1_6 =>
  some x1_6
set_option maxHeartbeats 4000000 in
theorem bd_pf_Chronicle_lastFelt_29 {x : kX} {l0 : Launch} {Q : State → Prop} (C : kCx x prog_2_method_7_code "PoetFines$Chronicle" (some .int) kcl yC 3 l0 R0_pf_Chronicle_lastFelt_29) (σ : kM) {out : Int} (h : pf_Chronicle_lastFelt_29 σ = some out) (hR : ∀ (r : Int), out = r → Q = kQ x (some (ki r)) σ 0 0) : KW x 0 0 Q σ 0 [some (kr 29), none, none] [] := by
  unfold pf_Chronicle_lastFelt_29 at h
  refine kw_iconst C (kdec dc_Chronicle_lastFelt 0 rfl) 1 rfl rfl ⟨by decide, by decide⟩ ?_
  refine kw_istore_n (L' := [some (kr 29), some (ki 0), none]) C (kdec dc_Chronicle_lastFelt 1 rfl) rfl 2 rfl (by decide) rfl rfl ?_
  refine kw_iconst C (kdec dc_Chronicle_lastFelt 2 rfl) 3 rfl rfl ⟨by decide, by decide⟩ ?_
  refine kw_istore_n (L' := [some (kr 29), some (ki 0), some (ki 0)]) C (kdec dc_Chronicle_lastFelt 3 rfl) rfl 4 rfl (by decide) rfl rfl ?_
  obtain ⟨ex_4, hl_5, h⟩ := kbind_h h
  refine lp_pf_Chronicle_lastFelt_29_l4 C σ ?_ kFuel 0 0 hl_5
  · intro x1_6 e
    subst ex_4
    try dsimp only at h
    refine kw_iload_n C (kdec dc_Chronicle_lastFelt 17 rfl) rfl 30 rfl rfl ?_
    obtain rfl := Option.some.inj h
    exact kw_Q (hR _ rfl) (kw_ireturn C (kdec dc_Chronicle_lastFelt 18 rfl))
theorem mt_pf_Chronicle_lastFelt_29 (l0 : Launch) {σ : kM} {r : Int} (h : pf_Chronicle_lastFelt_29 σ = some r) : kMet l0 ky_Chronicle_lastFelt prog_2_method_7_code 3 (some .int) R0_pf_Chronicle_lastFelt_29 kcl yC σ [kr 29] (some (ki r)) σ := kMet.of' [some (kr 29), none, none] (by decide) (Nat.le_of_ble_eq_true rfl) ⟨rfl, trivial⟩ (fun x C => bd_pf_Chronicle_lastFelt_29 C σ h (fun r e => by subst e; rfl))
def R0_pf_Oracle_addFound_57 : Room := ({ frames := 0, cells := 0, slots := 0, locals := 0 } : Room)
def pf_Oracle_addFound_57_j12 (σ : kM) : Option (kM) :=
  klet (kst σ 57 (kup (σ 57) 2 (w32 ((σ 57 2) + 1)))) fun σ_1 =>
  some σ_1
set_option maxHeartbeats 4000000 in
theorem bd_pf_Oracle_addFound_57_j12 {x : kX} {l0 : Launch} {Q : State → Prop} (C : kCx x prog_5_method_11_code "PoetFines$Oracle" none kcl yC 2 l0 R0_pf_Oracle_addFound_57) (σ : kM) {out : kM} (h : pf_Oracle_addFound_57_j12 σ = some out) (hR : ∀ (τ : kM), out = τ → Q = kQ x none τ 0 0) : KW x 0 0 Q σ 12 [some (kr 57), none] [] := by
  unfold pf_Oracle_addFound_57_j12 at h
  refine kw_aload_n C (kdec dc_Oracle_addFound 6 rfl) rfl 13 rfl rfl ?_
  refine kw_dup C (kdec dc_Oracle_addFound 7 rfl) 14 rfl rfl ?_
  refine kw_getI C (kdec dc_Oracle_addFound 8 rfl) 17 rfl fd_C_Oracle_18_57 ?_
  refine kw_iconst C (kdec dc_Oracle_addFound 9 rfl) 18 rfl rfl ⟨by decide, by decide⟩ ?_
  refine kw_iadd C (kdec dc_Oracle_addFound 10 rfl) 19 rfl ?_
  obtain ⟨σ_1, eσ_1, h⟩ := klet_h h
  refine kw_putI C (kdec dc_Oracle_addFound 11 rfl) 22 rfl fp_C_Oracle_18_57 ?_
  refine kw_sig eσ_1 ?_
  obtain rfl := Option.some.inj h
  exact kw_Q (hR _ rfl) (kw_return C (kdec dc_Oracle_addFound 12 rfl))
def pf_Oracle_addFound_57 (σ : kM) (x1 : Int) : Option (kM) :=
  if (σ 57 2) = 0 then
    klet (kst σ 57 (kup (σ 57) 3 x1)) fun σ_2 =>
    pf_Oracle_addFound_57_j12 σ_2
  else
    pf_Oracle_addFound_57_j12 σ
set_option maxHeartbeats 4000000 in
theorem bd_pf_Oracle_addFound_57 {x : kX} {l0 : Launch} {Q : State → Prop} (C : kCx x prog_5_method_11_code "PoetFines$Oracle" none kcl yC 2 l0 R0_pf_Oracle_addFound_57) (σ : kM) (x1 : Int) {out : kM} (h : pf_Oracle_addFound_57 σ x1 = some out) (hR : ∀ (τ : kM), out = τ → Q = kQ x none τ 0 0) : KW x 0 0 Q σ 0 [some (kr 57), some (ki x1)] [] := by
  unfold pf_Oracle_addFound_57 at h
  refine kw_aload_n C (kdec dc_Oracle_addFound 0 rfl) rfl 1 rfl rfl ?_
  refine kw_getI C (kdec dc_Oracle_addFound 1 rfl) 4 rfl fd_C_Oracle_18_57 ?_
  refine kw_if_ne C (kdec dc_Oracle_addFound 2 rfl) 12 7 (by decide) rfl (fun hc4 => ?_) (fun hc4 => ?_)
  · rw [if_neg hc4] at h
    exact kw_sub (L' := [some (kr 57), none]) ⟨rfl, trivial⟩ (bd_pf_Oracle_addFound_57_j12 C σ h hR)
  · rw [if_pos hc4] at h
    refine kw_aload_n C (kdec dc_Oracle_addFound 3 rfl) rfl 8 rfl rfl ?_
    refine kw_iload_n C (kdec dc_Oracle_addFound 4 rfl) rfl 9 rfl rfl ?_
    obtain ⟨σ_2, eσ_2, h⟩ := klet_h h
    refine kw_putI C (kdec dc_Oracle_addFound 5 rfl) 12 rfl fp_C_Oracle_22_57 ?_
    refine kw_sig eσ_2 ?_
    exact kw_sub (L' := [some (kr 57), none]) ⟨rfl, trivial⟩ (bd_pf_Oracle_addFound_57_j12 C σ_2 h hR)
theorem mt_pf_Oracle_addFound_57 (l0 : Launch) {σ : kM} {x1 : Int} {τ : kM} (h : pf_Oracle_addFound_57 σ x1 = some τ) : kMet l0 ky_Oracle_addFound prog_5_method_11_code 2 none R0_pf_Oracle_addFound_57 kcl yC σ [kr 57, ki x1] none τ := kMet.of' [some (kr 57), some (ki x1)] (by decide) (Nat.le_of_ble_eq_true rfl) ⟨rfl, rfl, trivial⟩ (fun x C => bd_pf_Oracle_addFound_57 C σ x1 h (fun τ e => by subst e; rfl))
def R0_pf_Oracle_seeScars_57 : Room := ({ frames := 0, cells := 0, slots := 0, locals := 0 } : Room)
def pf_Oracle_seeScars_57_l2_j38 (σ : kM) (x1 : Int) (x2 : Int) (s0 : Int) (s1 : Int) : Option ((kM × Int) ⊕ ((kM))) :=
  klet (w32 (s1 + s0)) fun y_3 =>
  kchk (0 ≤ y_3 ∧ y_3 < 16) <|
  kchk (0 ≤ y_3 ∧ y_3 < 16) <|
  klet (kst σ 61 (kup (σ 61) y_3.toNat (klor (σ 61 y_3.toNat) (klshl 1 (kand x2 63))))) fun σ_6 =>
  klet (w32 (x1 + 1)) fun x1_7 =>
  some (Sum.inl (σ_6, x1_7))
set_option maxHeartbeats 4000000 in
theorem bd_pf_Oracle_seeScars_57_l2_j38 {x : kX} {l0 : Launch} {Q : State → Prop} (C : kCx x prog_5_method_12_code "PoetFines$Oracle" none kcl yC 3 l0 R0_pf_Oracle_seeScars_57) (σ : kM) (x1 : Int) (x2 : Int) (s0 : Int) (s1 : Int) {out : (kM × Int) ⊕ ((kM))} (h : pf_Oracle_seeScars_57_l2_j38 σ x1 x2 s0 s1 = some out) (hC : ∀ (σ' : kM) (x1' : Int), out = Sum.inl (σ', x1') → KW x 0 0 Q σ' 2 [some (kr 57), some (ki x1'), none] []) (hX55 : ∀ (σ' : kM), out = Sum.inr σ' → KW x 0 0 Q σ' 55 [none, none, none] []) : KW x 0 0 Q σ 38 [some (kr 57), some (ki x1), some (ki x2)] [ki s0, ki s1, kr 61] := by
  unfold pf_Oracle_seeScars_57_l2_j38 at h
  refine kw_iadd C (kdec dc_Oracle_seeScars 23 rfl) 39 rfl ?_
  obtain ⟨y_3, ey_3, h⟩ := klet_h h
  refine kw_top ey_3 ?_
  refine kw_dup2 C (kdec dc_Oracle_seeScars 24 rfl) 40 rfl rfl rfl ?_
  obtain ⟨hc_4, h⟩ := kchk_h h
  refine kw_lald C (kdec dc_Oracle_seeScars 25 rfl) 41 rfl rfl hc_4.1 hc_4.2 ?_
  refine kw_lconst (v := 1) C (kdec dc_Oracle_seeScars 26 rfl) 42 rfl rfl ⟨by decide, by decide⟩ ?_
  refine kw_iload_n C (kdec dc_Oracle_seeScars 27 rfl) rfl 43 rfl rfl ?_
  refine kw_bipush (v := 63) C (kdec dc_Oracle_seeScars 28 rfl) 45 rfl (by decide) ⟨by decide, by decide⟩ ?_
  refine kw_iand C (kdec dc_Oracle_seeScars 29 rfl) 46 rfl ?_
  refine kw_lshl C (kdec dc_Oracle_seeScars 30 rfl) 47 rfl ?_
  refine kw_lor C (kdec dc_Oracle_seeScars 31 rfl) 48 rfl ?_
  obtain ⟨hc_5, h⟩ := kchk_h h
  obtain ⟨σ_6, eσ_6, h⟩ := klet_h h
  refine kw_last C (kdec dc_Oracle_seeScars 32 rfl) 49 rfl rfl hc_5.1 hc_5.2 ?_
  refine kw_sig eσ_6 ?_
  obtain ⟨x1_7, ex1_7, h⟩ := klet_h h
  refine kw_iinc (L' := [some (kr 57), some (ki x1_7), some (ki x2)]) C (kdec dc_Oracle_seeScars 33 rfl) 52 rfl rfl (by decide) rfl (by rw [ex1_7]; rfl) ?_
  refine kw_goto C (kdec dc_Oracle_seeScars 34 rfl) 2 (by decide) ?_
  obtain rfl := Option.some.inj h
  exact kw_sub (L' := [some (kr 57), some (ki x1_7), none]) ⟨rfl, rfl, trivial⟩ (hC _ _ rfl)
def pf_Oracle_seeScars_57_l2 (σ : kM) (x1 : Int) : Option ((kM × Int) ⊕ ((kM))) :=
  if (σ 3 1) ≤ x1 then
    some (Sum.inr σ)
  else
    kchk (0 ≤ x1 ∧ x1 < 8) <|
    klet (σ 60 x1.toNat) fun x2_2 =>
    if x2_2 < 64 then
      pf_Oracle_seeScars_57_l2_j38 σ x1 x2_2 0 (w32 (x1 * 2))
    else
      pf_Oracle_seeScars_57_l2_j38 σ x1 x2_2 1 (w32 (x1 * 2))
set_option maxHeartbeats 4000000 in
theorem bd_pf_Oracle_seeScars_57_l2 {x : kX} {l0 : Launch} {Q : State → Prop} (C : kCx x prog_5_method_12_code "PoetFines$Oracle" none kcl yC 3 l0 R0_pf_Oracle_seeScars_57) (σ : kM) (x1 : Int) {out : (kM × Int) ⊕ ((kM))} (h : pf_Oracle_seeScars_57_l2 σ x1 = some out) (hC : ∀ (σ' : kM) (x1' : Int), out = Sum.inl (σ', x1') → KW x 0 0 Q σ' 2 [some (kr 57), some (ki x1'), none] []) (hX55 : ∀ (σ' : kM), out = Sum.inr σ' → KW x 0 0 Q σ' 55 [none, none, none] []) : KW x 0 0 Q σ 2 [some (kr 57), some (ki x1), none] [] := by
  unfold pf_Oracle_seeScars_57_l2 at h
  refine kw_iload_n C (kdec dc_Oracle_seeScars 2 rfl) rfl 3 rfl rfl ?_
  refine kw_aload_n C (kdec dc_Oracle_seeScars 3 rfl) rfl 4 rfl rfl ?_
  refine kw_getR C (kdec dc_Oracle_seeScars 4 rfl) 7 rfl fd_C_Oracle_42_57 ?_
  refine kw_getI C (kdec dc_Oracle_seeScars 5 rfl) 10 rfl fd_C_Oracle_79_3 ?_
  refine kw_icmp_ge C (kdec dc_Oracle_seeScars 6 rfl) 55 13 (by decide) rfl (fun hc10 => ?_) (fun hc10 => ?_)
  · rw [if_pos hc10] at h
    obtain rfl := Option.some.inj h
    exact kw_sub (L' := [none, none, none]) trivial (hX55 _ rfl)
  · rw [if_neg hc10] at h
    refine kw_aload_n C (kdec dc_Oracle_seeScars 7 rfl) rfl 14 rfl rfl ?_
    refine kw_getR C (kdec dc_Oracle_seeScars 8 rfl) 17 rfl fd_C_Oracle_25_57 ?_
    refine kw_iload_n C (kdec dc_Oracle_seeScars 9 rfl) rfl 18 rfl rfl ?_
    obtain ⟨hc_1, h⟩ := kchk_h h
    refine kw_iald C (kdec dc_Oracle_seeScars 10 rfl) 19 rfl rfl hc_1.1 hc_1.2 ?_
    obtain ⟨x2_2, ex2_2, h⟩ := klet_h h
    refine kw_top ex2_2 ?_
    refine kw_istore_n (L' := [some (kr 57), some (ki x1), some (ki x2_2)]) C (kdec dc_Oracle_seeScars 11 rfl) rfl 20 rfl (by decide) rfl rfl ?_
    refine kw_aload_n C (kdec dc_Oracle_seeScars 12 rfl) rfl 21 rfl rfl ?_
    refine kw_getR C (kdec dc_Oracle_seeScars 13 rfl) 24 rfl fd_C_Oracle_29_57 ?_
    refine kw_iload_n C (kdec dc_Oracle_seeScars 14 rfl) rfl 25 rfl rfl ?_
    refine kw_iconst C (kdec dc_Oracle_seeScars 15 rfl) 26 rfl rfl ⟨by decide, by decide⟩ ?_
    refine kw_imul C (kdec dc_Oracle_seeScars 16 rfl) 27 rfl ?_
    refine kw_iload_n C (kdec dc_Oracle_seeScars 17 rfl) rfl 28 rfl rfl ?_
    refine kw_bipush (v := 64) C (kdec dc_Oracle_seeScars 18 rfl) 30 rfl (by decide) ⟨by decide, by decide⟩ ?_
    refine kw_icmp_lt C (kdec dc_Oracle_seeScars 19 rfl) 37 33 (by decide) rfl (fun hc30 => ?_) (fun hc30 => ?_)
    · rw [if_pos hc30] at h
      refine kw_iconst C (kdec dc_Oracle_seeScars 22 rfl) 38 rfl rfl ⟨by decide, by decide⟩ ?_
      exact bd_pf_Oracle_seeScars_57_l2_j38 C σ x1 x2_2 0 (w32 (x1 * 2)) h hC hX55
    · rw [if_neg hc30] at h
      refine kw_iconst C (kdec dc_Oracle_seeScars 20 rfl) 34 rfl rfl ⟨by decide, by decide⟩ ?_
      refine kw_goto C (kdec dc_Oracle_seeScars 21 rfl) 38 (by decide) ?_
      exact bd_pf_Oracle_seeScars_57_l2_j38 C σ x1 x2_2 1 (w32 (x1 * 2)) h hC hX55
theorem lp_pf_Oracle_seeScars_57_l2 {x : kX} {l0 : Launch} {Q : State → Prop} (C : kCx x prog_5_method_12_code "PoetFines$Oracle" none kcl yC 3 l0 R0_pf_Oracle_seeScars_57) {ex : (kM)} (hX55 : ∀ (σ' : kM), ex = σ' → KW x 0 0 Q σ' 55 [none, none, none] []) (n : Nat) (σ : kM) (x1 : Int) (h : kloop (fun st => pf_Oracle_seeScars_57_l2 st.1 st.2) n (σ, x1) = some ex) : KW x 0 0 Q σ 2 [some (kr 57), some (ki x1), none] [] :=
  kloop_ind (P := (fun st : kM × Int => KW x 0 0 Q st.1 2 [some (kr 57), some (ki (st.2)), none] [])) (fun st out hb hc hx => bd_pf_Oracle_seeScars_57_l2 C st.1 st.2 hb (fun a0 a1 e => hc _ e) (fun a0 e => hX55 _ ((hx _ e).symm))) n (σ, x1) h
def pf_Oracle_seeScars_57 (σ : kM) : Option (kM) :=
  (kloop (fun st => pf_Oracle_seeScars_57_l2 st.1 st.2) kFuel (σ, 0)).bind fun σ_10 =>
  some σ_10
set_option maxHeartbeats 4000000 in
theorem bd_pf_Oracle_seeScars_57 {x : kX} {l0 : Launch} {Q : State → Prop} (C : kCx x prog_5_method_12_code "PoetFines$Oracle" none kcl yC 3 l0 R0_pf_Oracle_seeScars_57) (σ : kM) {out : kM} (h : pf_Oracle_seeScars_57 σ = some out) (hR : ∀ (τ : kM), out = τ → Q = kQ x none τ 0 0) : KW x 0 0 Q σ 0 [some (kr 57), none, none] [] := by
  unfold pf_Oracle_seeScars_57 at h
  refine kw_iconst C (kdec dc_Oracle_seeScars 0 rfl) 1 rfl rfl ⟨by decide, by decide⟩ ?_
  refine kw_istore_n (L' := [some (kr 57), some (ki 0), none]) C (kdec dc_Oracle_seeScars 1 rfl) rfl 2 rfl (by decide) rfl rfl ?_
  obtain ⟨ex_8, hl_9, h⟩ := kbind_h h
  refine lp_pf_Oracle_seeScars_57_l2 C ?_ kFuel σ 0 hl_9
  · intro σ_10 e
    subst ex_8
    try dsimp only at h
    obtain rfl := Option.some.inj h
    exact kw_Q (hR _ rfl) (kw_return C (kdec dc_Oracle_seeScars 35 rfl))
theorem mt_pf_Oracle_seeScars_57 (l0 : Launch) {σ : kM} {τ : kM} (h : pf_Oracle_seeScars_57 σ = some τ) : kMet l0 ky_Oracle_seeScars prog_5_method_12_code 3 none R0_pf_Oracle_seeScars_57 kcl yC σ [kr 57] none τ := kMet.of' [some (kr 57), none, none] (by decide) (Nat.le_of_ble_eq_true rfl) ⟨rfl, trivial⟩ (fun x C => bd_pf_Oracle_seeScars_57 C σ h (fun τ e => by subst e; rfl))
def R0_pf_Law_suppose_3 : Room := ({ frames := 0, cells := 0, slots := 0, locals := 0 } : Room)
def pf_Law_suppose_3 (σ : kM) (x1 : Int) (x2 : Int) (x3 : Int) : Option (kM) :=
  kchk (0 ≤ (w32 ((w32 (x1 * 4)) + x2)) ∧ (w32 ((w32 (x1 * 4)) + x2)) < 32) <|
  klet (kst σ 5 (kup (σ 5) ((w32 ((w32 (x1 * 4)) + x2)).toNat) x3)) fun σ_2 =>
  some σ_2
set_option maxHeartbeats 4000000 in
theorem bd_pf_Law_suppose_3 {x : kX} {l0 : Launch} {Q : State → Prop} (C : kCx x prog_4_method_6_code "PoetFines$Law" none kcl yC 4 l0 R0_pf_Law_suppose_3) (σ : kM) (x1 : Int) (x2 : Int) (x3 : Int) {out : kM} (h : pf_Law_suppose_3 σ x1 x2 x3 = some out) (hR : ∀ (τ : kM), out = τ → Q = kQ x none τ 0 0) : KW x 0 0 Q σ 0 [some (kr 3), some (ki x1), some (ki x2), some (ki x3)] [] := by
  unfold pf_Law_suppose_3 at h
  refine kw_aload_n C (kdec dc_Law_suppose 0 rfl) rfl 1 rfl rfl ?_
  refine kw_getR C (kdec dc_Law_suppose 1 rfl) 4 rfl fd_C_Law_25_3 ?_
  refine kw_iload_n C (kdec dc_Law_suppose 2 rfl) rfl 5 rfl rfl ?_
  refine kw_iconst C (kdec dc_Law_suppose 3 rfl) 6 rfl rfl ⟨by decide, by decide⟩ ?_
  refine kw_imul C (kdec dc_Law_suppose 4 rfl) 7 rfl ?_
  refine kw_iload_n C (kdec dc_Law_suppose 5 rfl) rfl 8 rfl rfl ?_
  refine kw_iadd C (kdec dc_Law_suppose 6 rfl) 9 rfl ?_
  refine kw_iload_n C (kdec dc_Law_suppose 7 rfl) rfl 10 rfl rfl ?_
  obtain ⟨hc_1, h⟩ := kchk_h h
  obtain ⟨σ_2, eσ_2, h⟩ := klet_h h
  refine kw_iast C (kdec dc_Law_suppose 8 rfl) 11 rfl rfl hc_1.1 hc_1.2 ?_
  refine kw_sig eσ_2 ?_
  obtain rfl := Option.some.inj h
  exact kw_Q (hR _ rfl) (kw_return C (kdec dc_Law_suppose 9 rfl))
theorem mt_pf_Law_suppose_3 (l0 : Launch) {σ : kM} {x1 : Int} {x2 : Int} {x3 : Int} {τ : kM} (h : pf_Law_suppose_3 σ x1 x2 x3 = some τ) : kMet l0 ky_Law_suppose prog_4_method_6_code 4 none R0_pf_Law_suppose_3 kcl yC σ [kr 3, ki x1, ki x2, ki x3] none τ := kMet.of' [some (kr 3), some (ki x1), some (ki x2), some (ki x3)] (by decide) (Nat.le_of_ble_eq_true rfl) ⟨rfl, rfl, rfl, rfl, trivial⟩ (fun x C => bd_pf_Law_suppose_3 C σ x1 x2 x3 h (fun τ e => by subst e; rfl))
def R0_pf_Chronicle_agrees_29 : Room := ({ frames := 0, cells := 0, slots := 0, locals := 0 } : Room)
def pf_Chronicle_agrees_29_l2_j41 (σ : kM) (x1 : Int) (x2 : Int) (x3 : Int) : Option ((Int) ⊕ ((Unit) ⊕ (Unit))) :=
  klet (w32 (x3 + 1)) fun x3_2 =>
  some (Sum.inl x3_2)
set_option maxHeartbeats 4000000 in
theorem bd_pf_Chronicle_agrees_29_l2_j41 {x : kX} {l0 : Launch} {Q : State → Prop} (C : kCx x prog_2_method_8_code "PoetFines$Chronicle" (some .boolean) kcl yC 4 l0 R0_pf_Chronicle_agrees_29) (σ : kM) (x1 : Int) (x2 : Int) (x3 : Int) {out : (Int) ⊕ ((Unit) ⊕ (Unit))} (h : pf_Chronicle_agrees_29_l2_j41 σ x1 x2 x3 = some out) (hC : ∀ (x3' : Int), out = Sum.inl x3' → KW x 0 0 Q σ 2 [some (kr 29), some (ki x1), some (ki x2), some (ki x3')] []) (hX39 : out = Sum.inr (Sum.inl ()) → KW x 0 0 Q σ 39 [none, none, none, none] []) (hX47 : out = Sum.inr (Sum.inr ()) → KW x 0 0 Q σ 47 [none, none, none, none] []) : KW x 0 0 Q σ 41 [some (kr 29), some (ki x1), some (ki x2), some (ki x3)] [] := by
  unfold pf_Chronicle_agrees_29_l2_j41 at h
  obtain ⟨x3_2, ex3_2, h⟩ := klet_h h
  refine kw_iinc (L' := [some (kr 29), some (ki x1), some (ki x2), some (ki x3_2)]) C (kdec dc_Chronicle_agrees 27 rfl) 44 rfl rfl (by decide) rfl (by rw [ex3_2]; rfl) ?_
  refine kw_goto C (kdec dc_Chronicle_agrees 28 rfl) 2 (by decide) ?_
  obtain rfl := Option.some.inj h
  exact (hC _ rfl)
def pf_Chronicle_agrees_29_l2 (σ : kM) (x1 : Int) (x2 : Int) (x3 : Int) : Option ((Int) ⊕ ((Unit) ⊕ (Unit))) :=
  if (σ 29 4) ≤ x3 then
    some (Sum.inr (Sum.inr ()))
  else
    kchk (0 ≤ x3 ∧ x3 < 8) <|
    if (σ 34 x3.toNat) = x1 then
      kchk (0 ≤ x3 ∧ x3 < 8) <|
      kchk (0 ≤ x3 ∧ x3 < 8) <|
      if (σ 35 x3.toNat) = (kand (kshr x2 (σ 33 x3.toNat)) 1) then
        pf_Chronicle_agrees_29_l2_j41 σ x1 x2 x3
      else
        some (Sum.inr (Sum.inl ()))
    else
      pf_Chronicle_agrees_29_l2_j41 σ x1 x2 x3
set_option maxHeartbeats 4000000 in
theorem bd_pf_Chronicle_agrees_29_l2 {x : kX} {l0 : Launch} {Q : State → Prop} (C : kCx x prog_2_method_8_code "PoetFines$Chronicle" (some .boolean) kcl yC 4 l0 R0_pf_Chronicle_agrees_29) (σ : kM) (x1 : Int) (x2 : Int) (x3 : Int) {out : (Int) ⊕ ((Unit) ⊕ (Unit))} (h : pf_Chronicle_agrees_29_l2 σ x1 x2 x3 = some out) (hC : ∀ (x3' : Int), out = Sum.inl x3' → KW x 0 0 Q σ 2 [some (kr 29), some (ki x1), some (ki x2), some (ki x3')] []) (hX39 : out = Sum.inr (Sum.inl ()) → KW x 0 0 Q σ 39 [none, none, none, none] []) (hX47 : out = Sum.inr (Sum.inr ()) → KW x 0 0 Q σ 47 [none, none, none, none] []) : KW x 0 0 Q σ 2 [some (kr 29), some (ki x1), some (ki x2), some (ki x3)] [] := by
  unfold pf_Chronicle_agrees_29_l2 at h
  refine kw_iload_n C (kdec dc_Chronicle_agrees 2 rfl) rfl 3 rfl rfl ?_
  refine kw_aload_n C (kdec dc_Chronicle_agrees 3 rfl) rfl 4 rfl rfl ?_
  refine kw_getI C (kdec dc_Chronicle_agrees 4 rfl) 7 rfl fd_C_Chronicle_29_29 ?_
  refine kw_icmp_ge C (kdec dc_Chronicle_agrees 5 rfl) 47 10 (by decide) rfl (fun hc7 => ?_) (fun hc7 => ?_)
  · rw [if_pos hc7] at h
    obtain rfl := Option.some.inj h
    exact kw_sub (L' := [none, none, none, none]) trivial (hX47 rfl)
  · rw [if_neg hc7] at h
    refine kw_aload_n C (kdec dc_Chronicle_agrees 6 rfl) rfl 11 rfl rfl ?_
    refine kw_getR C (kdec dc_Chronicle_agrees 7 rfl) 14 rfl fd_C_Chronicle_35_29 ?_
    refine kw_iload_n C (kdec dc_Chronicle_agrees 8 rfl) rfl 15 rfl rfl ?_
    obtain ⟨hc_1, h⟩ := kchk_h h
    refine kw_iald C (kdec dc_Chronicle_agrees 9 rfl) 16 rfl rfl hc_1.1 hc_1.2 ?_
    refine kw_iload_n C (kdec dc_Chronicle_agrees 10 rfl) rfl 17 rfl rfl ?_
    refine kw_icmp_ne C (kdec dc_Chronicle_agrees 11 rfl) 41 20 (by decide) rfl (fun hc17 => ?_) (fun hc17 => ?_)
    · rw [if_neg hc17] at h
      exact bd_pf_Chronicle_agrees_29_l2_j41 C σ x1 x2 x3 h hC hX39 hX47
    · rw [if_pos hc17] at h
      refine kw_aload_n C (kdec dc_Chronicle_agrees 12 rfl) rfl 21 rfl rfl ?_
      refine kw_getR C (kdec dc_Chronicle_agrees 13 rfl) 24 rfl fd_C_Chronicle_38_29 ?_
      refine kw_iload_n C (kdec dc_Chronicle_agrees 14 rfl) rfl 25 rfl rfl ?_
      obtain ⟨hc_3, h⟩ := kchk_h h
      refine kw_iald C (kdec dc_Chronicle_agrees 15 rfl) 26 rfl rfl hc_3.1 hc_3.2 ?_
      refine kw_iload_n C (kdec dc_Chronicle_agrees 16 rfl) rfl 27 rfl rfl ?_
      refine kw_aload_n C (kdec dc_Chronicle_agrees 17 rfl) rfl 28 rfl rfl ?_
      refine kw_getR C (kdec dc_Chronicle_agrees 18 rfl) 31 rfl fd_C_Chronicle_32_29 ?_
      refine kw_iload_n C (kdec dc_Chronicle_agrees 19 rfl) rfl 32 rfl rfl ?_
      obtain ⟨hc_4, h⟩ := kchk_h h
      refine kw_iald C (kdec dc_Chronicle_agrees 20 rfl) 33 rfl rfl hc_4.1 hc_4.2 ?_
      refine kw_ishr C (kdec dc_Chronicle_agrees 21 rfl) 34 rfl ?_
      refine kw_iconst C (kdec dc_Chronicle_agrees 22 rfl) 35 rfl rfl ⟨by decide, by decide⟩ ?_
      refine kw_iand C (kdec dc_Chronicle_agrees 23 rfl) 36 rfl ?_
      refine kw_icmp_eq C (kdec dc_Chronicle_agrees 24 rfl) 41 39 (by decide) rfl (fun hc36 => ?_) (fun hc36 => ?_)
      · rw [if_pos hc36] at h
        exact bd_pf_Chronicle_agrees_29_l2_j41 C σ x1 x2 x3 h hC hX39 hX47
      · rw [if_neg hc36] at h
        obtain rfl := Option.some.inj h
        exact kw_sub (L' := [none, none, none, none]) trivial (hX39 rfl)
theorem lp_pf_Chronicle_agrees_29_l2 {x : kX} {l0 : Launch} {Q : State → Prop} (C : kCx x prog_2_method_8_code "PoetFines$Chronicle" (some .boolean) kcl yC 4 l0 R0_pf_Chronicle_agrees_29) (σ : kM) (x1 : Int) (x2 : Int) {ex : (Unit) ⊕ (Unit)} (hX39 : ex = (Sum.inl ()) → KW x 0 0 Q σ 39 [none, none, none, none] []) (hX47 : ex = (Sum.inr ()) → KW x 0 0 Q σ 47 [none, none, none, none] []) (n : Nat) (x3 : Int) (h : kloop (fun st => pf_Chronicle_agrees_29_l2 σ x1 x2 st) n x3 = some ex) : KW x 0 0 Q σ 2 [some (kr 29), some (ki x1), some (ki x2), some (ki x3)] [] :=
  kloop_ind (P := (fun st : Int => KW x 0 0 Q σ 2 [some (kr 29), some (ki x1), some (ki x2), some (ki st)] [])) (fun st out hb hc hx => bd_pf_Chronicle_agrees_29_l2 C σ x1 x2 st hb (fun a0 e => hc _ e) (fun e => hX39 ((hx _ e).symm)) (fun e => hX47 ((hx _ e).symm))) n x3 h
def pf_Chronicle_agrees_29 (σ : kM) (x1 : Int) (x2 : Int) : Option (Int) :=
  (kloop (fun st => pf_Chronicle_agrees_29_l2 σ x1 x2 st) kFuel 0).bind fun ex_5 => match ex_5 with
    | (Sum.inl ()) =>
      some 0
    | (Sum.inr ()) =>
      some 1
set_option maxHeartbeats 4000000 in
theorem bd_pf_Chronicle_agrees_29 {x : kX} {l0 : Launch} {Q : State → Prop} (C : kCx x prog_2_method_8_code "PoetFines$Chronicle" (some .boolean) kcl yC 4 l0 R0_pf_Chronicle_agrees_29) (σ : kM) (x1 : Int) (x2 : Int) {out : Int} (h : pf_Chronicle_agrees_29 σ x1 x2 = some out) (hR : ∀ (r : Int), out = r → Q = kQ x (some (ki r)) σ 0 0) : KW x 0 0 Q σ 0 [some (kr 29), some (ki x1), some (ki x2), none] [] := by
  unfold pf_Chronicle_agrees_29 at h
  refine kw_iconst C (kdec dc_Chronicle_agrees 0 rfl) 1 rfl rfl ⟨by decide, by decide⟩ ?_
  refine kw_istore_n (L' := [some (kr 29), some (ki x1), some (ki x2), some (ki 0)]) C (kdec dc_Chronicle_agrees 1 rfl) rfl 2 rfl (by decide) rfl rfl ?_
  obtain ⟨ex_5, hl_6, h⟩ := kbind_h h
  refine lp_pf_Chronicle_agrees_29_l2 C σ x1 x2 ?_ ?_ kFuel 0 hl_6
  · intro e
    subst ex_5
    try dsimp only at h
    refine kw_iconst C (kdec dc_Chronicle_agrees 25 rfl) 40 rfl rfl ⟨by decide, by decide⟩ ?_
    obtain rfl := Option.some.inj h
    exact kw_Q (hR _ rfl) (kw_zreturn C (kdec dc_Chronicle_agrees 26 rfl) (by decide))
  · intro e
    subst ex_5
    try dsimp only at h
    refine kw_iconst C (kdec dc_Chronicle_agrees 29 rfl) 48 rfl rfl ⟨by decide, by decide⟩ ?_
    obtain rfl := Option.some.inj h
    exact kw_Q (hR _ rfl) (kw_zreturn C (kdec dc_Chronicle_agrees 30 rfl) (by decide))
theorem mt_pf_Chronicle_agrees_29 (l0 : Launch) {σ : kM} {x1 : Int} {x2 : Int} {r : Int} (h : pf_Chronicle_agrees_29 σ x1 x2 = some r) : kMet l0 ky_Chronicle_agrees prog_2_method_8_code 4 (some .boolean) R0_pf_Chronicle_agrees_29 kcl yC σ [kr 29, ki x1, ki x2] (some (ki r)) σ := kMet.of' [some (kr 29), some (ki x1), some (ki x2), none] (by decide) (Nat.le_of_ble_eq_true rfl) ⟨rfl, rfl, rfl, trivial⟩ (fun x C => bd_pf_Chronicle_agrees_29 C σ x1 x2 h (fun r e => by subst e; rfl))
def R0_pf_Oracle_allFelt_57 : Room := ({ frames := 5, cells := 0, slots := 0, locals := 123 } : Room)
def pf_Oracle_allFelt_57_l6_j63 (σ : kM) (x1 : Int) (x2 : Int) : Option ((kM × Int) ⊕ ((kM) ⊕ (kM))) :=
  klet (w32 (x2 + 1)) fun x2_4 =>
  some (Sum.inl (σ, x2_4))
set_option maxHeartbeats 4000000 in
theorem bd_pf_Oracle_allFelt_57_l6_j63 {x : kX} {l0 : Launch} {Q : State → Prop} (C : kCx x prog_5_method_9_code "PoetFines$Oracle" (some .boolean) kcl yC 3 l0 R0_pf_Oracle_allFelt_57) (σ : kM) (x1 : Int) (x2 : Int) {out : (kM × Int) ⊕ ((kM) ⊕ (kM))} (h : pf_Oracle_allFelt_57_l6_j63 σ x1 x2 = some out) (hC : ∀ (σ' : kM) (x2' : Int), out = Sum.inl (σ', x2') → KW x 0 0 Q σ' 6 [some (kr 57), some (ki x1), some (ki x2')] []) (hX37 : ∀ (σ' : kM), out = Sum.inr (Sum.inl σ') → KW x 0 0 Q σ' 37 [none, none, none] []) (hX69 : ∀ (σ' : kM), out = Sum.inr (Sum.inr σ') → KW x 0 0 Q σ' 69 [none, none, none] []) : KW x 0 0 Q σ 63 [some (kr 57), some (ki x1), some (ki x2)] [] := by
  unfold pf_Oracle_allFelt_57_l6_j63 at h
  obtain ⟨x2_4, ex2_4, h⟩ := klet_h h
  refine kw_iinc (L' := [some (kr 57), some (ki x1), some (ki x2_4)]) C (kdec dc_Oracle_allFelt 33 rfl) 66 rfl rfl (by decide) rfl (by rw [ex2_4]; rfl) ?_
  refine kw_goto C (kdec dc_Oracle_allFelt 34 rfl) 6 (by decide) ?_
  obtain rfl := Option.some.inj h
  exact (hC _ _ rfl)
def pf_Oracle_allFelt_57_l6 (σ : kM) (x1 : Int) (x2 : Int) : Option ((kM × Int) ⊕ ((kM) ⊕ (kM))) :=
  if x1 < x2 then
    some (Sum.inr (Sum.inr σ))
  else
    (pf_Stage_passYear_64 σ 0).bind fun σ_2 =>
    (pf_Chronicle_agrees_29 σ_2 x2 (σ_2 65 6)).bind fun r_3 =>
    if r_3 = 0 then
      some (Sum.inr (Sum.inl σ_2))
    else
      if x2 = 5 then
        klet (kst σ_2 60 (va_cpy (σ_2 59) (σ_2 60) (9 : Int).toNat (0 : Int).toNat (8 : Int).toNat)) fun σ_6 =>
        pf_Oracle_allFelt_57_l6_j63 σ_6 x1 x2
      else
        pf_Oracle_allFelt_57_l6_j63 σ_2 x1 x2
set_option maxHeartbeats 4000000 in
theorem bd_pf_Oracle_allFelt_57_l6 {x : kX} {l0 : Launch} {Q : State → Prop} (C : kCx x prog_5_method_9_code "PoetFines$Oracle" (some .boolean) kcl yC 3 l0 R0_pf_Oracle_allFelt_57) (σ : kM) (x1 : Int) (x2 : Int) {out : (kM × Int) ⊕ ((kM) ⊕ (kM))} (h : pf_Oracle_allFelt_57_l6 σ x1 x2 = some out) (hC : ∀ (σ' : kM) (x2' : Int), out = Sum.inl (σ', x2') → KW x 0 0 Q σ' 6 [some (kr 57), some (ki x1), some (ki x2')] []) (hX37 : ∀ (σ' : kM), out = Sum.inr (Sum.inl σ') → KW x 0 0 Q σ' 37 [none, none, none] []) (hX69 : ∀ (σ' : kM), out = Sum.inr (Sum.inr σ') → KW x 0 0 Q σ' 69 [none, none, none] []) : KW x 0 0 Q σ 6 [some (kr 57), some (ki x1), some (ki x2)] [] := by
  unfold pf_Oracle_allFelt_57_l6 at h
  refine kw_iload_n C (kdec dc_Oracle_allFelt 4 rfl) rfl 7 rfl rfl ?_
  refine kw_iload_n C (kdec dc_Oracle_allFelt 5 rfl) rfl 8 rfl rfl ?_
  refine kw_icmp_gt C (kdec dc_Oracle_allFelt 6 rfl) 69 11 (by decide) rfl (fun hc8 => ?_) (fun hc8 => ?_)
  · rw [if_pos hc8] at h
    obtain rfl := Option.some.inj h
    exact kw_sub (L' := [none, none, none]) trivial (hX69 _ rfl)
  · rw [if_neg hc8] at h
    refine kw_aload_n C (kdec dc_Oracle_allFelt 7 rfl) rfl 12 rfl rfl ?_
    refine kw_getR C (kdec dc_Oracle_allFelt 8 rfl) 15 rfl fd_C_Oracle_55_57 ?_
    refine kw_iconst C (kdec dc_Oracle_allFelt 9 rfl) 16 rfl rfl ⟨by decide, by decide⟩ ?_
    obtain ⟨σ_2, hg_8, h⟩ := kbind_h h
    refine kw_callV (As := [ki 0]) C (kdec dc_Oracle_allFelt 10 rfl) 19 rfl cv_Oracle_75 rfl rfl (mt_pf_Stage_passYear_64 l0 hg_8) ⟨rfl, rfl⟩ ⟨Nat.le_of_ble_eq_true rfl, Nat.le_of_ble_eq_true rfl⟩ ⟨Nat.zero_le _, Nat.zero_le _⟩ rfl (Nat.le_of_ble_eq_true rfl) ?_
    change KW x 0 0 Q σ_2 19 [some (kr 57), some (ki x1), some (ki x2)] []
    refine kw_aload_n C (kdec dc_Oracle_allFelt 11 rfl) rfl 20 rfl rfl ?_
    refine kw_getR C (kdec dc_Oracle_allFelt 12 rfl) 23 rfl fd_C_Oracle_46_57 ?_
    refine kw_iload_n C (kdec dc_Oracle_allFelt 13 rfl) rfl 24 rfl rfl ?_
    refine kw_aload_n C (kdec dc_Oracle_allFelt 14 rfl) rfl 25 rfl rfl ?_
    refine kw_getR C (kdec dc_Oracle_allFelt 15 rfl) 28 rfl fd_C_Oracle_63_57 ?_
    refine kw_getI C (kdec dc_Oracle_allFelt 16 rfl) 31 rfl fd_C_Oracle_112_65 ?_
    obtain ⟨r_3, hg_7, h⟩ := kbind_h h
    refine kw_callV (As := [ki x2, ki (σ_2 65 6)]) C (kdec dc_Oracle_allFelt 17 rfl) 34 rfl cv_Oracle_115 rfl rfl (mt_pf_Chronicle_agrees_29 l0 hg_7) ⟨rfl, rfl⟩ ⟨Nat.le_of_ble_eq_true rfl, Nat.le_of_ble_eq_true rfl⟩ ⟨Nat.zero_le _, Nat.zero_le _⟩ rfl (Nat.le_of_ble_eq_true rfl) ?_
    change KW x 0 0 Q σ_2 34 [some (kr 57), some (ki x1), some (ki x2)] [ki r_3]
    refine kw_if_ne C (kdec dc_Oracle_allFelt 18 rfl) 39 37 (by decide) rfl (fun hc34 => ?_) (fun hc34 => ?_)
    · rw [if_neg hc34] at h
      refine kw_iload_n C (kdec dc_Oracle_allFelt 21 rfl) rfl 40 rfl rfl ?_
      refine kw_iconst C (kdec dc_Oracle_allFelt 22 rfl) 41 rfl rfl ⟨by decide, by decide⟩ ?_
      refine kw_icmp_ne C (kdec dc_Oracle_allFelt 23 rfl) 63 44 (by decide) rfl (fun hc41 => ?_) (fun hc41 => ?_)
      · rw [if_neg hc41] at h
        exact bd_pf_Oracle_allFelt_57_l6_j63 C σ_2 x1 x2 h hC hX37 hX69
      · rw [if_pos hc41] at h
        refine kw_aload_n C (kdec dc_Oracle_allFelt 24 rfl) rfl 45 rfl rfl ?_
        refine kw_getR C (kdec dc_Oracle_allFelt 25 rfl) 48 rfl fd_C_Oracle_12_57 ?_
        refine kw_getR C (kdec dc_Oracle_allFelt 26 rfl) 51 rfl fd_C_Oracle_84_58 ?_
        refine kw_bipush (v := 9) C (kdec dc_Oracle_allFelt 27 rfl) 53 rfl (by decide) ⟨by decide, by decide⟩ ?_
        refine kw_aload_n C (kdec dc_Oracle_allFelt 28 rfl) rfl 54 rfl rfl ?_
        refine kw_getR C (kdec dc_Oracle_allFelt 29 rfl) 57 rfl fd_C_Oracle_25_57 ?_
        refine kw_iconst C (kdec dc_Oracle_allFelt 30 rfl) 58 rfl rfl ⟨by decide, by decide⟩ ?_
        refine kw_bipush (v := 8) C (kdec dc_Oracle_allFelt 31 rfl) 60 rfl (by decide) ⟨by decide, by decide⟩ ?_
        obtain ⟨σ_6, eσ_6, h⟩ := klet_h h
        refine kw_copy C (kdec dc_Oracle_allFelt 32 rfl) 63 rfl ca_Oracle_119 rfl rfl (by decide) (by decide) (by decide) (by decide) (by decide) ⟨Nat.le_of_ble_eq_true rfl, by decide⟩ (Nat.le_of_ble_eq_true rfl) ?_
        refine kw_sig eσ_6 ?_
        exact bd_pf_Oracle_allFelt_57_l6_j63 C σ_6 x1 x2 h hC hX37 hX69
    · rw [if_pos hc34] at h
      obtain rfl := Option.some.inj h
      exact kw_sub (L' := [none, none, none]) trivial (hX37 _ rfl)
theorem lp_pf_Oracle_allFelt_57_l6 {x : kX} {l0 : Launch} {Q : State → Prop} (C : kCx x prog_5_method_9_code "PoetFines$Oracle" (some .boolean) kcl yC 3 l0 R0_pf_Oracle_allFelt_57) (x1 : Int) {ex : (kM) ⊕ (kM)} (hX37 : ∀ (σ' : kM), ex = (Sum.inl σ') → KW x 0 0 Q σ' 37 [none, none, none] []) (hX69 : ∀ (σ' : kM), ex = (Sum.inr σ') → KW x 0 0 Q σ' 69 [none, none, none] []) (n : Nat) (σ : kM) (x2 : Int) (h : kloop (fun st => pf_Oracle_allFelt_57_l6 st.1 x1 st.2) n (σ, x2) = some ex) : KW x 0 0 Q σ 6 [some (kr 57), some (ki x1), some (ki x2)] [] :=
  kloop_ind (P := (fun st : kM × Int => KW x 0 0 Q st.1 6 [some (kr 57), some (ki x1), some (ki (st.2))] [])) (fun st out hb hc hx => bd_pf_Oracle_allFelt_57_l6 C st.1 x1 st.2 hb (fun a0 a1 e => hc _ e) (fun a0 e => hX37 _ ((hx _ e).symm)) (fun a0 e => hX69 _ ((hx _ e).symm))) n (σ, x2) h
def pf_Oracle_allFelt_57 (σ : kM) (x1 : Int) : Option (Int × kM) :=
  (pf_Oracle_begin_57 σ).bind fun σ_1 =>
  (kloop (fun st => pf_Oracle_allFelt_57_l6 st.1 x1 st.2) kFuel (σ_1, 1)).bind fun ex_9 => match ex_9 with
    | (Sum.inl σ_11) =>
      some ((0, σ_11))
    | (Sum.inr σ_12) =>
      some ((1, σ_12))
set_option maxHeartbeats 4000000 in
theorem bd_pf_Oracle_allFelt_57 {x : kX} {l0 : Launch} {Q : State → Prop} (C : kCx x prog_5_method_9_code "PoetFines$Oracle" (some .boolean) kcl yC 3 l0 R0_pf_Oracle_allFelt_57) (σ : kM) (x1 : Int) {out : Int × kM} (h : pf_Oracle_allFelt_57 σ x1 = some out) (hR : ∀ (r : Int) (τ : kM), out = (r, τ) → Q = kQ x (some (ki r)) τ 0 0) : KW x 0 0 Q σ 0 [some (kr 57), some (ki x1), none] [] := by
  unfold pf_Oracle_allFelt_57 at h
  refine kw_aload_n C (kdec dc_Oracle_allFelt 0 rfl) rfl 1 rfl rfl ?_
  obtain ⟨σ_1, hg_13, h⟩ := kbind_h h
  refine kw_callV (As := []) C (kdec dc_Oracle_allFelt 1 rfl) 4 rfl cv_Oracle_64 rfl rfl (mt_pf_Oracle_begin_57 l0 hg_13) ⟨rfl, rfl⟩ ⟨Nat.le_of_ble_eq_true rfl, Nat.le_of_ble_eq_true rfl⟩ ⟨Nat.zero_le _, Nat.zero_le _⟩ rfl (Nat.le_of_ble_eq_true rfl) ?_
  change KW x 0 0 Q σ_1 4 [some (kr 57), some (ki x1), none] []
  refine kw_iconst C (kdec dc_Oracle_allFelt 2 rfl) 5 rfl rfl ⟨by decide, by decide⟩ ?_
  refine kw_istore_n (L' := [some (kr 57), some (ki x1), some (ki 1)]) C (kdec dc_Oracle_allFelt 3 rfl) rfl 6 rfl (by decide) rfl rfl ?_
  obtain ⟨ex_9, hl_10, h⟩ := kbind_h h
  refine lp_pf_Oracle_allFelt_57_l6 C x1 ?_ ?_ kFuel σ_1 1 hl_10
  · intro σ_11 e
    subst ex_9
    try dsimp only at h
    refine kw_iconst C (kdec dc_Oracle_allFelt 19 rfl) 38 rfl rfl ⟨by decide, by decide⟩ ?_
    obtain rfl := Option.some.inj h
    exact kw_Q (hR _ _ rfl) (kw_zreturn C (kdec dc_Oracle_allFelt 20 rfl) (by decide))
  · intro σ_12 e
    subst ex_9
    try dsimp only at h
    refine kw_iconst C (kdec dc_Oracle_allFelt 35 rfl) 70 rfl rfl ⟨by decide, by decide⟩ ?_
    obtain rfl := Option.some.inj h
    exact kw_Q (hR _ _ rfl) (kw_zreturn C (kdec dc_Oracle_allFelt 36 rfl) (by decide))
theorem mt_pf_Oracle_allFelt_57 (l0 : Launch) {σ : kM} {x1 : Int} {r : Int} {τ : kM} (h : pf_Oracle_allFelt_57 σ x1 = some (r, τ)) : kMet l0 ky_Oracle_allFelt prog_5_method_9_code 3 (some .boolean) R0_pf_Oracle_allFelt_57 kcl yC σ [kr 57, ki x1] (some (ki r)) τ := kMet.of' [some (kr 57), some (ki x1), none] (by decide) (Nat.le_of_ble_eq_true rfl) ⟨rfl, rfl, trivial⟩ (fun x C => bd_pf_Oracle_allFelt_57 C σ x1 h (fun r τ e => by cases e; rfl))

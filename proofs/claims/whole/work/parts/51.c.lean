def R0_pf_Court_inchesOf_50 : Room := ({ frames := 1, cells := 0, slots := 0, locals := 23 } : Room)
def pf_Court_inchesOf_50 (σ : kM) (x1 : Int) : Option (Int) :=
  (pf_Court_sumOf_52 σ x1).bind fun r_1 =>
  some r_1
set_option maxHeartbeats 4000000 in
theorem bd_pf_Court_inchesOf_50 {x : kX} {l0 : Launch} {Q : State → Prop} (C : kCx x prog_3_method_7_code "PoetFines$Court" (some .int) kcl yC 2 l0 R0_pf_Court_inchesOf_50) (σ : kM) (x1 : Int) {out : Int} (h : pf_Court_inchesOf_50 σ x1 = some out) (hR : ∀ (r : Int), out = r → Q = kQ x (some (ki r)) σ 0 0) : KW x 0 0 Q σ 0 [some (kr 50), some (ki x1)] [] := by
  unfold pf_Court_inchesOf_50 at h
  refine kw_aload_n C (kdec dc_Court_inchesOf 0 rfl) rfl 1 rfl rfl ?_
  refine kw_getR C (kdec dc_Court_inchesOf 1 rfl) 4 rfl fd_C_Court_15_50 ?_
  refine kw_iload_n C (kdec dc_Court_inchesOf 2 rfl) rfl 5 rfl rfl ?_
  obtain ⟨r_1, hg_2, h⟩ := kbind_h h
  refine kw_callS (As := [kr 52, ki x1]) C (kdec dc_Court_inchesOf 3 rfl) 8 rfl cs_Court_79 (mt_pf_Court_sumOf_52 l0 hg_2) ⟨rfl, rfl⟩ ⟨Nat.le_of_ble_eq_true rfl, Nat.le_of_ble_eq_true rfl⟩ ⟨Nat.zero_le _, Nat.zero_le _⟩ rfl (Nat.le_of_ble_eq_true rfl) ?_
  change KW x 0 0 Q σ 8 [some (kr 50), some (ki x1)] [ki r_1]
  obtain rfl := Option.some.inj h
  exact kw_Q (hR _ rfl) (kw_ireturn C (kdec dc_Court_inchesOf 4 rfl))
theorem mt_pf_Court_inchesOf_50 (l0 : Launch) {σ : kM} {x1 : Int} {r : Int} (h : pf_Court_inchesOf_50 σ x1 = some r) : kMet l0 ky_Court_inchesOf prog_3_method_7_code 2 (some .int) R0_pf_Court_inchesOf_50 kcl yC σ [kr 50, ki x1] (some (ki r)) σ := kMet.of' [some (kr 50), some (ki x1)] (by decide) (Nat.le_of_ble_eq_true rfl) ⟨rfl, rfl, trivial⟩ (fun x C => bd_pf_Court_inchesOf_50 C σ x1 h (fun r e => by subst e; rfl))
def R0_pf_Court_sonnetLines_50 : Room := ({ frames := 6, cells := 0, slots := 0, locals := 143 } : Room)
def pf_Court_sonnetLines_50_l12 (σ : kM) (x1 : Int) (x2 : Int) (x3 : Int) : Option ((kM × Int) ⊕ ((kM))) :=
  if x2 ≤ x3 then
    some (Sum.inr σ)
  else
    (pf_Court_fineOfLine_50 σ x1 x3).bind fun (r_3, σ_4) =>
    kchk (0 ≤ x3 ∧ x3 < 6) <|
    klet (kst σ_4 51 (kup (σ_4 51) x3.toNat r_3)) fun σ_6 =>
    (pf_Court_inchesOfLine_50 σ_6 x1 x3).bind fun (r_7, σ_8) =>
    kchk (0 ≤ x3 ∧ x3 < 6) <|
    klet (kst σ_8 52 (kup (σ_8 52) x3.toNat r_7)) fun σ_10 =>
    klet (w32 (x3 + 1)) fun x3_11 =>
    some (Sum.inl (σ_10, x3_11))
set_option maxHeartbeats 4000000 in
theorem bd_pf_Court_sonnetLines_50_l12 {x : kX} {l0 : Launch} {Q : State → Prop} (C : kCx x prog_3_method_6_code "PoetFines$Court" (some .int) kcl yC 6 l0 R0_pf_Court_sonnetLines_50) (σ : kM) (x1 : Int) (x2 : Int) (x3 : Int) {out : (kM × Int) ⊕ ((kM))} (h : pf_Court_sonnetLines_50_l12 σ x1 x2 x3 = some out) (hC : ∀ (σ' : kM) (x3' : Int), out = Sum.inl (σ', x3') → KW x 0 0 Q σ' 12 [some (kr 50), some (ki x1), some (ki x2), some (ki x3'), none, none] []) (hX47 : ∀ (σ' : kM), out = Sum.inr σ' → KW x 0 0 Q σ' 47 [some (kr 50), some (ki x1), some (ki x2), none, none, none] []) : KW x 0 0 Q σ 12 [some (kr 50), some (ki x1), some (ki x2), some (ki x3), none, none] [] := by
  unfold pf_Court_sonnetLines_50_l12 at h
  refine kw_iload_n C (kdec dc_Court_sonnetLines 8 rfl) rfl 13 rfl rfl ?_
  refine kw_iload_n C (kdec dc_Court_sonnetLines 9 rfl) rfl 14 rfl rfl ?_
  refine kw_icmp_ge C (kdec dc_Court_sonnetLines 10 rfl) 47 17 (by decide) rfl (fun hc14 => ?_) (fun hc14 => ?_)
  · rw [if_pos hc14] at h
    obtain rfl := Option.some.inj h
    exact kw_sub (L' := [some (kr 50), some (ki x1), some (ki x2), none, none, none]) ⟨rfl, rfl, rfl, trivial⟩ (hX47 _ rfl)
  · rw [if_neg hc14] at h
    refine kw_aload_n C (kdec dc_Court_sonnetLines 11 rfl) rfl 18 rfl rfl ?_
    refine kw_getR C (kdec dc_Court_sonnetLines 12 rfl) 21 rfl fd_C_Court_9_50 ?_
    refine kw_iload_n C (kdec dc_Court_sonnetLines 13 rfl) rfl 22 rfl rfl ?_
    refine kw_aload_n C (kdec dc_Court_sonnetLines 14 rfl) rfl 23 rfl rfl ?_
    refine kw_iload_n C (kdec dc_Court_sonnetLines 15 rfl) rfl 24 rfl rfl ?_
    refine kw_iload_n C (kdec dc_Court_sonnetLines 16 rfl) rfl 25 rfl rfl ?_
    obtain ⟨⟨r_3, σ_4⟩, hg_13, h⟩ := kbind_h h
    dsimp only at h
    refine kw_callV (As := [ki x1, ki x3]) C (kdec dc_Court_sonnetLines 17 rfl) 28 rfl cv_Court_72 rfl rfl (mt_pf_Court_fineOfLine_50 l0 hg_13) ⟨rfl, rfl⟩ ⟨Nat.le_of_ble_eq_true rfl, Nat.le_of_ble_eq_true rfl⟩ ⟨Nat.zero_le _, Nat.zero_le _⟩ rfl (Nat.le_of_ble_eq_true rfl) ?_
    change KW x 0 0 Q σ_4 28 [some (kr 50), some (ki x1), some (ki x2), some (ki x3), none, none] [ki r_3, ki x3, kr 51]
    obtain ⟨hc_5, h⟩ := kchk_h h
    obtain ⟨σ_6, eσ_6, h⟩ := klet_h h
    refine kw_iast C (kdec dc_Court_sonnetLines 18 rfl) 29 rfl rfl hc_5.1 hc_5.2 ?_
    refine kw_sig eσ_6 ?_
    refine kw_aload_n C (kdec dc_Court_sonnetLines 19 rfl) rfl 30 rfl rfl ?_
    refine kw_getR C (kdec dc_Court_sonnetLines 20 rfl) 33 rfl fd_C_Court_15_50 ?_
    refine kw_iload_n C (kdec dc_Court_sonnetLines 21 rfl) rfl 34 rfl rfl ?_
    refine kw_aload_n C (kdec dc_Court_sonnetLines 22 rfl) rfl 35 rfl rfl ?_
    refine kw_iload_n C (kdec dc_Court_sonnetLines 23 rfl) rfl 36 rfl rfl ?_
    refine kw_iload_n C (kdec dc_Court_sonnetLines 24 rfl) rfl 37 rfl rfl ?_
    obtain ⟨⟨r_7, σ_8⟩, hg_12, h⟩ := kbind_h h
    dsimp only at h
    refine kw_callV (As := [ki x1, ki x3]) C (kdec dc_Court_sonnetLines 25 rfl) 40 rfl cv_Court_76 rfl rfl (mt_pf_Court_inchesOfLine_50 l0 hg_12) ⟨rfl, rfl⟩ ⟨Nat.le_of_ble_eq_true rfl, Nat.le_of_ble_eq_true rfl⟩ ⟨Nat.zero_le _, Nat.zero_le _⟩ rfl (Nat.le_of_ble_eq_true rfl) ?_
    change KW x 0 0 Q σ_8 40 [some (kr 50), some (ki x1), some (ki x2), some (ki x3), none, none] [ki r_7, ki x3, kr 52]
    obtain ⟨hc_9, h⟩ := kchk_h h
    obtain ⟨σ_10, eσ_10, h⟩ := klet_h h
    refine kw_iast C (kdec dc_Court_sonnetLines 26 rfl) 41 rfl rfl hc_9.1 hc_9.2 ?_
    refine kw_sig eσ_10 ?_
    obtain ⟨x3_11, ex3_11, h⟩ := klet_h h
    refine kw_iinc (L' := [some (kr 50), some (ki x1), some (ki x2), some (ki x3_11), none, none]) C (kdec dc_Court_sonnetLines 27 rfl) 44 rfl rfl (by decide) rfl (by rw [ex3_11]; rfl) ?_
    refine kw_goto C (kdec dc_Court_sonnetLines 28 rfl) 12 (by decide) ?_
    obtain rfl := Option.some.inj h
    exact (hC _ _ rfl)
theorem lp_pf_Court_sonnetLines_50_l12 {x : kX} {l0 : Launch} {Q : State → Prop} (C : kCx x prog_3_method_6_code "PoetFines$Court" (some .int) kcl yC 6 l0 R0_pf_Court_sonnetLines_50) (x1 : Int) (x2 : Int) {ex : (kM)} (hX47 : ∀ (σ' : kM), ex = σ' → KW x 0 0 Q σ' 47 [some (kr 50), some (ki x1), some (ki x2), none, none, none] []) (n : Nat) (σ : kM) (x3 : Int) (h : kloop (fun st => pf_Court_sonnetLines_50_l12 st.1 x1 x2 st.2) n (σ, x3) = some ex) : KW x 0 0 Q σ 12 [some (kr 50), some (ki x1), some (ki x2), some (ki x3), none, none] [] :=
  kloop_ind (P := (fun st : kM × Int => KW x 0 0 Q st.1 12 [some (kr 50), some (ki x1), some (ki x2), some (ki (st.2)), none, none] [])) (fun st out hb hc hx => bd_pf_Court_sonnetLines_50_l12 C st.1 x1 x2 st.2 hb (fun a0 a1 e => hc _ e) (fun a0 e => hX47 _ ((hx _ e).symm))) n (σ, x3) h
def pf_Court_sonnetLines_50_l69_j109 (σ : kM) (x2 : Int) (x3 : Int) (x4 : Int) (x5 : Int) : Option ((Int × Int) ⊕ ((Int))) :=
  klet (w32 (x5 + 1)) fun x5_20 =>
  some (Sum.inl (x4, x5_20))
set_option maxHeartbeats 4000000 in
theorem bd_pf_Court_sonnetLines_50_l69_j109 {x : kX} {l0 : Launch} {Q : State → Prop} (C : kCx x prog_3_method_6_code "PoetFines$Court" (some .int) kcl yC 6 l0 R0_pf_Court_sonnetLines_50) (σ : kM) (x2 : Int) (x3 : Int) (x4 : Int) (x5 : Int) {out : (Int × Int) ⊕ ((Int))} (h : pf_Court_sonnetLines_50_l69_j109 σ x2 x3 x4 x5 = some out) (hC : ∀ (x4' : Int) (x5' : Int), out = Sum.inl (x4', x5') → KW x 0 0 Q σ 69 [some (kr 50), none, some (ki x2), some (ki x3), some (ki x4'), some (ki x5')] []) (hX115 : ∀ (x4' : Int), out = Sum.inr x4' → KW x 0 0 Q σ 115 [none, none, none, none, some (ki x4'), none] []) : KW x 0 0 Q σ 109 [some (kr 50), none, some (ki x2), some (ki x3), some (ki x4), some (ki x5)] [] := by
  unfold pf_Court_sonnetLines_50_l69_j109 at h
  obtain ⟨x5_20, ex5_20, h⟩ := klet_h h
  refine kw_iinc (L' := [some (kr 50), none, some (ki x2), some (ki x3), some (ki x4), some (ki x5_20)]) C (kdec dc_Court_sonnetLines 62 rfl) 112 rfl rfl (by decide) rfl (by rw [ex5_20]; rfl) ?_
  refine kw_goto C (kdec dc_Court_sonnetLines 63 rfl) 69 (by decide) ?_
  obtain rfl := Option.some.inj h
  exact (hC _ _ rfl)
def pf_Court_sonnetLines_50_l69 (σ : kM) (x2 : Int) (x3 : Int) (x4 : Int) (x5 : Int) : Option ((Int × Int) ⊕ ((Int))) :=
  if (kshl 1 x2) ≤ x5 then
    some (Sum.inr x4)
  else
    (pf_Court_sumOf_51 σ x5).bind fun r_19 =>
    if x3 < r_19 then
      pf_Court_sonnetLines_50_l69_j109 σ x2 x3 x4 x5
    else
      (pf_Court_inchesOf_50 σ x5).bind fun r_21 =>
      (pf_Court_inchesOf_50 σ x4).bind fun r_22 =>
      if r_21 ≤ r_22 then
        pf_Court_sonnetLines_50_l69_j109 σ x2 x3 x4 x5
      else
        pf_Court_sonnetLines_50_l69_j109 σ x2 x3 x5 x5
set_option maxHeartbeats 4000000 in
theorem bd_pf_Court_sonnetLines_50_l69 {x : kX} {l0 : Launch} {Q : State → Prop} (C : kCx x prog_3_method_6_code "PoetFines$Court" (some .int) kcl yC 6 l0 R0_pf_Court_sonnetLines_50) (σ : kM) (x2 : Int) (x3 : Int) (x4 : Int) (x5 : Int) {out : (Int × Int) ⊕ ((Int))} (h : pf_Court_sonnetLines_50_l69 σ x2 x3 x4 x5 = some out) (hC : ∀ (x4' : Int) (x5' : Int), out = Sum.inl (x4', x5') → KW x 0 0 Q σ 69 [some (kr 50), none, some (ki x2), some (ki x3), some (ki x4'), some (ki x5')] []) (hX115 : ∀ (x4' : Int), out = Sum.inr x4' → KW x 0 0 Q σ 115 [none, none, none, none, some (ki x4'), none] []) : KW x 0 0 Q σ 69 [some (kr 50), none, some (ki x2), some (ki x3), some (ki x4), some (ki x5)] [] := by
  unfold pf_Court_sonnetLines_50_l69 at h
  refine kw_iload C (kdec dc_Court_sonnetLines 42 rfl) 71 rfl rfl ?_
  refine kw_iconst C (kdec dc_Court_sonnetLines 43 rfl) 72 rfl rfl ⟨by decide, by decide⟩ ?_
  refine kw_iload_n C (kdec dc_Court_sonnetLines 44 rfl) rfl 73 rfl rfl ?_
  refine kw_ishl C (kdec dc_Court_sonnetLines 45 rfl) 74 rfl ?_
  refine kw_icmp_ge C (kdec dc_Court_sonnetLines 46 rfl) 115 77 (by decide) rfl (fun hc74 => ?_) (fun hc74 => ?_)
  · rw [if_pos hc74] at h
    obtain rfl := Option.some.inj h
    exact kw_sub (L' := [none, none, none, none, some (ki x4), none]) ⟨rfl, trivial⟩ (hX115 _ rfl)
  · rw [if_neg hc74] at h
    refine kw_aload_n C (kdec dc_Court_sonnetLines 47 rfl) rfl 78 rfl rfl ?_
    refine kw_getR C (kdec dc_Court_sonnetLines 48 rfl) 81 rfl fd_C_Court_9_50 ?_
    refine kw_iload C (kdec dc_Court_sonnetLines 49 rfl) 83 rfl rfl ?_
    obtain ⟨r_19, hg_25, h⟩ := kbind_h h
    refine kw_callS (As := [kr 51, ki x5]) C (kdec dc_Court_sonnetLines 50 rfl) 86 rfl cs_Court_79 (mt_pf_Court_sumOf_51 l0 hg_25) ⟨rfl, rfl⟩ ⟨Nat.le_of_ble_eq_true rfl, Nat.le_of_ble_eq_true rfl⟩ ⟨Nat.zero_le _, Nat.zero_le _⟩ rfl (Nat.le_of_ble_eq_true rfl) ?_
    change KW x 0 0 Q σ 86 [some (kr 50), none, some (ki x2), some (ki x3), some (ki x4), some (ki x5)] [ki r_19]
    refine kw_iload_n C (kdec dc_Court_sonnetLines 51 rfl) rfl 87 rfl rfl ?_
    refine kw_icmp_gt C (kdec dc_Court_sonnetLines 52 rfl) 109 90 (by decide) rfl (fun hc87 => ?_) (fun hc87 => ?_)
    · rw [if_pos hc87] at h
      exact bd_pf_Court_sonnetLines_50_l69_j109 C σ x2 x3 x4 x5 h hC hX115
    · rw [if_neg hc87] at h
      refine kw_aload_n C (kdec dc_Court_sonnetLines 53 rfl) rfl 91 rfl rfl ?_
      refine kw_iload C (kdec dc_Court_sonnetLines 54 rfl) 93 rfl rfl ?_
      obtain ⟨r_21, hg_24, h⟩ := kbind_h h
      refine kw_callV (As := [ki x5]) C (kdec dc_Court_sonnetLines 55 rfl) 96 rfl cv_Court_83 rfl rfl (mt_pf_Court_inchesOf_50 l0 hg_24) ⟨rfl, rfl⟩ ⟨Nat.le_of_ble_eq_true rfl, Nat.le_of_ble_eq_true rfl⟩ ⟨Nat.zero_le _, Nat.zero_le _⟩ rfl (Nat.le_of_ble_eq_true rfl) ?_
      change KW x 0 0 Q σ 96 [some (kr 50), none, some (ki x2), some (ki x3), some (ki x4), some (ki x5)] [ki r_21]
      refine kw_aload_n C (kdec dc_Court_sonnetLines 56 rfl) rfl 97 rfl rfl ?_
      refine kw_iload C (kdec dc_Court_sonnetLines 57 rfl) 99 rfl rfl ?_
      obtain ⟨r_22, hg_23, h⟩ := kbind_h h
      refine kw_callV (As := [ki x4]) C (kdec dc_Court_sonnetLines 58 rfl) 102 rfl cv_Court_83 rfl rfl (mt_pf_Court_inchesOf_50 l0 hg_23) ⟨rfl, rfl⟩ ⟨Nat.le_of_ble_eq_true rfl, Nat.le_of_ble_eq_true rfl⟩ ⟨Nat.zero_le _, Nat.zero_le _⟩ rfl (Nat.le_of_ble_eq_true rfl) ?_
      change KW x 0 0 Q σ 102 [some (kr 50), none, some (ki x2), some (ki x3), some (ki x4), some (ki x5)] [ki r_22, ki r_21]
      refine kw_icmp_le C (kdec dc_Court_sonnetLines 59 rfl) 109 105 (by decide) rfl (fun hc102 => ?_) (fun hc102 => ?_)
      · rw [if_pos hc102] at h
        exact bd_pf_Court_sonnetLines_50_l69_j109 C σ x2 x3 x4 x5 h hC hX115
      · rw [if_neg hc102] at h
        refine kw_iload C (kdec dc_Court_sonnetLines 60 rfl) 107 rfl rfl ?_
        refine kw_istore (L' := [some (kr 50), none, some (ki x2), some (ki x3), some (ki x5), some (ki x5)]) C (kdec dc_Court_sonnetLines 61 rfl) 109 rfl (by decide) rfl rfl ?_
        exact bd_pf_Court_sonnetLines_50_l69_j109 C σ x2 x3 x5 x5 h hC hX115
theorem lp_pf_Court_sonnetLines_50_l69 {x : kX} {l0 : Launch} {Q : State → Prop} (C : kCx x prog_3_method_6_code "PoetFines$Court" (some .int) kcl yC 6 l0 R0_pf_Court_sonnetLines_50) (σ : kM) (x2 : Int) (x3 : Int) {ex : (Int)} (hX115 : ∀ (x4' : Int), ex = x4' → KW x 0 0 Q σ 115 [none, none, none, none, some (ki x4'), none] []) (n : Nat) (x4 : Int) (x5 : Int) (h : kloop (fun st => pf_Court_sonnetLines_50_l69 σ x2 x3 st.1 st.2) n (x4, x5) = some ex) : KW x 0 0 Q σ 69 [some (kr 50), none, some (ki x2), some (ki x3), some (ki x4), some (ki x5)] [] :=
  kloop_ind (P := (fun st : Int × Int => KW x 0 0 Q σ 69 [some (kr 50), none, some (ki x2), some (ki x3), some (ki (st.1)), some (ki (st.2))] [])) (fun st out hb hc hx => bd_pf_Court_sonnetLines_50_l69 C σ x2 x3 st.1 st.2 hb (fun a0 a1 e => hc _ e) (fun a0 e => hX115 _ ((hx _ e).symm))) n (x4, x5) h
def pf_Court_sonnetLines_50 (σ : kM) (x1 : Int) : Option (Int × kM) :=
  kchk (0 ≤ x1 ∧ x1 < 4) <|
  klet (σ 4 x1.toNat) fun x2_2 =>
  (kloop (fun st => pf_Court_sonnetLines_50_l12 st.1 x1 x2_2 st.2) kFuel (σ, 0)).bind fun σ_16 =>
  kchk (0 ≤ (w32 (49 + x1)) ∧ (w32 (49 + x1)) < 85) <|
  klet (σ_16 31 (w32 (49 + x1)).toNat) fun x3_18 =>
  (kloop (fun st => pf_Court_sonnetLines_50_l69 σ_16 x2_2 x3_18 st.1 st.2) kFuel (0, 1)).bind fun x4_28 =>
  some ((x4_28, σ_16))
set_option maxHeartbeats 4000000 in
theorem bd_pf_Court_sonnetLines_50 {x : kX} {l0 : Launch} {Q : State → Prop} (C : kCx x prog_3_method_6_code "PoetFines$Court" (some .int) kcl yC 6 l0 R0_pf_Court_sonnetLines_50) (σ : kM) (x1 : Int) {out : Int × kM} (h : pf_Court_sonnetLines_50 σ x1 = some out) (hR : ∀ (r : Int) (τ : kM), out = (r, τ) → Q = kQ x (some (ki r)) τ 0 0) : KW x 0 0 Q σ 0 [some (kr 50), some (ki x1), none, none, none, none] [] := by
  unfold pf_Court_sonnetLines_50 at h
  refine kw_aload_n C (kdec dc_Court_sonnetLines 0 rfl) rfl 1 rfl rfl ?_
  refine kw_getR C (kdec dc_Court_sonnetLines 1 rfl) 4 rfl fd_C_Court_34_50 ?_
  refine kw_getR C (kdec dc_Court_sonnetLines 2 rfl) 7 rfl fd_C_Court_69_3 ?_
  refine kw_iload_n C (kdec dc_Court_sonnetLines 3 rfl) rfl 8 rfl rfl ?_
  obtain ⟨hc_1, h⟩ := kchk_h h
  refine kw_iald C (kdec dc_Court_sonnetLines 4 rfl) 9 rfl rfl hc_1.1 hc_1.2 ?_
  obtain ⟨x2_2, ex2_2, h⟩ := klet_h h
  refine kw_top ex2_2 ?_
  refine kw_istore_n (L' := [some (kr 50), some (ki x1), some (ki x2_2), none, none, none]) C (kdec dc_Court_sonnetLines 5 rfl) rfl 10 rfl (by decide) rfl rfl ?_
  refine kw_iconst C (kdec dc_Court_sonnetLines 6 rfl) 11 rfl rfl ⟨by decide, by decide⟩ ?_
  refine kw_istore_n (L' := [some (kr 50), some (ki x1), some (ki x2_2), some (ki 0), none, none]) C (kdec dc_Court_sonnetLines 7 rfl) rfl 12 rfl (by decide) rfl rfl ?_
  obtain ⟨ex_14, hl_15, h⟩ := kbind_h h
  refine lp_pf_Court_sonnetLines_50_l12 C x1 x2_2 ?_ kFuel σ 0 hl_15
  · intro σ_16 e
    subst ex_14
    try dsimp only at h
    refine kw_aload_n C (kdec dc_Court_sonnetLines 29 rfl) rfl 48 rfl rfl ?_
    refine kw_getR C (kdec dc_Court_sonnetLines 30 rfl) 51 rfl fd_C_Court_38_50 ?_
    refine kw_getR C (kdec dc_Court_sonnetLines 31 rfl) 54 rfl fd_C_Court_42_43 ?_
    refine kw_getR C (kdec dc_Court_sonnetLines 32 rfl) 57 rfl fd_C_Court_48_30 ?_
    refine kw_bipush (v := 49) C (kdec dc_Court_sonnetLines 33 rfl) 59 rfl (by decide) ⟨by decide, by decide⟩ ?_
    refine kw_iload_n C (kdec dc_Court_sonnetLines 34 rfl) rfl 60 rfl rfl ?_
    refine kw_iadd C (kdec dc_Court_sonnetLines 35 rfl) 61 rfl ?_
    obtain ⟨hc_17, h⟩ := kchk_h h
    refine kw_iald C (kdec dc_Court_sonnetLines 36 rfl) 62 rfl rfl hc_17.1 hc_17.2 ?_
    obtain ⟨x3_18, ex3_18, h⟩ := klet_h h
    refine kw_top ex3_18 ?_
    refine kw_istore_n (L' := [some (kr 50), some (ki x1), some (ki x2_2), some (ki x3_18), none, none]) C (kdec dc_Court_sonnetLines 37 rfl) rfl 63 rfl (by decide) rfl rfl ?_
    refine kw_iconst C (kdec dc_Court_sonnetLines 38 rfl) 64 rfl rfl ⟨by decide, by decide⟩ ?_
    refine kw_istore (L' := [some (kr 50), some (ki x1), some (ki x2_2), some (ki x3_18), some (ki 0), none]) C (kdec dc_Court_sonnetLines 39 rfl) 66 rfl (by decide) rfl rfl ?_
    refine kw_iconst C (kdec dc_Court_sonnetLines 40 rfl) 67 rfl rfl ⟨by decide, by decide⟩ ?_
    refine kw_istore (L' := [some (kr 50), some (ki x1), some (ki x2_2), some (ki x3_18), some (ki 0), some (ki 1)]) C (kdec dc_Court_sonnetLines 41 rfl) 69 rfl (by decide) rfl rfl ?_
    obtain ⟨ex_26, hl_27, h⟩ := kbind_h h
    refine kw_sub (L' := [some (kr 50), none, some (ki x2_2), some (ki x3_18), some (ki 0), some (ki 1)]) ⟨rfl, rfl, rfl, rfl, rfl, trivial⟩ (lp_pf_Court_sonnetLines_50_l69 C σ_16 x2_2 x3_18 ?_ kFuel 0 1 hl_27)
    · intro x4_28 e
      subst ex_26
      try dsimp only at h
      refine kw_iload C (kdec dc_Court_sonnetLines 64 rfl) 117 rfl rfl ?_
      obtain rfl := Option.some.inj h
      exact kw_Q (hR _ _ rfl) (kw_ireturn C (kdec dc_Court_sonnetLines 65 rfl))
theorem mt_pf_Court_sonnetLines_50 (l0 : Launch) {σ : kM} {x1 : Int} {r : Int} {τ : kM} (h : pf_Court_sonnetLines_50 σ x1 = some (r, τ)) : kMet l0 ky_Court_sonnetLines prog_3_method_6_code 6 (some .int) R0_pf_Court_sonnetLines_50 kcl yC σ [kr 50, ki x1] (some (ki r)) τ := kMet.of' [some (kr 50), some (ki x1), none, none, none, none] (by decide) (Nat.le_of_ble_eq_true rfl) ⟨rfl, rfl, trivial⟩ (fun x C => bd_pf_Court_sonnetLines_50 C σ x1 h (fun r τ e => by cases e; rfl))
def R0_pf_P_sonnet_0 : Room := ({ frames := 7, cells := 2, slots := 12, locals := 168 } : Room)
def pf_P_sonnet_0 (σ : kM) (x1 : Int) (x2 : Int) : Option ((String ⊕ Int) × kM) :=
  (pf_P_needPoet_0 σ x1).bind fun q_13 => match q_13 with
  | (.inl E_3, σ_1) => some (.inl E_3, σ_1)
  | (.inr _, σ_1) =>
    (pf_P_needWhat_0 σ_1 x2 1).bind fun q_12 => match q_12 with
    | (.inl E_6, σ_4) => some (.inl E_6, σ_4)
    | (.inr _, σ_4) =>
      (pf_Court_sonnetLines_50 σ_4 x1).bind fun (r_7, σ_8) =>
      if x2 = 0 then
        (pf_Court_inchesOf_50 σ_8 r_7).bind fun r_9 =>
        some ((.inr r_9, σ_8))
      else
        some ((.inr r_7, σ_8))
set_option maxHeartbeats 4000000 in
theorem bd_pf_P_sonnet_0 {x : kX} {l0 : Launch} {Q : State → Prop} (C : kCx x prog_1_method_23_code "PoetFines" (some .int) kcl yC 4 l0 R0_pf_P_sonnet_0) (hT : kTb x) (hfl : l0.stackTraces = false) (σ : kM) (x1 : Int) (x2 : Int) {out : (String ⊕ Int) × kM} (h : pf_P_sonnet_0 σ x1 x2 = some out) (hR : ∀ (r : Int) (τ : kM), out = (.inr r, τ) → Q = kQX x (.inr (some (ki r))) τ 2 12) (hE : ∀ (E : String) (τ : kM), out = (.inl E, τ) → Q = kQX x (.inl E) τ 2 12) : KW x 0 0 Q σ 0 [some (kr 0), some (ki x1), some (ki x2), none] [] := by
  unfold pf_P_sonnet_0 at h
  refine kw_aload_n C (kdec dc_P_sonnet 0 rfl) rfl 1 rfl rfl ?_
  refine kw_iload_n C (kdec dc_P_sonnet 1 rfl) rfl 2 rfl rfl ?_
  obtain ⟨⟨q_13, σ_1⟩, hg_2, h⟩ := kbind_h h
  rcases q_13 with E_3 | _
  · dsimp only at h
    obtain rfl := Option.some.inj h
    exact kw_Q (hE _ _ rfl) (kw_callVX_t (As := [ki x1]) C hT (kdec dc_P_sonnet 2 rfl) cv_P_162 rfl rfl (me_pf_P_needPoet_0 l0 hfl hg_2) ⟨rfl, rfl⟩ ⟨Nat.le_of_ble_eq_true rfl, Nat.le_of_ble_eq_true rfl⟩ ⟨Nat.le_of_ble_eq_true rfl, Nat.le_of_ble_eq_true rfl⟩ rfl (Nat.le_of_ble_eq_true rfl) (Nat.le_of_ble_eq_true rfl) (Nat.le_of_ble_eq_true rfl))
  · dsimp only at h
    refine kw_callVX (As := [ki x1]) C (kdec dc_P_sonnet 2 rfl) 5 rfl cv_P_162 rfl rfl (mx_pf_P_needPoet_0 l0 hfl hg_2) ⟨rfl, rfl⟩ ⟨Nat.le_of_ble_eq_true rfl, Nat.le_of_ble_eq_true rfl⟩ ⟨Nat.le_of_ble_eq_true rfl, Nat.le_of_ble_eq_true rfl⟩ rfl (Nat.le_of_ble_eq_true rfl) ?_
    change KW x 1 6 Q σ_1 5 [some (kr 0), some (ki x1), some (ki x2), none] []
    refine kw_aload_n C (kdec dc_P_sonnet 3 rfl) rfl 6 rfl rfl ?_
    refine kw_iload_n C (kdec dc_P_sonnet 4 rfl) rfl 7 rfl rfl ?_
    refine kw_iconst C (kdec dc_P_sonnet 5 rfl) 8 rfl rfl ⟨by decide, by decide⟩ ?_
    obtain ⟨⟨q_12, σ_4⟩, hg_5, h⟩ := kbind_h h
    rcases q_12 with E_6 | _
    · dsimp only at h
      obtain rfl := Option.some.inj h
      exact kw_Q (hE _ _ rfl) (kw_callVX_t (As := [ki x2, ki 1]) C hT (kdec dc_P_sonnet 6 rfl) cv_P_154 rfl rfl (me_pf_P_needWhat_0 l0 hfl hg_5) ⟨rfl, rfl⟩ ⟨Nat.le_of_ble_eq_true rfl, Nat.le_of_ble_eq_true rfl⟩ ⟨Nat.le_of_ble_eq_true rfl, Nat.le_of_ble_eq_true rfl⟩ rfl (Nat.le_of_ble_eq_true rfl) (Nat.le_of_ble_eq_true rfl) (Nat.le_of_ble_eq_true rfl))
    · dsimp only at h
      refine kw_callVX (As := [ki x2, ki 1]) C (kdec dc_P_sonnet 6 rfl) 11 rfl cv_P_154 rfl rfl (mx_pf_P_needWhat_0 l0 hfl hg_5) ⟨rfl, rfl⟩ ⟨Nat.le_of_ble_eq_true rfl, Nat.le_of_ble_eq_true rfl⟩ ⟨Nat.le_of_ble_eq_true rfl, Nat.le_of_ble_eq_true rfl⟩ rfl (Nat.le_of_ble_eq_true rfl) ?_
      change KW x 2 12 Q σ_4 11 [some (kr 0), some (ki x1), some (ki x2), none] []
      refine kw_aload_n C (kdec dc_P_sonnet 7 rfl) rfl 12 rfl rfl ?_
      refine kw_getR C (kdec dc_P_sonnet 8 rfl) 15 rfl fd_C_P_72_0 ?_
      refine kw_iload_n C (kdec dc_P_sonnet 9 rfl) rfl 16 rfl rfl ?_
      obtain ⟨⟨r_7, σ_8⟩, hg_11, h⟩ := kbind_h h
      dsimp only at h
      refine kw_callV (As := [ki x1]) C (kdec dc_P_sonnet 10 rfl) 19 rfl cv_P_259 rfl rfl (mt_pf_Court_sonnetLines_50 l0 hg_11) ⟨rfl, rfl⟩ ⟨Nat.le_of_ble_eq_true rfl, Nat.le_of_ble_eq_true rfl⟩ ⟨Nat.le_of_ble_eq_true rfl, Nat.le_of_ble_eq_true rfl⟩ rfl (Nat.le_of_ble_eq_true rfl) ?_
      change KW x 2 12 Q σ_8 19 [some (kr 0), some (ki x1), some (ki x2), none] [ki r_7]
      refine kw_istore_n (L' := [some (kr 0), some (ki x1), some (ki x2), some (ki r_7)]) C (kdec dc_P_sonnet 11 rfl) rfl 20 rfl (by decide) rfl rfl ?_
      refine kw_iload_n C (kdec dc_P_sonnet 12 rfl) rfl 21 rfl rfl ?_
      refine kw_if_ne C (kdec dc_P_sonnet 13 rfl) 35 24 (by decide) rfl (fun hc21 => ?_) (fun hc21 => ?_)
      · rw [if_neg hc21] at h
        refine kw_iload_n C (kdec dc_P_sonnet 19 rfl) rfl 36 rfl rfl ?_
        obtain rfl := Option.some.inj h
        exact kw_Q (hR _ _ rfl) (kw_xret (by decide) (by decide) (kw_ireturn C (kdec dc_P_sonnet 20 rfl)))
      · rw [if_pos hc21] at h
        refine kw_aload_n C (kdec dc_P_sonnet 14 rfl) rfl 25 rfl rfl ?_
        refine kw_getR C (kdec dc_P_sonnet 15 rfl) 28 rfl fd_C_P_72_0 ?_
        refine kw_iload_n C (kdec dc_P_sonnet 16 rfl) rfl 29 rfl rfl ?_
        obtain ⟨r_9, hg_10, h⟩ := kbind_h h
        refine kw_callV (As := [ki r_7]) C (kdec dc_P_sonnet 17 rfl) 32 rfl cv_P_262 rfl rfl (mt_pf_Court_inchesOf_50 l0 hg_10) ⟨rfl, rfl⟩ ⟨Nat.le_of_ble_eq_true rfl, Nat.le_of_ble_eq_true rfl⟩ ⟨Nat.le_of_ble_eq_true rfl, Nat.le_of_ble_eq_true rfl⟩ rfl (Nat.le_of_ble_eq_true rfl) ?_
        change KW x 2 12 Q σ_8 32 [some (kr 0), some (ki x1), some (ki x2), some (ki r_7)] [ki r_9]
        refine kw_goto C (kdec dc_P_sonnet 18 rfl) 36 (by decide) ?_
        obtain rfl := Option.some.inj h
        exact kw_Q (hR _ _ rfl) (kw_xret (by decide) (by decide) (kw_ireturn C (kdec dc_P_sonnet 20 rfl)))
theorem mx_pf_P_sonnet_0 (l0 : Launch) (hfl : l0.stackTraces = false) {σ : kM} {x1 : Int} {x2 : Int} {r : Int} {τ : kM} (h : pf_P_sonnet_0 σ x1 x2 = some (.inr r, τ)) : kXet l0 ky_P_sonnet prog_1_method_23_code 4 (some .int) R0_pf_P_sonnet_0 kcl yC σ [kr 0, ki x1, ki x2] (.inr (some (ki r))) τ 2 12 := kXet.of [some (kr 0), some (ki x1), some (ki x2), none] (by decide) (Nat.le_of_ble_eq_true rfl) ⟨rfl, rfl, rfl, trivial⟩ (fun x C hT => bd_pf_P_sonnet_0 C hT hfl σ x1 x2 h (fun r τ e => by cases e; rfl) (fun E τ e => by cases e))
theorem me_pf_P_sonnet_0 (l0 : Launch) (hfl : l0.stackTraces = false) {σ : kM} {x1 : Int} {x2 : Int} {E : String} {τ : kM} (h : pf_P_sonnet_0 σ x1 x2 = some (.inl E, τ)) : kXet l0 ky_P_sonnet prog_1_method_23_code 4 (some .int) R0_pf_P_sonnet_0 kcl yC σ [kr 0, ki x1, ki x2] (.inl E) τ 2 12 := kXet.of [some (kr 0), some (ki x1), some (ki x2), none] (by decide) (Nat.le_of_ble_eq_true rfl) ⟨rfl, rfl, rfl, trivial⟩ (fun x C hT => bd_pf_P_sonnet_0 C hT hfl σ x1 x2 h (fun r τ e => by cases e) (fun E τ e => by cases e; rfl))
def R0_pf_Court_dueFrom_50 : Room := ({ frames := 5, cells := 0, slots := 0, locals := 119 } : Room)
def pf_Court_dueFrom_50_l5 (σ : kM) (x1 : Int) (x2 : Int) (x3 : Int) (x4 : Int) : Option ((kM × Int × Int) ⊕ ((kM × Int))) :=
  kchk (0 ≤ x1 ∧ x1 < 4) <|
  if (σ 4 x1.toNat) ≤ x4 then
    some (Sum.inr (σ, x3))
  else
    (pf_Court_fineNow_50 σ x1 x2 x4).bind fun (r_2, σ_3) =>
    klet (w32 (x3 + r_2)) fun x3_4 =>
    klet (w32 (x4 + 1)) fun x4_5 =>
    some (Sum.inl (σ_3, x3_4, x4_5))
set_option maxHeartbeats 4000000 in
theorem bd_pf_Court_dueFrom_50_l5 {x : kX} {l0 : Launch} {Q : State → Prop} (C : kCx x prog_3_method_16_code "PoetFines$Court" (some .int) kcl yC 5 l0 R0_pf_Court_dueFrom_50) (σ : kM) (x1 : Int) (x2 : Int) (x3 : Int) (x4 : Int) {out : (kM × Int × Int) ⊕ ((kM × Int))} (h : pf_Court_dueFrom_50_l5 σ x1 x2 x3 x4 = some out) (hC : ∀ (σ' : kM) (x3' : Int) (x4' : Int), out = Sum.inl (σ', x3', x4') → KW x 0 0 Q σ' 5 [some (kr 50), some (ki x1), some (ki x2), some (ki x3'), some (ki x4')] []) (hX36 : ∀ (σ' : kM) (x3' : Int), out = Sum.inr (σ', x3') → KW x 0 0 Q σ' 36 [none, none, none, some (ki x3'), none] []) : KW x 0 0 Q σ 5 [some (kr 50), some (ki x1), some (ki x2), some (ki x3), some (ki x4)] [] := by
  unfold pf_Court_dueFrom_50_l5 at h
  refine kw_iload C (kdec dc_Court_dueFrom 4 rfl) 7 rfl rfl ?_
  refine kw_aload_n C (kdec dc_Court_dueFrom 5 rfl) rfl 8 rfl rfl ?_
  refine kw_getR C (kdec dc_Court_dueFrom 6 rfl) 11 rfl fd_C_Court_34_50 ?_
  refine kw_getR C (kdec dc_Court_dueFrom 7 rfl) 14 rfl fd_C_Court_69_3 ?_
  refine kw_iload_n C (kdec dc_Court_dueFrom 8 rfl) rfl 15 rfl rfl ?_
  obtain ⟨hc_1, h⟩ := kchk_h h
  refine kw_iald C (kdec dc_Court_dueFrom 9 rfl) 16 rfl rfl hc_1.1 hc_1.2 ?_
  refine kw_icmp_ge C (kdec dc_Court_dueFrom 10 rfl) 36 19 (by decide) rfl (fun hc16 => ?_) (fun hc16 => ?_)
  · rw [if_pos hc16] at h
    obtain rfl := Option.some.inj h
    exact kw_sub (L' := [none, none, none, some (ki x3), none]) ⟨rfl, trivial⟩ (hX36 _ _ rfl)
  · rw [if_neg hc16] at h
    refine kw_iload_n C (kdec dc_Court_dueFrom 11 rfl) rfl 20 rfl rfl ?_
    refine kw_aload_n C (kdec dc_Court_dueFrom 12 rfl) rfl 21 rfl rfl ?_
    refine kw_iload_n C (kdec dc_Court_dueFrom 13 rfl) rfl 22 rfl rfl ?_
    refine kw_iload_n C (kdec dc_Court_dueFrom 14 rfl) rfl 23 rfl rfl ?_
    refine kw_iload C (kdec dc_Court_dueFrom 15 rfl) 25 rfl rfl ?_
    obtain ⟨⟨r_2, σ_3⟩, hg_6, h⟩ := kbind_h h
    dsimp only at h
    refine kw_callV (As := [ki x1, ki x2, ki x4]) C (kdec dc_Court_dueFrom 16 rfl) 28 rfl cv_Court_62 rfl rfl (mt_pf_Court_fineNow_50 l0 hg_6) ⟨rfl, rfl⟩ ⟨Nat.le_of_ble_eq_true rfl, Nat.le_of_ble_eq_true rfl⟩ ⟨Nat.zero_le _, Nat.zero_le _⟩ rfl (Nat.le_of_ble_eq_true rfl) ?_
    change KW x 0 0 Q σ_3 28 [some (kr 50), some (ki x1), some (ki x2), some (ki x3), some (ki x4)] [ki r_2, ki x3]
    refine kw_iadd C (kdec dc_Court_dueFrom 17 rfl) 29 rfl ?_
    obtain ⟨x3_4, ex3_4, h⟩ := klet_h h
    refine kw_top ex3_4 ?_
    refine kw_istore_n (L' := [some (kr 50), some (ki x1), some (ki x2), some (ki x3_4), some (ki x4)]) C (kdec dc_Court_dueFrom 18 rfl) rfl 30 rfl (by decide) rfl rfl ?_
    obtain ⟨x4_5, ex4_5, h⟩ := klet_h h
    refine kw_iinc (L' := [some (kr 50), some (ki x1), some (ki x2), some (ki x3_4), some (ki x4_5)]) C (kdec dc_Court_dueFrom 19 rfl) 33 rfl rfl (by decide) rfl (by rw [ex4_5]; rfl) ?_
    refine kw_goto C (kdec dc_Court_dueFrom 20 rfl) 5 (by decide) ?_
    obtain rfl := Option.some.inj h
    exact (hC _ _ _ rfl)
theorem lp_pf_Court_dueFrom_50_l5 {x : kX} {l0 : Launch} {Q : State → Prop} (C : kCx x prog_3_method_16_code "PoetFines$Court" (some .int) kcl yC 5 l0 R0_pf_Court_dueFrom_50) (x1 : Int) (x2 : Int) {ex : (kM × Int)} (hX36 : ∀ (σ' : kM) (x3' : Int), ex = (σ', x3') → KW x 0 0 Q σ' 36 [none, none, none, some (ki x3'), none] []) (n : Nat) (σ : kM) (x3 : Int) (x4 : Int) (h : kloop (fun st => pf_Court_dueFrom_50_l5 st.1 x1 x2 st.2.1 st.2.2) n (σ, x3, x4) = some ex) : KW x 0 0 Q σ 5 [some (kr 50), some (ki x1), some (ki x2), some (ki x3), some (ki x4)] [] :=
  kloop_ind (P := (fun st : kM × Int × Int => KW x 0 0 Q st.1 5 [some (kr 50), some (ki x1), some (ki x2), some (ki (st.2.1)), some (ki (st.2.2))] [])) (fun st out hb hc hx => bd_pf_Court_dueFrom_50_l5 C st.1 x1 x2 st.2.1 st.2.2 hb (fun a0 a1 a2 e => hc _ e) (fun a0 a1 e => hX36 _ _ ((hx _ e).symm))) n (σ, x3, x4) h
def pf_Court_dueFrom_50 (σ : kM) (x1 : Int) (x2 : Int) : Option (Int × kM) :=
  (kloop (fun st => pf_Court_dueFrom_50_l5 st.1 x1 x2 st.2.1 st.2.2) kFuel (σ, 0, 0)).bind fun (σ_9, x3_10) =>
  some ((x3_10, σ_9))
set_option maxHeartbeats 4000000 in
theorem bd_pf_Court_dueFrom_50 {x : kX} {l0 : Launch} {Q : State → Prop} (C : kCx x prog_3_method_16_code "PoetFines$Court" (some .int) kcl yC 5 l0 R0_pf_Court_dueFrom_50) (σ : kM) (x1 : Int) (x2 : Int) {out : Int × kM} (h : pf_Court_dueFrom_50 σ x1 x2 = some out) (hR : ∀ (r : Int) (τ : kM), out = (r, τ) → Q = kQ x (some (ki r)) τ 0 0) : KW x 0 0 Q σ 0 [some (kr 50), some (ki x1), some (ki x2), none, none] [] := by
  unfold pf_Court_dueFrom_50 at h
  refine kw_iconst C (kdec dc_Court_dueFrom 0 rfl) 1 rfl rfl ⟨by decide, by decide⟩ ?_
  refine kw_istore_n (L' := [some (kr 50), some (ki x1), some (ki x2), some (ki 0), none]) C (kdec dc_Court_dueFrom 1 rfl) rfl 2 rfl (by decide) rfl rfl ?_
  refine kw_iconst C (kdec dc_Court_dueFrom 2 rfl) 3 rfl rfl ⟨by decide, by decide⟩ ?_
  refine kw_istore (L' := [some (kr 50), some (ki x1), some (ki x2), some (ki 0), some (ki 0)]) C (kdec dc_Court_dueFrom 3 rfl) 5 rfl (by decide) rfl rfl ?_
  obtain ⟨ex_7, hl_8, h⟩ := kbind_h h
  refine lp_pf_Court_dueFrom_50_l5 C x1 x2 ?_ kFuel σ 0 0 hl_8
  · intro σ_9 x3_10 e
    subst ex_7
    try dsimp only at h
    refine kw_iload_n C (kdec dc_Court_dueFrom 21 rfl) rfl 37 rfl rfl ?_
    obtain rfl := Option.some.inj h
    exact kw_Q (hR _ _ rfl) (kw_ireturn C (kdec dc_Court_dueFrom 22 rfl))
theorem mt_pf_Court_dueFrom_50 (l0 : Launch) {σ : kM} {x1 : Int} {x2 : Int} {r : Int} {τ : kM} (h : pf_Court_dueFrom_50 σ x1 x2 = some (r, τ)) : kMet l0 ky_Court_dueFrom prog_3_method_16_code 5 (some .int) R0_pf_Court_dueFrom_50 kcl yC σ [kr 50, ki x1, ki x2] (some (ki r)) τ := kMet.of' [some (kr 50), some (ki x1), some (ki x2), none, none] (by decide) (Nat.le_of_ble_eq_true rfl) ⟨rfl, rfl, rfl, trivial⟩ (fun x C => bd_pf_Court_dueFrom_50 C σ x1 x2 h (fun r τ e => by cases e; rfl))
def R0_pf_Integer_bitCount_0f7a4 : Room := ({ frames := 0, cells := 0, slots := 0, locals := 0 } : Room)
def pf_Integer_bitCount_0f7a4 (σ : kM) (x0 : Int) : Option (Int) :=
  klet (w32 (x0 - (kand (kushr x0 1) 1431655765))) fun x0_1 =>
  klet (w32 ((kand x0_1 858993459) + (kand (kushr x0_1 2) 858993459))) fun x0_2 =>
  klet (kand (w32 (x0_2 + (kushr x0_2 4))) 252645135) fun x0_3 =>
  klet (w32 (x0_3 + (kushr x0_3 8))) fun x0_4 =>
  klet (w32 (x0_4 + (kushr x0_4 16))) fun x0_5 =>
  some (kand x0_5 63)
set_option maxHeartbeats 4000000 in
theorem bd_pf_Integer_bitCount_0f7a4 {x : kX} {l0 : Launch} {Q : State → Prop} (C : kCx x prog_22_method_49_code "java/lang/Integer" (some .int) kcl yC 1 l0 R0_pf_Integer_bitCount_0f7a4) (σ : kM) (x0 : Int) {out : Int} (h : pf_Integer_bitCount_0f7a4 σ x0 = some out) (hR : ∀ (r : Int), out = r → Q = kQ x (some (ki r)) σ 0 0) : KW x 0 0 Q σ 0 [some (ki x0)] [] := by
  unfold pf_Integer_bitCount_0f7a4 at h
  refine kw_iload_n C (kdec dc_Integer_bitCount_0f7a4 0 rfl) rfl 1 rfl rfl ?_
  refine kw_iload_n C (kdec dc_Integer_bitCount_0f7a4 1 rfl) rfl 2 rfl rfl ?_
  refine kw_iconst C (kdec dc_Integer_bitCount_0f7a4 2 rfl) 3 rfl rfl ⟨by decide, by decide⟩ ?_
  refine kw_iushr C (kdec dc_Integer_bitCount_0f7a4 3 rfl) 4 rfl ?_
  refine kw_ldcw (v := 1431655765) C (kdec dc_Integer_bitCount_0f7a4 4 rfl) 7 rfl wd_1342 ⟨by decide, by decide⟩ ?_
  refine kw_iand C (kdec dc_Integer_bitCount_0f7a4 5 rfl) 8 rfl ?_
  refine kw_isub C (kdec dc_Integer_bitCount_0f7a4 6 rfl) 9 rfl ?_
  obtain ⟨x0_1, ex0_1, h⟩ := klet_h h
  refine kw_top ex0_1 ?_
  refine kw_istore_n (L' := [some (ki x0_1)]) C (kdec dc_Integer_bitCount_0f7a4 7 rfl) rfl 10 rfl (by decide) rfl rfl ?_
  refine kw_iload_n C (kdec dc_Integer_bitCount_0f7a4 8 rfl) rfl 11 rfl rfl ?_
  refine kw_ldcw (v := 858993459) C (kdec dc_Integer_bitCount_0f7a4 9 rfl) 14 rfl wd_1343 ⟨by decide, by decide⟩ ?_
  refine kw_iand C (kdec dc_Integer_bitCount_0f7a4 10 rfl) 15 rfl ?_
  refine kw_iload_n C (kdec dc_Integer_bitCount_0f7a4 11 rfl) rfl 16 rfl rfl ?_
  refine kw_iconst C (kdec dc_Integer_bitCount_0f7a4 12 rfl) 17 rfl rfl ⟨by decide, by decide⟩ ?_
  refine kw_iushr C (kdec dc_Integer_bitCount_0f7a4 13 rfl) 18 rfl ?_
  refine kw_ldcw (v := 858993459) C (kdec dc_Integer_bitCount_0f7a4 14 rfl) 21 rfl wd_1343 ⟨by decide, by decide⟩ ?_
  refine kw_iand C (kdec dc_Integer_bitCount_0f7a4 15 rfl) 22 rfl ?_
  refine kw_iadd C (kdec dc_Integer_bitCount_0f7a4 16 rfl) 23 rfl ?_
  obtain ⟨x0_2, ex0_2, h⟩ := klet_h h
  refine kw_top ex0_2 ?_
  refine kw_istore_n (L' := [some (ki x0_2)]) C (kdec dc_Integer_bitCount_0f7a4 17 rfl) rfl 24 rfl (by decide) rfl rfl ?_
  refine kw_iload_n C (kdec dc_Integer_bitCount_0f7a4 18 rfl) rfl 25 rfl rfl ?_
  refine kw_iload_n C (kdec dc_Integer_bitCount_0f7a4 19 rfl) rfl 26 rfl rfl ?_
  refine kw_iconst C (kdec dc_Integer_bitCount_0f7a4 20 rfl) 27 rfl rfl ⟨by decide, by decide⟩ ?_
  refine kw_iushr C (kdec dc_Integer_bitCount_0f7a4 21 rfl) 28 rfl ?_
  refine kw_iadd C (kdec dc_Integer_bitCount_0f7a4 22 rfl) 29 rfl ?_
  refine kw_ldcw (v := 252645135) C (kdec dc_Integer_bitCount_0f7a4 23 rfl) 32 rfl wd_1344 ⟨by decide, by decide⟩ ?_
  refine kw_iand C (kdec dc_Integer_bitCount_0f7a4 24 rfl) 33 rfl ?_
  obtain ⟨x0_3, ex0_3, h⟩ := klet_h h
  refine kw_top ex0_3 ?_
  refine kw_istore_n (L' := [some (ki x0_3)]) C (kdec dc_Integer_bitCount_0f7a4 25 rfl) rfl 34 rfl (by decide) rfl rfl ?_
  refine kw_iload_n C (kdec dc_Integer_bitCount_0f7a4 26 rfl) rfl 35 rfl rfl ?_
  refine kw_iload_n C (kdec dc_Integer_bitCount_0f7a4 27 rfl) rfl 36 rfl rfl ?_
  refine kw_bipush (v := 8) C (kdec dc_Integer_bitCount_0f7a4 28 rfl) 38 rfl (by decide) ⟨by decide, by decide⟩ ?_
  refine kw_iushr C (kdec dc_Integer_bitCount_0f7a4 29 rfl) 39 rfl ?_
  refine kw_iadd C (kdec dc_Integer_bitCount_0f7a4 30 rfl) 40 rfl ?_
  obtain ⟨x0_4, ex0_4, h⟩ := klet_h h
  refine kw_top ex0_4 ?_
  refine kw_istore_n (L' := [some (ki x0_4)]) C (kdec dc_Integer_bitCount_0f7a4 31 rfl) rfl 41 rfl (by decide) rfl rfl ?_
  refine kw_iload_n C (kdec dc_Integer_bitCount_0f7a4 32 rfl) rfl 42 rfl rfl ?_
  refine kw_iload_n C (kdec dc_Integer_bitCount_0f7a4 33 rfl) rfl 43 rfl rfl ?_
  refine kw_bipush (v := 16) C (kdec dc_Integer_bitCount_0f7a4 34 rfl) 45 rfl (by decide) ⟨by decide, by decide⟩ ?_
  refine kw_iushr C (kdec dc_Integer_bitCount_0f7a4 35 rfl) 46 rfl ?_
  refine kw_iadd C (kdec dc_Integer_bitCount_0f7a4 36 rfl) 47 rfl ?_
  obtain ⟨x0_5, ex0_5, h⟩ := klet_h h
  refine kw_top ex0_5 ?_
  refine kw_istore_n (L' := [some (ki x0_5)]) C (kdec dc_Integer_bitCount_0f7a4 37 rfl) rfl 48 rfl (by decide) rfl rfl ?_
  refine kw_iload_n C (kdec dc_Integer_bitCount_0f7a4 38 rfl) rfl 49 rfl rfl ?_
  refine kw_bipush (v := 63) C (kdec dc_Integer_bitCount_0f7a4 39 rfl) 51 rfl (by decide) ⟨by decide, by decide⟩ ?_
  refine kw_iand C (kdec dc_Integer_bitCount_0f7a4 40 rfl) 52 rfl ?_
  obtain rfl := Option.some.inj h
  exact kw_Q (hR _ rfl) (kw_ireturn C (kdec dc_Integer_bitCount_0f7a4 41 rfl))
theorem mt_pf_Integer_bitCount_0f7a4 (l0 : Launch) {σ : kM} {x0 : Int} {r : Int} (h : pf_Integer_bitCount_0f7a4 σ x0 = some r) : kMet l0 ky_Integer_bitCount_0f7a4 prog_22_method_49_code 1 (some .int) R0_pf_Integer_bitCount_0f7a4 kcl yC σ [ki x0] (some (ki r)) σ := kMet.of' [some (ki x0)] (by decide) (Nat.le_of_ble_eq_true rfl) ⟨rfl, trivial⟩ (fun x C => bd_pf_Integer_bitCount_0f7a4 C σ x0 h (fun r e => by subst e; rfl))
def R0_pf_Court_sumOf_53 : Room := ({ frames := 0, cells := 0, slots := 0, locals := 0 } : Room)
def pf_Court_sumOf_53_l4_j27 (σ : kM) (x1 : Int) (x3 : Int) (s0 : Int) (s1 : Int) : Option ((Int × Int) ⊕ ((Int))) :=
  klet (w32 (s1 + s0)) fun x2_1 =>
  klet (w32 (x3 + 1)) fun x3_2 =>
  some (Sum.inl (x2_1, x3_2))
set_option maxHeartbeats 4000000 in
theorem bd_pf_Court_sumOf_53_l4_j27 {x : kX} {l0 : Launch} {Q : State → Prop} (C : kCx x prog_3_method_17_code "PoetFines$Court" (some .int) kcl yC 4 l0 R0_pf_Court_sumOf_53) (σ : kM) (x1 : Int) (x3 : Int) (s0 : Int) (s1 : Int) {out : (Int × Int) ⊕ ((Int))} (h : pf_Court_sumOf_53_l4_j27 σ x1 x3 s0 s1 = some out) (hC : ∀ (x2' : Int) (x3' : Int), out = Sum.inl (x2', x3') → KW x 0 0 Q σ 4 [some (kr 53), some (ki x1), some (ki x2'), some (ki x3')] []) (hX35 : ∀ (x2' : Int), out = Sum.inr x2' → KW x 0 0 Q σ 35 [none, none, some (ki x2'), none] []) : KW x 0 0 Q σ 27 [some (kr 53), some (ki x1), none, some (ki x3)] [ki s0, ki s1] := by
  unfold pf_Court_sumOf_53_l4_j27 at h
  refine kw_iadd C (kdec dc_Court_sumOf 21 rfl) 28 rfl ?_
  obtain ⟨x2_1, ex2_1, h⟩ := klet_h h
  refine kw_top ex2_1 ?_
  refine kw_istore_n (L' := [some (kr 53), some (ki x1), some (ki x2_1), some (ki x3)]) C (kdec dc_Court_sumOf 22 rfl) rfl 29 rfl (by decide) rfl rfl ?_
  obtain ⟨x3_2, ex3_2, h⟩ := klet_h h
  refine kw_iinc (L' := [some (kr 53), some (ki x1), some (ki x2_1), some (ki x3_2)]) C (kdec dc_Court_sumOf 23 rfl) 32 rfl rfl (by decide) rfl (by rw [ex3_2]; rfl) ?_
  refine kw_goto C (kdec dc_Court_sumOf 24 rfl) 4 (by decide) ?_
  obtain rfl := Option.some.inj h
  exact (hC _ _ rfl)
def pf_Court_sumOf_53_l4 (σ : kM) (x1 : Int) (x2 : Int) (x3 : Int) : Option ((Int × Int) ⊕ ((Int))) :=
  if 8 ≤ x3 then
    some (Sum.inr x2)
  else
    if (kand (kshr x1 x3) 1) = 1 then
      kchk (0 ≤ x3 ∧ x3 < 8) <|
      pf_Court_sumOf_53_l4_j27 σ x1 x3 (σ 53 x3.toNat) x2
    else
      pf_Court_sumOf_53_l4_j27 σ x1 x3 0 x2
set_option maxHeartbeats 4000000 in
theorem bd_pf_Court_sumOf_53_l4 {x : kX} {l0 : Launch} {Q : State → Prop} (C : kCx x prog_3_method_17_code "PoetFines$Court" (some .int) kcl yC 4 l0 R0_pf_Court_sumOf_53) (σ : kM) (x1 : Int) (x2 : Int) (x3 : Int) {out : (Int × Int) ⊕ ((Int))} (h : pf_Court_sumOf_53_l4 σ x1 x2 x3 = some out) (hC : ∀ (x2' : Int) (x3' : Int), out = Sum.inl (x2', x3') → KW x 0 0 Q σ 4 [some (kr 53), some (ki x1), some (ki x2'), some (ki x3')] []) (hX35 : ∀ (x2' : Int), out = Sum.inr x2' → KW x 0 0 Q σ 35 [none, none, some (ki x2'), none] []) : KW x 0 0 Q σ 4 [some (kr 53), some (ki x1), some (ki x2), some (ki x3)] [] := by
  unfold pf_Court_sumOf_53_l4 at h
  refine kw_iload_n C (kdec dc_Court_sumOf 4 rfl) rfl 5 rfl rfl ?_
  refine kw_aload_n C (kdec dc_Court_sumOf 5 rfl) rfl 6 rfl rfl ?_
  refine kw_alen (v := 8) C (kdec dc_Court_sumOf 6 rfl) 7 rfl rfl (by decide) rfl ⟨by decide, by decide⟩ ?_
  refine kw_icmp_ge C (kdec dc_Court_sumOf 7 rfl) 35 10 (by decide) rfl (fun hc7 => ?_) (fun hc7 => ?_)
  · rw [if_pos hc7] at h
    obtain rfl := Option.some.inj h
    exact kw_sub (L' := [none, none, some (ki x2), none]) ⟨rfl, trivial⟩ (hX35 _ rfl)
  · rw [if_neg hc7] at h
    refine kw_iload_n C (kdec dc_Court_sumOf 8 rfl) rfl 11 rfl rfl ?_
    refine kw_iload_n C (kdec dc_Court_sumOf 9 rfl) rfl 12 rfl rfl ?_
    refine kw_iload_n C (kdec dc_Court_sumOf 10 rfl) rfl 13 rfl rfl ?_
    refine kw_ishr C (kdec dc_Court_sumOf 11 rfl) 14 rfl ?_
    refine kw_iconst C (kdec dc_Court_sumOf 12 rfl) 15 rfl rfl ⟨by decide, by decide⟩ ?_
    refine kw_iand C (kdec dc_Court_sumOf 13 rfl) 16 rfl ?_
    refine kw_iconst C (kdec dc_Court_sumOf 14 rfl) 17 rfl rfl ⟨by decide, by decide⟩ ?_
    refine kw_icmp_ne C (kdec dc_Court_sumOf 15 rfl) 26 20 (by decide) rfl (fun hc17 => ?_) (fun hc17 => ?_)
    · rw [if_neg hc17] at h
      refine kw_iconst C (kdec dc_Court_sumOf 20 rfl) 27 rfl rfl ⟨by decide, by decide⟩ ?_
      exact kw_sub (L' := [some (kr 53), some (ki x1), none, some (ki x3)]) ⟨rfl, rfl, rfl, trivial⟩ (bd_pf_Court_sumOf_53_l4_j27 C σ x1 x3 0 x2 h hC hX35)
    · rw [if_pos hc17] at h
      refine kw_aload_n C (kdec dc_Court_sumOf 16 rfl) rfl 21 rfl rfl ?_
      refine kw_iload_n C (kdec dc_Court_sumOf 17 rfl) rfl 22 rfl rfl ?_
      obtain ⟨hc_3, h⟩ := kchk_h h
      refine kw_iald C (kdec dc_Court_sumOf 18 rfl) 23 rfl rfl hc_3.1 hc_3.2 ?_
      refine kw_goto C (kdec dc_Court_sumOf 19 rfl) 27 (by decide) ?_
      exact kw_sub (L' := [some (kr 53), some (ki x1), none, some (ki x3)]) ⟨rfl, rfl, rfl, trivial⟩ (bd_pf_Court_sumOf_53_l4_j27 C σ x1 x3 (σ 53 x3.toNat) x2 h hC hX35)
theorem lp_pf_Court_sumOf_53_l4 {x : kX} {l0 : Launch} {Q : State → Prop} (C : kCx x prog_3_method_17_code "PoetFines$Court" (some .int) kcl yC 4 l0 R0_pf_Court_sumOf_53) (σ : kM) (x1 : Int) {ex : (Int)} (hX35 : ∀ (x2' : Int), ex = x2' → KW x 0 0 Q σ 35 [none, none, some (ki x2'), none] []) (n : Nat) (x2 : Int) (x3 : Int) (h : kloop (fun st => pf_Court_sumOf_53_l4 σ x1 st.1 st.2) n (x2, x3) = some ex) : KW x 0 0 Q σ 4 [some (kr 53), some (ki x1), some (ki x2), some (ki x3)] [] :=
  kloop_ind (P := (fun st : Int × Int => KW x 0 0 Q σ 4 [some (kr 53), some (ki x1), some (ki (st.1)), some (ki (st.2))] [])) (fun st out hb hc hx => bd_pf_Court_sumOf_53_l4 C σ x1 st.1 st.2 hb (fun a0 a1 e => hc _ e) (fun a0 e => hX35 _ ((hx _ e).symm))) n (x2, x3) h
def pf_Court_sumOf_53 (σ : kM) (x1 : Int) : Option (Int) :=
  (kloop (fun st => pf_Court_sumOf_53_l4 σ x1 st.1 st.2) kFuel (0, 0)).bind fun x2_6 =>
  some x2_6
set_option maxHeartbeats 4000000 in
theorem bd_pf_Court_sumOf_53 {x : kX} {l0 : Launch} {Q : State → Prop} (C : kCx x prog_3_method_17_code "PoetFines$Court" (some .int) kcl yC 4 l0 R0_pf_Court_sumOf_53) (σ : kM) (x1 : Int) {out : Int} (h : pf_Court_sumOf_53 σ x1 = some out) (hR : ∀ (r : Int), out = r → Q = kQ x (some (ki r)) σ 0 0) : KW x 0 0 Q σ 0 [some (kr 53), some (ki x1), none, none] [] := by
  unfold pf_Court_sumOf_53 at h
  refine kw_iconst C (kdec dc_Court_sumOf 0 rfl) 1 rfl rfl ⟨by decide, by decide⟩ ?_
  refine kw_istore_n (L' := [some (kr 53), some (ki x1), some (ki 0), none]) C (kdec dc_Court_sumOf 1 rfl) rfl 2 rfl (by decide) rfl rfl ?_
  refine kw_iconst C (kdec dc_Court_sumOf 2 rfl) 3 rfl rfl ⟨by decide, by decide⟩ ?_
  refine kw_istore_n (L' := [some (kr 53), some (ki x1), some (ki 0), some (ki 0)]) C (kdec dc_Court_sumOf 3 rfl) rfl 4 rfl (by decide) rfl rfl ?_
  obtain ⟨ex_4, hl_5, h⟩ := kbind_h h
  refine lp_pf_Court_sumOf_53_l4 C σ x1 ?_ kFuel 0 0 hl_5
  · intro x2_6 e
    subst ex_4
    try dsimp only at h
    refine kw_iload_n C (kdec dc_Court_sumOf 25 rfl) rfl 36 rfl rfl ?_
    obtain rfl := Option.some.inj h
    exact kw_Q (hR _ rfl) (kw_ireturn C (kdec dc_Court_sumOf 26 rfl))
theorem mt_pf_Court_sumOf_53 (l0 : Launch) {σ : kM} {x1 : Int} {r : Int} (h : pf_Court_sumOf_53 σ x1 = some r) : kMet l0 ky_Court_sumOf prog_3_method_17_code 4 (some .int) R0_pf_Court_sumOf_53 kcl yC σ [kr 53, ki x1] (some (ki r)) σ := kMet.of' [some (kr 53), some (ki x1), none, none] (by decide) (Nat.le_of_ble_eq_true rfl) ⟨rfl, rfl, trivial⟩ (fun x C => bd_pf_Court_sumOf_53 C σ x1 h (fun r e => by subst e; rfl))
def R0_pf_Court_classAction_50 : Room := ({ frames := 6, cells := 0, slots := 0, locals := 143 } : Room)
def pf_Court_classAction_50_l2 (σ : kM) (x1 : Int) (x2 : Int) : Option ((kM × Int) ⊕ ((kM))) :=
  if (σ 3 1) ≤ x2 then
    some (Sum.inr σ)
  else
    (pf_Court_dueFrom_50 σ x1 x2).bind fun (r_1, σ_2) =>
    kchk (0 ≤ x2 ∧ x2 < 8) <|
    klet (kst σ_2 53 (kup (σ_2 53) x2.toNat r_1)) fun σ_4 =>
    klet (w32 (x2 + 1)) fun x2_5 =>
    some (Sum.inl (σ_4, x2_5))
set_option maxHeartbeats 4000000 in
theorem bd_pf_Court_classAction_50_l2 {x : kX} {l0 : Launch} {Q : State → Prop} (C : kCx x prog_3_method_8_code "PoetFines$Court" (some .int) kcl yC 6 l0 R0_pf_Court_classAction_50) (σ : kM) (x1 : Int) (x2 : Int) {out : (kM × Int) ⊕ ((kM))} (h : pf_Court_classAction_50_l2 σ x1 x2 = some out) (hC : ∀ (σ' : kM) (x2' : Int), out = Sum.inl (σ', x2') → KW x 0 0 Q σ' 2 [some (kr 50), some (ki x1), some (ki x2'), none, none, none] []) (hX31 : ∀ (σ' : kM), out = Sum.inr σ' → KW x 0 0 Q σ' 31 [some (kr 50), some (ki x1), none, none, none, none] []) : KW x 0 0 Q σ 2 [some (kr 50), some (ki x1), some (ki x2), none, none, none] [] := by
  unfold pf_Court_classAction_50_l2 at h
  refine kw_iload_n C (kdec dc_Court_classAction 2 rfl) rfl 3 rfl rfl ?_
  refine kw_aload_n C (kdec dc_Court_classAction 3 rfl) rfl 4 rfl rfl ?_
  refine kw_getR C (kdec dc_Court_classAction 4 rfl) 7 rfl fd_C_Court_34_50 ?_
  refine kw_getI C (kdec dc_Court_classAction 5 rfl) 10 rfl fd_C_Court_53_3 ?_
  refine kw_icmp_ge C (kdec dc_Court_classAction 6 rfl) 31 13 (by decide) rfl (fun hc10 => ?_) (fun hc10 => ?_)
  · rw [if_pos hc10] at h
    obtain rfl := Option.some.inj h
    exact kw_sub (L' := [some (kr 50), some (ki x1), none, none, none, none]) ⟨rfl, rfl, trivial⟩ (hX31 _ rfl)
  · rw [if_neg hc10] at h
    refine kw_aload_n C (kdec dc_Court_classAction 7 rfl) rfl 14 rfl rfl ?_
    refine kw_getR C (kdec dc_Court_classAction 8 rfl) 17 rfl fd_C_Court_18_50 ?_
    refine kw_iload_n C (kdec dc_Court_classAction 9 rfl) rfl 18 rfl rfl ?_
    refine kw_aload_n C (kdec dc_Court_classAction 10 rfl) rfl 19 rfl rfl ?_
    refine kw_iload_n C (kdec dc_Court_classAction 11 rfl) rfl 20 rfl rfl ?_
    refine kw_iload_n C (kdec dc_Court_classAction 12 rfl) rfl 21 rfl rfl ?_
    obtain ⟨⟨r_1, σ_2⟩, hg_6, h⟩ := kbind_h h
    dsimp only at h
    refine kw_callV (As := [ki x1, ki x2]) C (kdec dc_Court_classAction 13 rfl) 24 rfl cv_Court_87 rfl rfl (mt_pf_Court_dueFrom_50 l0 hg_6) ⟨rfl, rfl⟩ ⟨Nat.le_of_ble_eq_true rfl, Nat.le_of_ble_eq_true rfl⟩ ⟨Nat.zero_le _, Nat.zero_le _⟩ rfl (Nat.le_of_ble_eq_true rfl) ?_
    change KW x 0 0 Q σ_2 24 [some (kr 50), some (ki x1), some (ki x2), none, none, none] [ki r_1, ki x2, kr 53]
    obtain ⟨hc_3, h⟩ := kchk_h h
    obtain ⟨σ_4, eσ_4, h⟩ := klet_h h
    refine kw_iast C (kdec dc_Court_classAction 14 rfl) 25 rfl rfl hc_3.1 hc_3.2 ?_
    refine kw_sig eσ_4 ?_
    obtain ⟨x2_5, ex2_5, h⟩ := klet_h h
    refine kw_iinc (L' := [some (kr 50), some (ki x1), some (ki x2_5), none, none, none]) C (kdec dc_Court_classAction 15 rfl) 28 rfl rfl (by decide) rfl (by rw [ex2_5]; rfl) ?_
    refine kw_goto C (kdec dc_Court_classAction 16 rfl) 2 (by decide) ?_
    obtain rfl := Option.some.inj h
    exact (hC _ _ rfl)
theorem lp_pf_Court_classAction_50_l2 {x : kX} {l0 : Launch} {Q : State → Prop} (C : kCx x prog_3_method_8_code "PoetFines$Court" (some .int) kcl yC 6 l0 R0_pf_Court_classAction_50) (x1 : Int) {ex : (kM)} (hX31 : ∀ (σ' : kM), ex = σ' → KW x 0 0 Q σ' 31 [some (kr 50), some (ki x1), none, none, none, none] []) (n : Nat) (σ : kM) (x2 : Int) (h : kloop (fun st => pf_Court_classAction_50_l2 st.1 x1 st.2) n (σ, x2) = some ex) : KW x 0 0 Q σ 2 [some (kr 50), some (ki x1), some (ki x2), none, none, none] [] :=
  kloop_ind (P := (fun st : kM × Int => KW x 0 0 Q st.1 2 [some (kr 50), some (ki x1), some (ki (st.2)), none, none, none] [])) (fun st out hb hc hx => bd_pf_Court_classAction_50_l2 C st.1 x1 st.2 hb (fun a0 a1 e => hc _ e) (fun a0 e => hX31 _ ((hx _ e).symm))) n (σ, x2) h
def pf_Court_classAction_50_l56_j103 (σ : kM) (x2 : Int) (x3 : Int) (x4 : Int) (x5 : Int) : Option ((Int × Int × Int) ⊕ ((Int))) :=
  klet (w32 (x5 + 1)) fun x5_14 =>
  some (Sum.inl (x3, x4, x5_14))
set_option maxHeartbeats 4000000 in
theorem bd_pf_Court_classAction_50_l56_j103 {x : kX} {l0 : Launch} {Q : State → Prop} (C : kCx x prog_3_method_8_code "PoetFines$Court" (some .int) kcl yC 6 l0 R0_pf_Court_classAction_50) (σ : kM) (x2 : Int) (x3 : Int) (x4 : Int) (x5 : Int) {out : (Int × Int × Int) ⊕ ((Int))} (h : pf_Court_classAction_50_l56_j103 σ x2 x3 x4 x5 = some out) (hC : ∀ (x3' : Int) (x4' : Int) (x5' : Int), out = Sum.inl (x3', x4', x5') → KW x 0 0 Q σ 56 [some (kr 50), none, some (ki x2), some (ki x3'), some (ki x4'), some (ki x5')] []) (hX109 : ∀ (x3' : Int), out = Sum.inr x3' → KW x 0 0 Q σ 109 [none, none, none, some (ki x3'), none, none] []) : KW x 0 0 Q σ 103 [some (kr 50), none, some (ki x2), some (ki x3), some (ki x4), some (ki x5)] [] := by
  unfold pf_Court_classAction_50_l56_j103 at h
  obtain ⟨x5_14, ex5_14, h⟩ := klet_h h
  refine kw_iinc (L' := [some (kr 50), none, some (ki x2), some (ki x3), some (ki x4), some (ki x5_14)]) C (kdec dc_Court_classAction 54 rfl) 106 rfl rfl (by decide) rfl (by rw [ex5_14]; rfl) ?_
  refine kw_goto C (kdec dc_Court_classAction 55 rfl) 56 (by decide) ?_
  obtain rfl := Option.some.inj h
  exact (hC _ _ _ rfl)
def pf_Court_classAction_50_l56 (σ : kM) (x2 : Int) (x3 : Int) (x4 : Int) (x5 : Int) : Option ((Int × Int × Int) ⊕ ((Int))) :=
  if (kshl 1 (σ 3 1)) ≤ x5 then
    some (Sum.inr x3)
  else
    (pf_Integer_bitCount_0f7a4 σ x5).bind fun r_13 =>
    if x4 ≤ r_13 then
      pf_Court_classAction_50_l56_j103 σ x2 x3 x4 x5
    else
      (pf_Court_sumOf_53 σ x5).bind fun r_15 =>
      if r_15 ≤ x2 then
        pf_Court_classAction_50_l56_j103 σ x2 x3 x4 x5
      else
        (pf_Integer_bitCount_0f7a4 σ x5).bind fun r_16 =>
        pf_Court_classAction_50_l56_j103 σ x2 x5 r_16 x5
set_option maxHeartbeats 4000000 in
theorem bd_pf_Court_classAction_50_l56 {x : kX} {l0 : Launch} {Q : State → Prop} (C : kCx x prog_3_method_8_code "PoetFines$Court" (some .int) kcl yC 6 l0 R0_pf_Court_classAction_50) (σ : kM) (x2 : Int) (x3 : Int) (x4 : Int) (x5 : Int) {out : (Int × Int × Int) ⊕ ((Int))} (h : pf_Court_classAction_50_l56 σ x2 x3 x4 x5 = some out) (hC : ∀ (x3' : Int) (x4' : Int) (x5' : Int), out = Sum.inl (x3', x4', x5') → KW x 0 0 Q σ 56 [some (kr 50), none, some (ki x2), some (ki x3'), some (ki x4'), some (ki x5')] []) (hX109 : ∀ (x3' : Int), out = Sum.inr x3' → KW x 0 0 Q σ 109 [none, none, none, some (ki x3'), none, none] []) : KW x 0 0 Q σ 56 [some (kr 50), none, some (ki x2), some (ki x3), some (ki x4), some (ki x5)] [] := by
  unfold pf_Court_classAction_50_l56 at h
  refine kw_iload C (kdec dc_Court_classAction 32 rfl) 58 rfl rfl ?_
  refine kw_iconst C (kdec dc_Court_classAction 33 rfl) 59 rfl rfl ⟨by decide, by decide⟩ ?_
  refine kw_aload_n C (kdec dc_Court_classAction 34 rfl) rfl 60 rfl rfl ?_
  refine kw_getR C (kdec dc_Court_classAction 35 rfl) 63 rfl fd_C_Court_34_50 ?_
  refine kw_getI C (kdec dc_Court_classAction 36 rfl) 66 rfl fd_C_Court_53_3 ?_
  refine kw_ishl C (kdec dc_Court_classAction 37 rfl) 67 rfl ?_
  refine kw_icmp_ge C (kdec dc_Court_classAction 38 rfl) 109 70 (by decide) rfl (fun hc67 => ?_) (fun hc67 => ?_)
  · rw [if_pos hc67] at h
    obtain rfl := Option.some.inj h
    exact kw_sub (L' := [none, none, none, some (ki x3), none, none]) ⟨rfl, trivial⟩ (hX109 _ rfl)
  · rw [if_neg hc67] at h
    refine kw_iload C (kdec dc_Court_classAction 39 rfl) 72 rfl rfl ?_
    obtain ⟨r_13, hg_19, h⟩ := kbind_h h
    refine kw_callS (As := [ki x5]) C (kdec dc_Court_classAction 40 rfl) 75 rfl cs_Court_90 (mt_pf_Integer_bitCount_0f7a4 l0 hg_19) ⟨rfl, rfl⟩ ⟨Nat.le_of_ble_eq_true rfl, Nat.le_of_ble_eq_true rfl⟩ ⟨Nat.zero_le _, Nat.zero_le _⟩ rfl (Nat.le_of_ble_eq_true rfl) ?_
    change KW x 0 0 Q σ 75 [some (kr 50), none, some (ki x2), some (ki x3), some (ki x4), some (ki x5)] [ki r_13]
    refine kw_iload C (kdec dc_Court_classAction 41 rfl) 77 rfl rfl ?_
    refine kw_icmp_ge C (kdec dc_Court_classAction 42 rfl) 103 80 (by decide) rfl (fun hc77 => ?_) (fun hc77 => ?_)
    · rw [if_pos hc77] at h
      exact bd_pf_Court_classAction_50_l56_j103 C σ x2 x3 x4 x5 h hC hX109
    · rw [if_neg hc77] at h
      refine kw_aload_n C (kdec dc_Court_classAction 43 rfl) rfl 81 rfl rfl ?_
      refine kw_getR C (kdec dc_Court_classAction 44 rfl) 84 rfl fd_C_Court_18_50 ?_
      refine kw_iload C (kdec dc_Court_classAction 45 rfl) 86 rfl rfl ?_
      obtain ⟨r_15, hg_18, h⟩ := kbind_h h
      refine kw_callS (As := [kr 53, ki x5]) C (kdec dc_Court_classAction 46 rfl) 89 rfl cs_Court_79 (mt_pf_Court_sumOf_53 l0 hg_18) ⟨rfl, rfl⟩ ⟨Nat.le_of_ble_eq_true rfl, Nat.le_of_ble_eq_true rfl⟩ ⟨Nat.zero_le _, Nat.zero_le _⟩ rfl (Nat.le_of_ble_eq_true rfl) ?_
      change KW x 0 0 Q σ 89 [some (kr 50), none, some (ki x2), some (ki x3), some (ki x4), some (ki x5)] [ki r_15]
      refine kw_iload_n C (kdec dc_Court_classAction 47 rfl) rfl 90 rfl rfl ?_
      refine kw_icmp_le C (kdec dc_Court_classAction 48 rfl) 103 93 (by decide) rfl (fun hc90 => ?_) (fun hc90 => ?_)
      · rw [if_pos hc90] at h
        exact bd_pf_Court_classAction_50_l56_j103 C σ x2 x3 x4 x5 h hC hX109
      · rw [if_neg hc90] at h
        refine kw_iload C (kdec dc_Court_classAction 49 rfl) 95 rfl rfl ?_
        refine kw_istore_n (L' := [some (kr 50), none, some (ki x2), some (ki x5), some (ki x4), some (ki x5)]) C (kdec dc_Court_classAction 50 rfl) rfl 96 rfl (by decide) rfl rfl ?_
        refine kw_iload C (kdec dc_Court_classAction 51 rfl) 98 rfl rfl ?_
        obtain ⟨r_16, hg_17, h⟩ := kbind_h h
        refine kw_callS (As := [ki x5]) C (kdec dc_Court_classAction 52 rfl) 101 rfl cs_Court_90 (mt_pf_Integer_bitCount_0f7a4 l0 hg_17) ⟨rfl, rfl⟩ ⟨Nat.le_of_ble_eq_true rfl, Nat.le_of_ble_eq_true rfl⟩ ⟨Nat.zero_le _, Nat.zero_le _⟩ rfl (Nat.le_of_ble_eq_true rfl) ?_
        change KW x 0 0 Q σ 101 [some (kr 50), none, some (ki x2), some (ki x5), some (ki x4), some (ki x5)] [ki r_16]
        refine kw_istore (L' := [some (kr 50), none, some (ki x2), some (ki x5), some (ki r_16), some (ki x5)]) C (kdec dc_Court_classAction 53 rfl) 103 rfl (by decide) rfl rfl ?_
        exact bd_pf_Court_classAction_50_l56_j103 C σ x2 x5 r_16 x5 h hC hX109
theorem lp_pf_Court_classAction_50_l56 {x : kX} {l0 : Launch} {Q : State → Prop} (C : kCx x prog_3_method_8_code "PoetFines$Court" (some .int) kcl yC 6 l0 R0_pf_Court_classAction_50) (σ : kM) (x2 : Int) {ex : (Int)} (hX109 : ∀ (x3' : Int), ex = x3' → KW x 0 0 Q σ 109 [none, none, none, some (ki x3'), none, none] []) (n : Nat) (x3 : Int) (x4 : Int) (x5 : Int) (h : kloop (fun st => pf_Court_classAction_50_l56 σ x2 st.1 st.2.1 st.2.2) n (x3, x4, x5) = some ex) : KW x 0 0 Q σ 56 [some (kr 50), none, some (ki x2), some (ki x3), some (ki x4), some (ki x5)] [] :=
  kloop_ind (P := (fun st : Int × Int × Int => KW x 0 0 Q σ 56 [some (kr 50), none, some (ki x2), some (ki (st.1)), some (ki (st.2.1)), some (ki (st.2.2))] [])) (fun st out hb hc hx => bd_pf_Court_classAction_50_l56 C σ x2 st.1 st.2.1 st.2.2 hb (fun a0 a1 a2 e => hc _ e) (fun a0 e => hX109 _ ((hx _ e).symm))) n (x3, x4, x5) h
def pf_Court_classAction_50 (σ : kM) (x1 : Int) : Option (Int × kM) :=
  (kloop (fun st => pf_Court_classAction_50_l2 st.1 x1 st.2) kFuel (σ, 0)).bind fun σ_9 =>
  kchk (0 ≤ (w32 (49 + x1)) ∧ (w32 (49 + x1)) < 85) <|
  klet (σ_9 31 (w32 (49 + x1)).toNat) fun x2_11 =>
  klet ((-1)) fun x3_12 =>
  (kloop (fun st => pf_Court_classAction_50_l56 σ_9 x2_11 st.1 st.2.1 st.2.2) kFuel (x3_12, 9, 1)).bind fun x3_22 =>
  some ((x3_22, σ_9))
set_option maxHeartbeats 4000000 in
theorem bd_pf_Court_classAction_50 {x : kX} {l0 : Launch} {Q : State → Prop} (C : kCx x prog_3_method_8_code "PoetFines$Court" (some .int) kcl yC 6 l0 R0_pf_Court_classAction_50) (σ : kM) (x1 : Int) {out : Int × kM} (h : pf_Court_classAction_50 σ x1 = some out) (hR : ∀ (r : Int) (τ : kM), out = (r, τ) → Q = kQ x (some (ki r)) τ 0 0) : KW x 0 0 Q σ 0 [some (kr 50), some (ki x1), none, none, none, none] [] := by
  unfold pf_Court_classAction_50 at h
  refine kw_iconst C (kdec dc_Court_classAction 0 rfl) 1 rfl rfl ⟨by decide, by decide⟩ ?_
  refine kw_istore_n (L' := [some (kr 50), some (ki x1), some (ki 0), none, none, none]) C (kdec dc_Court_classAction 1 rfl) rfl 2 rfl (by decide) rfl rfl ?_
  obtain ⟨ex_7, hl_8, h⟩ := kbind_h h
  refine lp_pf_Court_classAction_50_l2 C x1 ?_ kFuel σ 0 hl_8
  · intro σ_9 e
    subst ex_7
    try dsimp only at h
    refine kw_aload_n C (kdec dc_Court_classAction 17 rfl) rfl 32 rfl rfl ?_
    refine kw_getR C (kdec dc_Court_classAction 18 rfl) 35 rfl fd_C_Court_38_50 ?_
    refine kw_getR C (kdec dc_Court_classAction 19 rfl) 38 rfl fd_C_Court_42_43 ?_
    refine kw_getR C (kdec dc_Court_classAction 20 rfl) 41 rfl fd_C_Court_48_30 ?_
    refine kw_bipush (v := 49) C (kdec dc_Court_classAction 21 rfl) 43 rfl (by decide) ⟨by decide, by decide⟩ ?_
    refine kw_iload_n C (kdec dc_Court_classAction 22 rfl) rfl 44 rfl rfl ?_
    refine kw_iadd C (kdec dc_Court_classAction 23 rfl) 45 rfl ?_
    obtain ⟨hc_10, h⟩ := kchk_h h
    refine kw_iald C (kdec dc_Court_classAction 24 rfl) 46 rfl rfl hc_10.1 hc_10.2 ?_
    obtain ⟨x2_11, ex2_11, h⟩ := klet_h h
    refine kw_top ex2_11 ?_
    refine kw_istore_n (L' := [some (kr 50), some (ki x1), some (ki x2_11), none, none, none]) C (kdec dc_Court_classAction 25 rfl) rfl 47 rfl (by decide) rfl rfl ?_
    refine kw_iconst C (kdec dc_Court_classAction 26 rfl) 48 rfl rfl ⟨by decide, by decide⟩ ?_
    obtain ⟨x3_12, ex3_12, h⟩ := klet_h h
    refine kw_top ex3_12 ?_
    refine kw_istore_n (L' := [some (kr 50), some (ki x1), some (ki x2_11), some (ki x3_12), none, none]) C (kdec dc_Court_classAction 27 rfl) rfl 49 rfl (by decide) rfl rfl ?_
    refine kw_bipush (v := 9) C (kdec dc_Court_classAction 28 rfl) 51 rfl (by decide) ⟨by decide, by decide⟩ ?_
    refine kw_istore (L' := [some (kr 50), some (ki x1), some (ki x2_11), some (ki x3_12), some (ki 9), none]) C (kdec dc_Court_classAction 29 rfl) 53 rfl (by decide) rfl rfl ?_
    refine kw_iconst C (kdec dc_Court_classAction 30 rfl) 54 rfl rfl ⟨by decide, by decide⟩ ?_
    refine kw_istore (L' := [some (kr 50), some (ki x1), some (ki x2_11), some (ki x3_12), some (ki 9), some (ki 1)]) C (kdec dc_Court_classAction 31 rfl) 56 rfl (by decide) rfl rfl ?_
    obtain ⟨ex_20, hl_21, h⟩ := kbind_h h
    refine kw_sub (L' := [some (kr 50), none, some (ki x2_11), some (ki x3_12), some (ki 9), some (ki 1)]) ⟨rfl, rfl, rfl, rfl, rfl, trivial⟩ (lp_pf_Court_classAction_50_l56 C σ_9 x2_11 ?_ kFuel x3_12 9 1 hl_21)
    · intro x3_22 e
      subst ex_20
      try dsimp only at h
      refine kw_iload_n C (kdec dc_Court_classAction 56 rfl) rfl 110 rfl rfl ?_
      obtain rfl := Option.some.inj h
      exact kw_Q (hR _ _ rfl) (kw_ireturn C (kdec dc_Court_classAction 57 rfl))
theorem mt_pf_Court_classAction_50 (l0 : Launch) {σ : kM} {x1 : Int} {r : Int} {τ : kM} (h : pf_Court_classAction_50 σ x1 = some (r, τ)) : kMet l0 ky_Court_classAction prog_3_method_8_code 6 (some .int) R0_pf_Court_classAction_50 kcl yC σ [kr 50, ki x1] (some (ki r)) τ := kMet.of' [some (kr 50), some (ki x1), none, none, none, none] (by decide) (Nat.le_of_ble_eq_true rfl) ⟨rfl, rfl, trivial⟩ (fun x C => bd_pf_Court_classAction_50 C σ x1 h (fun r τ e => by cases e; rfl))
def R0_pf_P_action_0 : Room := ({ frames := 7, cells := 1, slots := 6, locals := 168 } : Room)
def pf_P_action_0 (σ : kM) (x1 : Int) : Option ((String ⊕ Int) × kM) :=
  (pf_P_needPoet_0 σ x1).bind fun q_7 => match q_7 with
  | (.inl E_3, σ_1) => some (.inl E_3, σ_1)
  | (.inr _, σ_1) =>
    (pf_Court_classAction_50 σ_1 x1).bind fun (r_4, σ_5) =>
    some ((.inr r_4, σ_5))
set_option maxHeartbeats 4000000 in
theorem bd_pf_P_action_0 {x : kX} {l0 : Launch} {Q : State → Prop} (C : kCx x prog_1_method_24_code "PoetFines" (some .int) kcl yC 2 l0 R0_pf_P_action_0) (hT : kTb x) (hfl : l0.stackTraces = false) (σ : kM) (x1 : Int) {out : (String ⊕ Int) × kM} (h : pf_P_action_0 σ x1 = some out) (hR : ∀ (r : Int) (τ : kM), out = (.inr r, τ) → Q = kQX x (.inr (some (ki r))) τ 1 6) (hE : ∀ (E : String) (τ : kM), out = (.inl E, τ) → Q = kQX x (.inl E) τ 1 6) : KW x 0 0 Q σ 0 [some (kr 0), some (ki x1)] [] := by
  unfold pf_P_action_0 at h
  refine kw_aload_n C (kdec dc_P_action 0 rfl) rfl 1 rfl rfl ?_
  refine kw_iload_n C (kdec dc_P_action 1 rfl) rfl 2 rfl rfl ?_
  obtain ⟨⟨q_7, σ_1⟩, hg_2, h⟩ := kbind_h h
  rcases q_7 with E_3 | _
  · dsimp only at h
    obtain rfl := Option.some.inj h
    exact kw_Q (hE _ _ rfl) (kw_callVX_t (As := [ki x1]) C hT (kdec dc_P_action 2 rfl) cv_P_162 rfl rfl (me_pf_P_needPoet_0 l0 hfl hg_2) ⟨rfl, rfl⟩ ⟨Nat.le_of_ble_eq_true rfl, Nat.le_of_ble_eq_true rfl⟩ ⟨Nat.le_of_ble_eq_true rfl, Nat.le_of_ble_eq_true rfl⟩ rfl (Nat.le_of_ble_eq_true rfl) (Nat.le_of_ble_eq_true rfl) (Nat.le_of_ble_eq_true rfl))
  · dsimp only at h
    refine kw_callVX (As := [ki x1]) C (kdec dc_P_action 2 rfl) 5 rfl cv_P_162 rfl rfl (mx_pf_P_needPoet_0 l0 hfl hg_2) ⟨rfl, rfl⟩ ⟨Nat.le_of_ble_eq_true rfl, Nat.le_of_ble_eq_true rfl⟩ ⟨Nat.le_of_ble_eq_true rfl, Nat.le_of_ble_eq_true rfl⟩ rfl (Nat.le_of_ble_eq_true rfl) ?_
    change KW x 1 6 Q σ_1 5 [some (kr 0), some (ki x1)] []
    refine kw_aload_n C (kdec dc_P_action 3 rfl) rfl 6 rfl rfl ?_
    refine kw_getR C (kdec dc_P_action 4 rfl) 9 rfl fd_C_P_72_0 ?_
    refine kw_iload_n C (kdec dc_P_action 5 rfl) rfl 10 rfl rfl ?_
    obtain ⟨⟨r_4, σ_5⟩, hg_6, h⟩ := kbind_h h
    dsimp only at h
    refine kw_callV (As := [ki x1]) C (kdec dc_P_action 6 rfl) 13 rfl cv_P_265 rfl rfl (mt_pf_Court_classAction_50 l0 hg_6) ⟨rfl, rfl⟩ ⟨Nat.le_of_ble_eq_true rfl, Nat.le_of_ble_eq_true rfl⟩ ⟨Nat.le_of_ble_eq_true rfl, Nat.le_of_ble_eq_true rfl⟩ rfl (Nat.le_of_ble_eq_true rfl) ?_
    change KW x 1 6 Q σ_5 13 [some (kr 0), some (ki x1)] [ki r_4]
    obtain rfl := Option.some.inj h
    exact kw_Q (hR _ _ rfl) (kw_xret (by decide) (by decide) (kw_ireturn C (kdec dc_P_action 7 rfl)))
theorem mx_pf_P_action_0 (l0 : Launch) (hfl : l0.stackTraces = false) {σ : kM} {x1 : Int} {r : Int} {τ : kM} (h : pf_P_action_0 σ x1 = some (.inr r, τ)) : kXet l0 ky_P_action prog_1_method_24_code 2 (some .int) R0_pf_P_action_0 kcl yC σ [kr 0, ki x1] (.inr (some (ki r))) τ 1 6 := kXet.of [some (kr 0), some (ki x1)] (by decide) (Nat.le_of_ble_eq_true rfl) ⟨rfl, rfl, trivial⟩ (fun x C hT => bd_pf_P_action_0 C hT hfl σ x1 h (fun r τ e => by cases e; rfl) (fun E τ e => by cases e))
theorem me_pf_P_action_0 (l0 : Launch) (hfl : l0.stackTraces = false) {σ : kM} {x1 : Int} {E : String} {τ : kM} (h : pf_P_action_0 σ x1 = some (.inl E, τ)) : kXet l0 ky_P_action prog_1_method_24_code 2 (some .int) R0_pf_P_action_0 kcl yC σ [kr 0, ki x1] (.inl E) τ 1 6 := kXet.of [some (kr 0), some (ki x1)] (by decide) (Nat.le_of_ble_eq_true rfl) ⟨rfl, rfl, trivial⟩ (fun x C hT => bd_pf_P_action_0 C hT hfl σ x1 h (fun r τ e => by cases e) (fun E τ e => by cases e; rfl))
def R0_pf_Court_sits_50 : Room := ({ frames := 0, cells := 0, slots := 0, locals := 0 } : Room)
def pf_Court_sits_50 (σ : kM) (x1 : Int) : Option (Int) :=
  kchk (0 ≤ (w32 (57 + x1)) ∧ (w32 (57 + x1)) < 85) <|
  if (σ 31 (w32 (57 + x1)).toNat) ≤ 0 then
    some 0
  else
    some 1
set_option maxHeartbeats 4000000 in
theorem bd_pf_Court_sits_50 {x : kX} {l0 : Launch} {Q : State → Prop} (C : kCx x prog_3_method_13_code "PoetFines$Court" (some .boolean) kcl yC 2 l0 R0_pf_Court_sits_50) (σ : kM) (x1 : Int) {out : Int} (h : pf_Court_sits_50 σ x1 = some out) (hR : ∀ (r : Int), out = r → Q = kQ x (some (ki r)) σ 0 0) : KW x 0 0 Q σ 0 [some (kr 50), some (ki x1)] [] := by
  unfold pf_Court_sits_50 at h
  refine kw_aload_n C (kdec dc_Court_sits 0 rfl) rfl 1 rfl rfl ?_
  refine kw_getR C (kdec dc_Court_sits 1 rfl) 4 rfl fd_C_Court_38_50 ?_
  refine kw_getR C (kdec dc_Court_sits 2 rfl) 7 rfl fd_C_Court_42_43 ?_
  refine kw_getR C (kdec dc_Court_sits 3 rfl) 10 rfl fd_C_Court_48_30 ?_
  refine kw_bipush (v := 57) C (kdec dc_Court_sits 4 rfl) 12 rfl (by decide) ⟨by decide, by decide⟩ ?_
  refine kw_iload_n C (kdec dc_Court_sits 5 rfl) rfl 13 rfl rfl ?_
  refine kw_iadd C (kdec dc_Court_sits 6 rfl) 14 rfl ?_
  obtain ⟨hc_1, h⟩ := kchk_h h
  refine kw_iald C (kdec dc_Court_sits 7 rfl) 15 rfl rfl hc_1.1 hc_1.2 ?_
  refine kw_if_le C (kdec dc_Court_sits 8 rfl) 22 18 (by decide) rfl (fun hc15 => ?_) (fun hc15 => ?_)
  · rw [if_pos hc15] at h
    refine kw_iconst C (kdec dc_Court_sits 11 rfl) 23 rfl rfl ⟨by decide, by decide⟩ ?_
    obtain rfl := Option.some.inj h
    exact kw_Q (hR _ rfl) (kw_zreturn C (kdec dc_Court_sits 12 rfl) (by decide))
  · rw [if_neg hc15] at h
    refine kw_iconst C (kdec dc_Court_sits 9 rfl) 19 rfl rfl ⟨by decide, by decide⟩ ?_
    refine kw_goto C (kdec dc_Court_sits 10 rfl) 23 (by decide) ?_
    obtain rfl := Option.some.inj h
    exact kw_Q (hR _ rfl) (kw_zreturn C (kdec dc_Court_sits 12 rfl) (by decide))
theorem mt_pf_Court_sits_50 (l0 : Launch) {σ : kM} {x1 : Int} {r : Int} (h : pf_Court_sits_50 σ x1 = some r) : kMet l0 ky_Court_sits prog_3_method_13_code 2 (some .boolean) R0_pf_Court_sits_50 kcl yC σ [kr 50, ki x1] (some (ki r)) σ := kMet.of' [some (kr 50), some (ki x1)] (by decide) (Nat.le_of_ble_eq_true rfl) ⟨rfl, rfl, trivial⟩ (fun x C => bd_pf_Court_sits_50 C σ x1 h (fun r e => by subst e; rfl))
def R0_pf_Court_keepRow_50 : Room := ({ frames := 1, cells := 0, slots := 0, locals := 60 } : Room)
def pf_Court_keepRow_50 (σ : kM) (x1 : Int) : Option (kM) :=
  if x1 ≤ (σ 50 8) then
    some σ
  else
    klet (kst σ 50 (kup (σ 50) 8 x1)) fun σ_1 =>
    klet (kst σ_1 56 (va_cpy (σ_1 55) (σ_1 56) (0 : Int).toNat (0 : Int).toNat (4 : Int).toNat)) fun σ_3 =>
    some σ_3
set_option maxHeartbeats 4000000 in
theorem bd_pf_Court_keepRow_50 {x : kX} {l0 : Launch} {Q : State → Prop} (C : kCx x prog_3_method_12_code "PoetFines$Court" none kcl yC 2 l0 R0_pf_Court_keepRow_50) (σ : kM) (x1 : Int) {out : kM} (h : pf_Court_keepRow_50 σ x1 = some out) (hR : ∀ (τ : kM), out = τ → Q = kQ x none τ 0 0) : KW x 0 0 Q σ 0 [some (kr 50), some (ki x1)] [] := by
  unfold pf_Court_keepRow_50 at h
  refine kw_iload_n C (kdec dc_Court_keepRow 0 rfl) rfl 1 rfl rfl ?_
  refine kw_aload_n C (kdec dc_Court_keepRow 1 rfl) rfl 2 rfl rfl ?_
  refine kw_getI C (kdec dc_Court_keepRow 2 rfl) 5 rfl fd_C_Court_30_50 ?_
  refine kw_icmp_le C (kdec dc_Court_keepRow 3 rfl) 27 8 (by decide) rfl (fun hc5 => ?_) (fun hc5 => ?_)
  · rw [if_pos hc5] at h
    obtain rfl := Option.some.inj h
    exact kw_Q (hR _ rfl) (kw_return C (kdec dc_Court_keepRow 15 rfl))
  · rw [if_neg hc5] at h
    refine kw_aload_n C (kdec dc_Court_keepRow 4 rfl) rfl 9 rfl rfl ?_
    refine kw_iload_n C (kdec dc_Court_keepRow 5 rfl) rfl 10 rfl rfl ?_
    obtain ⟨σ_1, eσ_1, h⟩ := klet_h h
    refine kw_putI C (kdec dc_Court_keepRow 6 rfl) 13 rfl fp_C_Court_30_50 ?_
    refine kw_sig eσ_1 ?_
    refine kw_aload_n C (kdec dc_Court_keepRow 7 rfl) rfl 14 rfl rfl ?_
    refine kw_getR C (kdec dc_Court_keepRow 8 rfl) 17 rfl fd_C_Court_24_50 ?_
    refine kw_iconst C (kdec dc_Court_keepRow 9 rfl) 18 rfl rfl ⟨by decide, by decide⟩ ?_
    refine kw_aload_n C (kdec dc_Court_keepRow 10 rfl) rfl 19 rfl rfl ?_
    refine kw_getR C (kdec dc_Court_keepRow 11 rfl) 22 rfl fd_C_Court_27_50 ?_
    refine kw_iconst C (kdec dc_Court_keepRow 12 rfl) 23 rfl rfl ⟨by decide, by decide⟩ ?_
    refine kw_iconst C (kdec dc_Court_keepRow 13 rfl) 24 rfl rfl ⟨by decide, by decide⟩ ?_
    obtain ⟨σ_3, eσ_3, h⟩ := klet_h h
    refine kw_copy C (kdec dc_Court_keepRow 14 rfl) 27 rfl ca_Court_115 rfl rfl (by decide) (by decide) (by decide) (by decide) (by decide) ⟨Nat.le_of_ble_eq_true rfl, by decide⟩ (Nat.le_of_ble_eq_true rfl) ?_
    refine kw_sig eσ_3 ?_
    obtain rfl := Option.some.inj h
    exact kw_Q (hR _ rfl) (kw_return C (kdec dc_Court_keepRow 15 rfl))
theorem mt_pf_Court_keepRow_50 (l0 : Launch) {σ : kM} {x1 : Int} {τ : kM} (h : pf_Court_keepRow_50 σ x1 = some τ) : kMet l0 ky_Court_keepRow prog_3_method_12_code 2 none R0_pf_Court_keepRow_50 kcl yC σ [kr 50, ki x1] none τ := kMet.of' [some (kr 50), some (ki x1)] (by decide) (Nat.le_of_ble_eq_true rfl) ⟨rfl, rfl, trivial⟩ (fun x C => bd_pf_Court_keepRow_50 C σ x1 h (fun τ e => by subst e; rfl))
def Rr_gA (d : Nat) : Room := { frames := 3 + d, cells := 0, slots := 0, locals := 81 + d * 25 }
theorem rr_gA_f {a : Nat} (h : a ≤ 3) (d : Nat) : a ≤ (Rr_gA (d + 1)).frames := Nat.le_trans h (Nat.le_add_right _ _)
theorem rr_gA_l {a : Nat} (h : a ≤ 81) (d : Nat) : a ≤ (Rr_gA (d + 1)).locals := Nat.le_trans h (Nat.le_add_right _ _)
theorem rr_gA_r {M : Nat} (d : Nat) (hM : 8 + (M + 11) ≤ 25 := by decide) : 8 + (M + 11) + (Rr_gA d).locals ≤ (Rr_gA (d + 1)).locals := by
  show 8 + (M + 11) + (81 + d * 25) ≤ 81 + (d + 1) * 25
  omega
def pf_Court_assignFrom_50_l41_j99 (rc : Nat → kM → Int → Int → Int → Int → Option kM) (σ : kM) (x1 : Int) (x2 : Int) (x3 : Int) (x4 : Int) (x5 : Int) : Option ((kM × Int) ⊕ ((kM))) :=
  klet (w32 (x5 + 1)) fun x5_2 =>
  some (Sum.inl (σ, x5_2))
set_option maxHeartbeats 4000000 in
theorem bd_pf_Court_assignFrom_50_l41_j99 {x : kX} {l0 : Launch} {Q : State → Prop} {d : Nat} (rc : Nat → kM → Int → Int → Int → Int → Option kM) (C : kCx x prog_3_method_11_code "PoetFines$Court" none kcl yC 6 l0 (Rr_gA (d + 1))) (hrc0 : ∀ (σ τ : kM) (a0 : Int) (a1 : Int) (a2 : Int) (a3 : Int), rc 0 σ a0 a1 a2 a3 = some τ → kMet l0 ky_Court_assignFrom prog_3_method_11_code 6 none (Rr_gA d) kcl yC σ [kr 50, ki a0, ki a1, ki a2, ki a3] none τ) (σ : kM) (x1 : Int) (x2 : Int) (x3 : Int) (x4 : Int) (x5 : Int) {out : (kM × Int) ⊕ ((kM))} (h : pf_Court_assignFrom_50_l41_j99 rc σ x1 x2 x3 x4 x5 = some out) (hC : ∀ (σ' : kM) (x5' : Int), out = Sum.inl (σ', x5') → KW x 0 0 Q σ' 41 [some (kr 50), some (ki x1), some (ki x2), some (ki x3), some (ki x4), some (ki x5')] []) (hX105 : ∀ (σ' : kM), out = Sum.inr σ' → KW x 0 0 Q σ' 105 [some (kr 50), some (ki x1), some (ki x2), some (ki x3), some (ki x4), none] []) : KW x 0 0 Q σ 99 [some (kr 50), some (ki x1), some (ki x2), some (ki x3), some (ki x4), some (ki x5)] [] := by
  unfold pf_Court_assignFrom_50_l41_j99 at h
  obtain ⟨x5_2, ex5_2, h⟩ := klet_h h
  refine kw_iinc (L' := [some (kr 50), some (ki x1), some (ki x2), some (ki x3), some (ki x4), some (ki x5_2)]) C (kdec dc_Court_assignFrom 61 rfl) 102 rfl rfl (by decide) rfl (by rw [ex5_2]; rfl) ?_
  refine kw_goto C (kdec dc_Court_assignFrom 62 rfl) 41 (by decide) ?_
  obtain rfl := Option.some.inj h
  exact (hC _ _ rfl)
def pf_Court_assignFrom_50_l41 (rc : Nat → kM → Int → Int → Int → Int → Option kM) (σ : kM) (x1 : Int) (x2 : Int) (x3 : Int) (x4 : Int) (x5 : Int) : Option ((kM × Int) ⊕ ((kM))) :=
  if (σ 3 1) ≤ x5 then
    some (Sum.inr σ)
  else
    if (kand (kshr x2 x5) 1) = 0 then
      kchk (0 ≤ x1 ∧ x1 < 4) <|
      klet (kst σ 55 (kup (σ 55) x1.toNat x5)) fun σ_4 =>
      kchk (0 ≤ (w32 ((w32 (x1 * 8)) + x5)) ∧ (w32 ((w32 (x1 * 8)) + x5)) < 32) <|
      (rc 0 σ_4 (w32 (x1 + 1)) (kor x2 (kshl 1 x5)) x3 (w32 (x4 + (σ_4 54 (w32 ((w32 (x1 * 8)) + x5)).toNat)))).bind fun σ_6 =>
      pf_Court_assignFrom_50_l41_j99 rc σ_6 x1 x2 x3 x4 x5
    else
      pf_Court_assignFrom_50_l41_j99 rc σ x1 x2 x3 x4 x5
set_option maxHeartbeats 4000000 in
theorem bd_pf_Court_assignFrom_50_l41 {x : kX} {l0 : Launch} {Q : State → Prop} {d : Nat} (rc : Nat → kM → Int → Int → Int → Int → Option kM) (C : kCx x prog_3_method_11_code "PoetFines$Court" none kcl yC 6 l0 (Rr_gA (d + 1))) (hrc0 : ∀ (σ τ : kM) (a0 : Int) (a1 : Int) (a2 : Int) (a3 : Int), rc 0 σ a0 a1 a2 a3 = some τ → kMet l0 ky_Court_assignFrom prog_3_method_11_code 6 none (Rr_gA d) kcl yC σ [kr 50, ki a0, ki a1, ki a2, ki a3] none τ) (σ : kM) (x1 : Int) (x2 : Int) (x3 : Int) (x4 : Int) (x5 : Int) {out : (kM × Int) ⊕ ((kM))} (h : pf_Court_assignFrom_50_l41 rc σ x1 x2 x3 x4 x5 = some out) (hC : ∀ (σ' : kM) (x5' : Int), out = Sum.inl (σ', x5') → KW x 0 0 Q σ' 41 [some (kr 50), some (ki x1), some (ki x2), some (ki x3), some (ki x4), some (ki x5')] []) (hX105 : ∀ (σ' : kM), out = Sum.inr σ' → KW x 0 0 Q σ' 105 [some (kr 50), some (ki x1), some (ki x2), some (ki x3), some (ki x4), none] []) : KW x 0 0 Q σ 41 [some (kr 50), some (ki x1), some (ki x2), some (ki x3), some (ki x4), some (ki x5)] [] := by
  unfold pf_Court_assignFrom_50_l41 at h
  refine kw_iload C (kdec dc_Court_assignFrom 24 rfl) 43 rfl rfl ?_
  refine kw_aload_n C (kdec dc_Court_assignFrom 25 rfl) rfl 44 rfl rfl ?_
  refine kw_getR C (kdec dc_Court_assignFrom 26 rfl) 47 rfl fd_C_Court_34_50 ?_
  refine kw_getI C (kdec dc_Court_assignFrom 27 rfl) 50 rfl fd_C_Court_53_3 ?_
  refine kw_icmp_ge C (kdec dc_Court_assignFrom 28 rfl) 105 53 (by decide) rfl (fun hc50 => ?_) (fun hc50 => ?_)
  · rw [if_pos hc50] at h
    obtain rfl := Option.some.inj h
    exact kw_sub (L' := [some (kr 50), some (ki x1), some (ki x2), some (ki x3), some (ki x4), none]) ⟨rfl, rfl, rfl, rfl, rfl, trivial⟩ (hX105 _ rfl)
  · rw [if_neg hc50] at h
    refine kw_iload_n C (kdec dc_Court_assignFrom 29 rfl) rfl 54 rfl rfl ?_
    refine kw_iload C (kdec dc_Court_assignFrom 30 rfl) 56 rfl rfl ?_
    refine kw_ishr C (kdec dc_Court_assignFrom 31 rfl) 57 rfl ?_
    refine kw_iconst C (kdec dc_Court_assignFrom 32 rfl) 58 rfl rfl ⟨by decide, by decide⟩ ?_
    refine kw_iand C (kdec dc_Court_assignFrom 33 rfl) 59 rfl ?_
    refine kw_if_ne C (kdec dc_Court_assignFrom 34 rfl) 99 62 (by decide) rfl (fun hc59 => ?_) (fun hc59 => ?_)
    · rw [if_neg hc59] at h
      exact bd_pf_Court_assignFrom_50_l41_j99 rc C hrc0 σ x1 x2 x3 x4 x5 h hC hX105
    · rw [if_pos hc59] at h
      refine kw_aload_n C (kdec dc_Court_assignFrom 35 rfl) rfl 63 rfl rfl ?_
      refine kw_getR C (kdec dc_Court_assignFrom 36 rfl) 66 rfl fd_C_Court_24_50 ?_
      refine kw_iload_n C (kdec dc_Court_assignFrom 37 rfl) rfl 67 rfl rfl ?_
      refine kw_iload C (kdec dc_Court_assignFrom 38 rfl) 69 rfl rfl ?_
      obtain ⟨hc_3, h⟩ := kchk_h h
      obtain ⟨σ_4, eσ_4, h⟩ := klet_h h
      refine kw_iast C (kdec dc_Court_assignFrom 39 rfl) 70 rfl rfl hc_3.1 hc_3.2 ?_
      refine kw_sig eσ_4 ?_
      refine kw_aload_n C (kdec dc_Court_assignFrom 40 rfl) rfl 71 rfl rfl ?_
      refine kw_iload_n C (kdec dc_Court_assignFrom 41 rfl) rfl 72 rfl rfl ?_
      refine kw_iconst C (kdec dc_Court_assignFrom 42 rfl) 73 rfl rfl ⟨by decide, by decide⟩ ?_
      refine kw_iadd C (kdec dc_Court_assignFrom 43 rfl) 74 rfl ?_
      refine kw_iload_n C (kdec dc_Court_assignFrom 44 rfl) rfl 75 rfl rfl ?_
      refine kw_iconst C (kdec dc_Court_assignFrom 45 rfl) 76 rfl rfl ⟨by decide, by decide⟩ ?_
      refine kw_iload C (kdec dc_Court_assignFrom 46 rfl) 78 rfl rfl ?_
      refine kw_ishl C (kdec dc_Court_assignFrom 47 rfl) 79 rfl ?_
      refine kw_ior C (kdec dc_Court_assignFrom 48 rfl) 80 rfl ?_
      refine kw_iload_n C (kdec dc_Court_assignFrom 49 rfl) rfl 81 rfl rfl ?_
      refine kw_iload C (kdec dc_Court_assignFrom 50 rfl) 83 rfl rfl ?_
      refine kw_aload_n C (kdec dc_Court_assignFrom 51 rfl) rfl 84 rfl rfl ?_
      refine kw_getR C (kdec dc_Court_assignFrom 52 rfl) 87 rfl fd_C_Court_21_50 ?_
      refine kw_iload_n C (kdec dc_Court_assignFrom 53 rfl) rfl 88 rfl rfl ?_
      refine kw_bipush (v := 8) C (kdec dc_Court_assignFrom 54 rfl) 90 rfl (by decide) ⟨by decide, by decide⟩ ?_
      refine kw_imul C (kdec dc_Court_assignFrom 55 rfl) 91 rfl ?_
      refine kw_iload C (kdec dc_Court_assignFrom 56 rfl) 93 rfl rfl ?_
      refine kw_iadd C (kdec dc_Court_assignFrom 57 rfl) 94 rfl ?_
      obtain ⟨hc_5, h⟩ := kchk_h h
      refine kw_iald C (kdec dc_Court_assignFrom 58 rfl) 95 rfl rfl hc_5.1 hc_5.2 ?_
      refine kw_iadd C (kdec dc_Court_assignFrom 59 rfl) 96 rfl ?_
      obtain ⟨σ_6, hg_7, h⟩ := kbind_h h
      refine kw_callV (As := [ki (w32 (x1 + 1)), ki (kor x2 (kshl 1 x5)), ki x3, ki (w32 (x4 + (σ_4 54 (w32 ((w32 (x1 * 8)) + x5)).toNat)))]) C (kdec dc_Court_assignFrom 60 rfl) 99 rfl cv_Court_107 rfl rfl (hrc0 _ _ _ _ _ _ hg_7) ⟨rfl, rfl⟩ ⟨Nat.le_refl _, rr_gA_r d⟩ ⟨Nat.zero_le _, Nat.zero_le _⟩ rfl (Nat.le_of_ble_eq_true rfl) ?_
      change KW x 0 0 Q σ_6 99 [some (kr 50), some (ki x1), some (ki x2), some (ki x3), some (ki x4), some (ki x5)] []
      exact bd_pf_Court_assignFrom_50_l41_j99 rc C hrc0 σ_6 x1 x2 x3 x4 x5 h hC hX105
theorem lp_pf_Court_assignFrom_50_l41 {x : kX} {l0 : Launch} {Q : State → Prop} {d : Nat} (rc : Nat → kM → Int → Int → Int → Int → Option kM) (C : kCx x prog_3_method_11_code "PoetFines$Court" none kcl yC 6 l0 (Rr_gA (d + 1))) (hrc0 : ∀ (σ τ : kM) (a0 : Int) (a1 : Int) (a2 : Int) (a3 : Int), rc 0 σ a0 a1 a2 a3 = some τ → kMet l0 ky_Court_assignFrom prog_3_method_11_code 6 none (Rr_gA d) kcl yC σ [kr 50, ki a0, ki a1, ki a2, ki a3] none τ) (x1 : Int) (x2 : Int) (x3 : Int) (x4 : Int) {ex : (kM)} (hX105 : ∀ (σ' : kM), ex = σ' → KW x 0 0 Q σ' 105 [some (kr 50), some (ki x1), some (ki x2), some (ki x3), some (ki x4), none] []) (n : Nat) (σ : kM) (x5 : Int) (h : kloop (fun st => pf_Court_assignFrom_50_l41 rc st.1 x1 x2 x3 x4 st.2) n (σ, x5) = some ex) : KW x 0 0 Q σ 41 [some (kr 50), some (ki x1), some (ki x2), some (ki x3), some (ki x4), some (ki x5)] [] :=
  kloop_ind (P := (fun st : kM × Int => KW x 0 0 Q st.1 41 [some (kr 50), some (ki x1), some (ki x2), some (ki x3), some (ki x4), some (ki (st.2))] [])) (fun st out hb hc hx => bd_pf_Court_assignFrom_50_l41 rc C hrc0 st.1 x1 x2 x3 x4 st.2 hb (fun a0 a1 e => hc _ e) (fun a0 e => hX105 _ ((hx _ e).symm))) n (σ, x5) h
def pf_Court_assignFrom_50 (rc : Nat → kM → Int → Int → Int → Int → Option kM) (σ : kM) (x1 : Int) (x2 : Int) (x3 : Int) (x4 : Int) : Option (kM) :=
  if x1 < (σ 3 2) then
    (pf_Court_sits_50 σ x1).bind fun r_1 =>
    if r_1 = 0 then
      (kloop (fun st => pf_Court_assignFrom_50_l41 rc st.1 x1 x2 x3 x4 st.2) kFuel (σ, 0)).bind fun σ_10 =>
      kchk (0 ≤ x1 ∧ x1 < 4) <|
      klet (kst σ_10 55 (kup (σ_10 55) x1.toNat ((-1)))) fun σ_12 =>
      if x3 ≤ 0 then
        some σ_12
      else
        (rc 0 σ_12 (w32 (x1 + 1)) x2 (w32 (x3 - 1)) x4).bind fun σ_13 =>
        some σ_13
    else
      (rc 0 σ (w32 (x1 + 1)) x2 x3 x4).bind fun σ_15 =>
      some σ_15
  else
    (pf_Court_keepRow_50 σ x4).bind fun σ_18 =>
    some σ_18
set_option maxHeartbeats 4000000 in
theorem bd_pf_Court_assignFrom_50 {x : kX} {l0 : Launch} {Q : State → Prop} {d : Nat} (rc : Nat → kM → Int → Int → Int → Int → Option kM) (C : kCx x prog_3_method_11_code "PoetFines$Court" none kcl yC 6 l0 (Rr_gA (d + 1))) (hrc0 : ∀ (σ τ : kM) (a0 : Int) (a1 : Int) (a2 : Int) (a3 : Int), rc 0 σ a0 a1 a2 a3 = some τ → kMet l0 ky_Court_assignFrom prog_3_method_11_code 6 none (Rr_gA d) kcl yC σ [kr 50, ki a0, ki a1, ki a2, ki a3] none τ) (σ : kM) (x1 : Int) (x2 : Int) (x3 : Int) (x4 : Int) {out : kM} (h : pf_Court_assignFrom_50 rc σ x1 x2 x3 x4 = some out) (hR : ∀ (τ : kM), out = τ → Q = kQ x none τ 0 0) : KW x 0 0 Q σ 0 [some (kr 50), some (ki x1), some (ki x2), some (ki x3), some (ki x4), none] [] := by
  unfold pf_Court_assignFrom_50 at h
  refine kw_iload_n C (kdec dc_Court_assignFrom 0 rfl) rfl 1 rfl rfl ?_
  refine kw_aload_n C (kdec dc_Court_assignFrom 1 rfl) rfl 2 rfl rfl ?_
  refine kw_getR C (kdec dc_Court_assignFrom 2 rfl) 5 rfl fd_C_Court_34_50 ?_
  refine kw_getI C (kdec dc_Court_assignFrom 3 rfl) 8 rfl fd_C_Court_95_3 ?_
  refine kw_icmp_lt C (kdec dc_Court_assignFrom 4 rfl) 18 11 (by decide) rfl (fun hc8 => ?_) (fun hc8 => ?_)
  · rw [if_pos hc8] at h
    refine kw_aload_n C (kdec dc_Court_assignFrom 9 rfl) rfl 19 rfl rfl ?_
    refine kw_iload_n C (kdec dc_Court_assignFrom 10 rfl) rfl 20 rfl rfl ?_
    obtain ⟨r_1, hg_17, h⟩ := kbind_h h
    refine kw_callV (As := [ki x1]) C (kdec dc_Court_assignFrom 11 rfl) 23 rfl cv_Court_98 rfl rfl (mt_pf_Court_sits_50 l0 hg_17) ⟨rfl, rfl⟩ ⟨rr_gA_f (Nat.le_of_ble_eq_true rfl) d, rr_gA_l (Nat.le_of_ble_eq_true rfl) d⟩ ⟨Nat.zero_le _, Nat.zero_le _⟩ rfl (Nat.le_of_ble_eq_true rfl) ?_
    change KW x 0 0 Q σ 23 [some (kr 50), some (ki x1), some (ki x2), some (ki x3), some (ki x4), none] [ki r_1]
    refine kw_if_eq C (kdec dc_Court_assignFrom 12 rfl) 38 26 (by decide) rfl (fun hc23 => ?_) (fun hc23 => ?_)
    · rw [if_pos hc23] at h
      refine kw_iconst C (kdec dc_Court_assignFrom 22 rfl) 39 rfl rfl ⟨by decide, by decide⟩ ?_
      refine kw_istore (L' := [some (kr 50), some (ki x1), some (ki x2), some (ki x3), some (ki x4), some (ki 0)]) C (kdec dc_Court_assignFrom 23 rfl) 41 rfl (by decide) rfl rfl ?_
      obtain ⟨ex_8, hl_9, h⟩ := kbind_h h
      refine lp_pf_Court_assignFrom_50_l41 rc C hrc0 x1 x2 x3 x4 ?_ kFuel σ 0 hl_9
      · intro σ_10 e
        subst ex_8
        try dsimp only at h
        refine kw_aload_n C (kdec dc_Court_assignFrom 63 rfl) rfl 106 rfl rfl ?_
        refine kw_getR C (kdec dc_Court_assignFrom 64 rfl) 109 rfl fd_C_Court_24_50 ?_
        refine kw_iload_n C (kdec dc_Court_assignFrom 65 rfl) rfl 110 rfl rfl ?_
        refine kw_iconst C (kdec dc_Court_assignFrom 66 rfl) 111 rfl rfl ⟨by decide, by decide⟩ ?_
        obtain ⟨hc_11, h⟩ := kchk_h h
        obtain ⟨σ_12, eσ_12, h⟩ := klet_h h
        refine kw_iast C (kdec dc_Court_assignFrom 67 rfl) 112 rfl rfl hc_11.1 hc_11.2 ?_
        refine kw_sig eσ_12 ?_
        refine kw_iload_n C (kdec dc_Court_assignFrom 68 rfl) rfl 113 rfl rfl ?_
        refine kw_if_le C (kdec dc_Court_assignFrom 69 rfl) 129 116 (by decide) rfl (fun hc113 => ?_) (fun hc113 => ?_)
        · rw [if_pos hc113] at h
          obtain rfl := Option.some.inj h
          exact kw_Q (hR _ rfl) (kw_return C (kdec dc_Court_assignFrom 80 rfl))
        · rw [if_neg hc113] at h
          refine kw_aload_n C (kdec dc_Court_assignFrom 70 rfl) rfl 117 rfl rfl ?_
          refine kw_iload_n C (kdec dc_Court_assignFrom 71 rfl) rfl 118 rfl rfl ?_
          refine kw_iconst C (kdec dc_Court_assignFrom 72 rfl) 119 rfl rfl ⟨by decide, by decide⟩ ?_
          refine kw_iadd C (kdec dc_Court_assignFrom 73 rfl) 120 rfl ?_
          refine kw_iload_n C (kdec dc_Court_assignFrom 74 rfl) rfl 121 rfl rfl ?_
          refine kw_iload_n C (kdec dc_Court_assignFrom 75 rfl) rfl 122 rfl rfl ?_
          refine kw_iconst C (kdec dc_Court_assignFrom 76 rfl) 123 rfl rfl ⟨by decide, by decide⟩ ?_
          refine kw_isub C (kdec dc_Court_assignFrom 77 rfl) 124 rfl ?_
          refine kw_iload C (kdec dc_Court_assignFrom 78 rfl) 126 rfl rfl ?_
          obtain ⟨σ_13, hg_14, h⟩ := kbind_h h
          refine kw_callV (As := [ki (w32 (x1 + 1)), ki x2, ki (w32 (x3 - 1)), ki x4]) C (kdec dc_Court_assignFrom 79 rfl) 129 rfl cv_Court_107 rfl rfl (hrc0 _ _ _ _ _ _ hg_14) ⟨rfl, rfl⟩ ⟨Nat.le_refl _, rr_gA_r d⟩ ⟨Nat.zero_le _, Nat.zero_le _⟩ rfl (Nat.le_of_ble_eq_true rfl) ?_
          change KW x 0 0 Q σ_13 129 [some (kr 50), some (ki x1), some (ki x2), some (ki x3), some (ki x4), none] []
          obtain rfl := Option.some.inj h
          exact kw_Q (hR _ rfl) (kw_return C (kdec dc_Court_assignFrom 80 rfl))
    · rw [if_neg hc23] at h
      refine kw_aload_n C (kdec dc_Court_assignFrom 13 rfl) rfl 27 rfl rfl ?_
      refine kw_iload_n C (kdec dc_Court_assignFrom 14 rfl) rfl 28 rfl rfl ?_
      refine kw_iconst C (kdec dc_Court_assignFrom 15 rfl) 29 rfl rfl ⟨by decide, by decide⟩ ?_
      refine kw_iadd C (kdec dc_Court_assignFrom 16 rfl) 30 rfl ?_
      refine kw_iload_n C (kdec dc_Court_assignFrom 17 rfl) rfl 31 rfl rfl ?_
      refine kw_iload_n C (kdec dc_Court_assignFrom 18 rfl) rfl 32 rfl rfl ?_
      refine kw_iload C (kdec dc_Court_assignFrom 19 rfl) 34 rfl rfl ?_
      obtain ⟨σ_15, hg_16, h⟩ := kbind_h h
      refine kw_callV (As := [ki (w32 (x1 + 1)), ki x2, ki x3, ki x4]) C (kdec dc_Court_assignFrom 20 rfl) 37 rfl cv_Court_107 rfl rfl (hrc0 _ _ _ _ _ _ hg_16) ⟨rfl, rfl⟩ ⟨Nat.le_refl _, rr_gA_r d⟩ ⟨Nat.zero_le _, Nat.zero_le _⟩ rfl (Nat.le_of_ble_eq_true rfl) ?_
      change KW x 0 0 Q σ_15 37 [some (kr 50), some (ki x1), some (ki x2), some (ki x3), some (ki x4), none] []
      obtain rfl := Option.some.inj h
      exact kw_Q (hR _ rfl) (kw_return C (kdec dc_Court_assignFrom 21 rfl))
  · rw [if_neg hc8] at h
    refine kw_aload_n C (kdec dc_Court_assignFrom 5 rfl) rfl 12 rfl rfl ?_
    refine kw_iload C (kdec dc_Court_assignFrom 6 rfl) 14 rfl rfl ?_
    obtain ⟨σ_18, hg_19, h⟩ := kbind_h h
    refine kw_callV (As := [ki x4]) C (kdec dc_Court_assignFrom 7 rfl) 17 rfl cv_Court_111 rfl rfl (mt_pf_Court_keepRow_50 l0 hg_19) ⟨rfl, rfl⟩ ⟨rr_gA_f (Nat.le_of_ble_eq_true rfl) d, rr_gA_l (Nat.le_of_ble_eq_true rfl) d⟩ ⟨Nat.zero_le _, Nat.zero_le _⟩ rfl (Nat.le_of_ble_eq_true rfl) ?_
    change KW x 0 0 Q σ_18 17 [some (kr 50), some (ki x1), some (ki x2), some (ki x3), some (ki x4), none] []
    obtain rfl := Option.some.inj h
    exact kw_Q (hR _ rfl) (kw_return C (kdec dc_Court_assignFrom 8 rfl))
def pf_gA : Nat → Nat → kM → Int → Int → Int → Int → Option kM
  | 0, _, _, _, _, _, _ => none
  | d + 1, sel, σ, x0, x1, x2, x3 =>
    pf_Court_assignFrom_50 (pf_gA d) σ x0 x1 x2 x3
theorem mg_gA (l0 : Launch) : ∀ d : Nat, (∀ (σ τ : kM) (a0 : Int) (a1 : Int) (a2 : Int) (a3 : Int), pf_gA d 0 σ a0 a1 a2 a3 = some τ → kMet l0 ky_Court_assignFrom prog_3_method_11_code 6 none (Rr_gA d) kcl yC σ [kr 50, ki a0, ki a1, ki a2, ki a3] none τ) := by
  intro d
  induction d with
  | zero => exact fun _ _ _ _ _ _ h => by cases h
  | succ d ih =>
    · intro σ τ a0 a1 a2 a3 h
      have h : pf_Court_assignFrom_50 (pf_gA d) σ a0 a1 a2 a3 = some τ := h
      exact kMet.of' [some (kr 50), some (ki a0), some (ki a1), some (ki a2), some (ki a3), none] (by decide) (Nat.le_of_ble_eq_true rfl) ⟨rfl, rfl, rfl, rfl, rfl, trivial⟩ (fun x C => bd_pf_Court_assignFrom_50 (pf_gA d) C ih σ a0 a1 a2 a3 h (fun τ e => by subst e; rfl))
theorem mt_gA_0 (l0 : Launch) {σ τ : kM} {a0 : Int} {a1 : Int} {a2 : Int} {a3 : Int} (h : pf_gA 8 0 σ a0 a1 a2 a3 = some τ) : kMet l0 ky_Court_assignFrom prog_3_method_11_code 6 none (Rr_gA 8) kcl yC σ [kr 50, ki a0, ki a1, ki a2, ki a3] none τ := (mg_gA l0 8) _ _ _ _ _ _ h
def R0_pf_Court_assignReadings_50 : Room := ({ frames := 12, cells := 0, slots := 0, locals := 306 } : Room)
def pf_Court_assignReadings_50_l47 (σ : kM) (x1 : Int) (x2 : Int) (x3 : Int) : Option ((kM × Int) ⊕ ((kM))) :=
  if (σ 3 1) ≤ x3 then
    some (Sum.inr σ)
  else
    kchk (0 ≤ (w32 (53 + x2)) ∧ (w32 (53 + x2)) < 85) <|
    klet (σ 31 (w32 (53 + x2)).toNat) fun x4_8 =>
    (pf_Court_inchesNow_50 σ x2 x3 x4_8).bind fun (r_9, σ_10) =>
    kchk (0 ≤ (w32 ((w32 (x2 * 8)) + x3)) ∧ (w32 ((w32 (x2 * 8)) + x3)) < 32) <|
    klet (kst σ_10 54 (kup (σ_10 54) ((w32 ((w32 (x2 * 8)) + x3)).toNat) r_9)) fun σ_12 =>
    klet (w32 (x3 + 1)) fun x3_13 =>
    some (Sum.inl (σ_12, x3_13))
set_option maxHeartbeats 4000000 in
theorem bd_pf_Court_assignReadings_50_l47 {x : kX} {l0 : Launch} {Q : State → Prop} (C : kCx x prog_3_method_10_code "PoetFines$Court" none kcl yC 5 l0 R0_pf_Court_assignReadings_50) (σ : kM) (x1 : Int) (x2 : Int) (x3 : Int) {out : (kM × Int) ⊕ ((kM))} (h : pf_Court_assignReadings_50_l47 σ x1 x2 x3 = some out) (hC : ∀ (σ' : kM) (x3' : Int), out = Sum.inl (σ', x3') → KW x 0 0 Q σ' 47 [some (kr 50), some (ki x1), some (ki x2), some (ki x3'), none] []) (hX100 : ∀ (σ' : kM), out = Sum.inr σ' → KW x 0 0 Q σ' 100 [some (kr 50), some (ki x1), some (ki x2), none, none] []) : KW x 0 0 Q σ 47 [some (kr 50), some (ki x1), some (ki x2), some (ki x3), none] [] := by
  unfold pf_Court_assignReadings_50_l47 at h
  refine kw_iload_n C (kdec dc_Court_assignReadings 31 rfl) rfl 48 rfl rfl ?_
  refine kw_aload_n C (kdec dc_Court_assignReadings 32 rfl) rfl 49 rfl rfl ?_
  refine kw_getR C (kdec dc_Court_assignReadings 33 rfl) 52 rfl fd_C_Court_34_50 ?_
  refine kw_getI C (kdec dc_Court_assignReadings 34 rfl) 55 rfl fd_C_Court_53_3 ?_
  refine kw_icmp_ge C (kdec dc_Court_assignReadings 35 rfl) 100 58 (by decide) rfl (fun hc55 => ?_) (fun hc55 => ?_)
  · rw [if_pos hc55] at h
    obtain rfl := Option.some.inj h
    exact kw_sub (L' := [some (kr 50), some (ki x1), some (ki x2), none, none]) ⟨rfl, rfl, rfl, trivial⟩ (hX100 _ rfl)
  · rw [if_neg hc55] at h
    refine kw_aload_n C (kdec dc_Court_assignReadings 36 rfl) rfl 59 rfl rfl ?_
    refine kw_getR C (kdec dc_Court_assignReadings 37 rfl) 62 rfl fd_C_Court_38_50 ?_
    refine kw_getR C (kdec dc_Court_assignReadings 38 rfl) 65 rfl fd_C_Court_42_43 ?_
    refine kw_getR C (kdec dc_Court_assignReadings 39 rfl) 68 rfl fd_C_Court_48_30 ?_
    refine kw_bipush (v := 53) C (kdec dc_Court_assignReadings 40 rfl) 70 rfl (by decide) ⟨by decide, by decide⟩ ?_
    refine kw_iload_n C (kdec dc_Court_assignReadings 41 rfl) rfl 71 rfl rfl ?_
    refine kw_iadd C (kdec dc_Court_assignReadings 42 rfl) 72 rfl ?_
    obtain ⟨hc_7, h⟩ := kchk_h h
    refine kw_iald C (kdec dc_Court_assignReadings 43 rfl) 73 rfl rfl hc_7.1 hc_7.2 ?_
    obtain ⟨x4_8, ex4_8, h⟩ := klet_h h
    refine kw_top ex4_8 ?_
    refine kw_istore (L' := [some (kr 50), some (ki x1), some (ki x2), some (ki x3), some (ki x4_8)]) C (kdec dc_Court_assignReadings 44 rfl) 75 rfl (by decide) rfl rfl ?_
    refine kw_aload_n C (kdec dc_Court_assignReadings 45 rfl) rfl 76 rfl rfl ?_
    refine kw_getR C (kdec dc_Court_assignReadings 46 rfl) 79 rfl fd_C_Court_21_50 ?_
    refine kw_iload_n C (kdec dc_Court_assignReadings 47 rfl) rfl 80 rfl rfl ?_
    refine kw_bipush (v := 8) C (kdec dc_Court_assignReadings 48 rfl) 82 rfl (by decide) ⟨by decide, by decide⟩ ?_
    refine kw_imul C (kdec dc_Court_assignReadings 49 rfl) 83 rfl ?_
    refine kw_iload_n C (kdec dc_Court_assignReadings 50 rfl) rfl 84 rfl rfl ?_
    refine kw_iadd C (kdec dc_Court_assignReadings 51 rfl) 85 rfl ?_
    refine kw_aload_n C (kdec dc_Court_assignReadings 52 rfl) rfl 86 rfl rfl ?_
    refine kw_iload_n C (kdec dc_Court_assignReadings 53 rfl) rfl 87 rfl rfl ?_
    refine kw_iload_n C (kdec dc_Court_assignReadings 54 rfl) rfl 88 rfl rfl ?_
    refine kw_iload C (kdec dc_Court_assignReadings 55 rfl) 90 rfl rfl ?_
    obtain ⟨⟨r_9, σ_10⟩, hg_14, h⟩ := kbind_h h
    dsimp only at h
    refine kw_callV (As := [ki x2, ki x3, ki x4_8]) C (kdec dc_Court_assignReadings 56 rfl) 93 rfl cv_Court_58 rfl rfl (mt_pf_Court_inchesNow_50 l0 hg_14) ⟨rfl, rfl⟩ ⟨Nat.le_of_ble_eq_true rfl, Nat.le_of_ble_eq_true rfl⟩ ⟨Nat.zero_le _, Nat.zero_le _⟩ rfl (Nat.le_of_ble_eq_true rfl) ?_
    change KW x 0 0 Q σ_10 93 [some (kr 50), some (ki x1), some (ki x2), some (ki x3), some (ki x4_8)] [ki r_9, ki (w32 ((w32 (x2 * 8)) + x3)), kr 54]
    obtain ⟨hc_11, h⟩ := kchk_h h
    obtain ⟨σ_12, eσ_12, h⟩ := klet_h h
    refine kw_iast C (kdec dc_Court_assignReadings 57 rfl) 94 rfl rfl hc_11.1 hc_11.2 ?_
    refine kw_sig eσ_12 ?_
    obtain ⟨x3_13, ex3_13, h⟩ := klet_h h
    refine kw_iinc (L' := [some (kr 50), some (ki x1), some (ki x2), some (ki x3_13), some (ki x4_8)]) C (kdec dc_Court_assignReadings 58 rfl) 97 rfl rfl (by decide) rfl (by rw [ex3_13]; rfl) ?_
    refine kw_goto C (kdec dc_Court_assignReadings 59 rfl) 47 (by decide) ?_
    obtain rfl := Option.some.inj h
    exact kw_sub (L' := [some (kr 50), some (ki x1), some (ki x2), some (ki x3_13), none]) ⟨rfl, rfl, rfl, rfl, trivial⟩ (hC _ _ rfl)
theorem lp_pf_Court_assignReadings_50_l47 {x : kX} {l0 : Launch} {Q : State → Prop} (C : kCx x prog_3_method_10_code "PoetFines$Court" none kcl yC 5 l0 R0_pf_Court_assignReadings_50) (x1 : Int) (x2 : Int) {ex : (kM)} (hX100 : ∀ (σ' : kM), ex = σ' → KW x 0 0 Q σ' 100 [some (kr 50), some (ki x1), some (ki x2), none, none] []) (n : Nat) (σ : kM) (x3 : Int) (h : kloop (fun st => pf_Court_assignReadings_50_l47 st.1 x1 x2 st.2) n (σ, x3) = some ex) : KW x 0 0 Q σ 47 [some (kr 50), some (ki x1), some (ki x2), some (ki x3), none] [] :=
  kloop_ind (P := (fun st : kM × Int => KW x 0 0 Q st.1 47 [some (kr 50), some (ki x1), some (ki x2), some (ki (st.2)), none] [])) (fun st out hb hc hx => bd_pf_Court_assignReadings_50_l47 C st.1 x1 x2 st.2 hb (fun a0 a1 e => hc _ e) (fun a0 e => hX100 _ ((hx _ e).symm))) n (σ, x3) h
def pf_Court_assignReadings_50_l4_j43 (σ : kM) (x2 : Int) (s0 : Int) (s1 : Int) : Option ((kM × Int × Int) ⊕ ((kM × Int))) :=
  klet (w32 (s1 + s0)) fun x1_6 =>
  (kloop (fun st => pf_Court_assignReadings_50_l47 st.1 x1_6 x2 st.2) kFuel (σ, 0)).bind fun σ_17 =>
  klet (w32 (x2 + 1)) fun x2_18 =>
  some (Sum.inl (σ_17, x1_6, x2_18))
set_option maxHeartbeats 4000000 in
theorem bd_pf_Court_assignReadings_50_l4_j43 {x : kX} {l0 : Launch} {Q : State → Prop} (C : kCx x prog_3_method_10_code "PoetFines$Court" none kcl yC 5 l0 R0_pf_Court_assignReadings_50) (σ : kM) (x2 : Int) (s0 : Int) (s1 : Int) {out : (kM × Int × Int) ⊕ ((kM × Int))} (h : pf_Court_assignReadings_50_l4_j43 σ x2 s0 s1 = some out) (hC : ∀ (σ' : kM) (x1' : Int) (x2' : Int), out = Sum.inl (σ', x1', x2') → KW x 0 0 Q σ' 4 [some (kr 50), some (ki x1'), some (ki x2'), none, none] []) (hX106 : ∀ (σ' : kM) (x1' : Int), out = Sum.inr (σ', x1') → KW x 0 0 Q σ' 106 [some (kr 50), some (ki x1'), none, none, none] []) : KW x 0 0 Q σ 43 [some (kr 50), none, some (ki x2), none, none] [ki s0, ki s1] := by
  unfold pf_Court_assignReadings_50_l4_j43 at h
  refine kw_iadd C (kdec dc_Court_assignReadings 27 rfl) 44 rfl ?_
  obtain ⟨x1_6, ex1_6, h⟩ := klet_h h
  refine kw_top ex1_6 ?_
  refine kw_istore_n (L' := [some (kr 50), some (ki x1_6), some (ki x2), none, none]) C (kdec dc_Court_assignReadings 28 rfl) rfl 45 rfl (by decide) rfl rfl ?_
  refine kw_iconst C (kdec dc_Court_assignReadings 29 rfl) 46 rfl rfl ⟨by decide, by decide⟩ ?_
  refine kw_istore_n (L' := [some (kr 50), some (ki x1_6), some (ki x2), some (ki 0), none]) C (kdec dc_Court_assignReadings 30 rfl) rfl 47 rfl (by decide) rfl rfl ?_
  obtain ⟨ex_15, hl_16, h⟩ := kbind_h h
  refine lp_pf_Court_assignReadings_50_l47 C x1_6 x2 ?_ kFuel σ 0 hl_16
  · intro σ_17 e
    subst ex_15
    try dsimp only at h
    obtain ⟨x2_18, ex2_18, h⟩ := klet_h h
    refine kw_iinc (L' := [some (kr 50), some (ki x1_6), some (ki x2_18), none, none]) C (kdec dc_Court_assignReadings 60 rfl) 103 rfl rfl (by decide) rfl (by rw [ex2_18]; rfl) ?_
    refine kw_goto C (kdec dc_Court_assignReadings 61 rfl) 4 (by decide) ?_
    obtain rfl := Option.some.inj h
    exact (hC _ _ _ rfl)
def pf_Court_assignReadings_50_l4 (σ : kM) (x1 : Int) (x2 : Int) : Option ((kM × Int × Int) ⊕ ((kM × Int))) :=
  if (σ 3 2) ≤ x2 then
    some (Sum.inr (σ, x1))
  else
    kchk (0 ≤ x2 ∧ x2 < 4) <|
    klet (kst σ 55 (kup (σ 55) x2.toNat ((-1)))) fun σ_2 =>
    kchk (0 ≤ x2 ∧ x2 < 4) <|
    klet (kst σ_2 56 (kup (σ_2 56) x2.toNat ((-1)))) fun σ_4 =>
    (pf_Court_sits_50 σ_4 x2).bind fun r_5 =>
    if r_5 = 0 then
      pf_Court_assignReadings_50_l4_j43 σ_4 x2 1 x1
    else
      pf_Court_assignReadings_50_l4_j43 σ_4 x2 0 x1
set_option maxHeartbeats 4000000 in
theorem bd_pf_Court_assignReadings_50_l4 {x : kX} {l0 : Launch} {Q : State → Prop} (C : kCx x prog_3_method_10_code "PoetFines$Court" none kcl yC 5 l0 R0_pf_Court_assignReadings_50) (σ : kM) (x1 : Int) (x2 : Int) {out : (kM × Int × Int) ⊕ ((kM × Int))} (h : pf_Court_assignReadings_50_l4 σ x1 x2 = some out) (hC : ∀ (σ' : kM) (x1' : Int) (x2' : Int), out = Sum.inl (σ', x1', x2') → KW x 0 0 Q σ' 4 [some (kr 50), some (ki x1'), some (ki x2'), none, none] []) (hX106 : ∀ (σ' : kM) (x1' : Int), out = Sum.inr (σ', x1') → KW x 0 0 Q σ' 106 [some (kr 50), some (ki x1'), none, none, none] []) : KW x 0 0 Q σ 4 [some (kr 50), some (ki x1), some (ki x2), none, none] [] := by
  unfold pf_Court_assignReadings_50_l4 at h
  refine kw_iload_n C (kdec dc_Court_assignReadings 4 rfl) rfl 5 rfl rfl ?_
  refine kw_aload_n C (kdec dc_Court_assignReadings 5 rfl) rfl 6 rfl rfl ?_
  refine kw_getR C (kdec dc_Court_assignReadings 6 rfl) 9 rfl fd_C_Court_34_50 ?_
  refine kw_getI C (kdec dc_Court_assignReadings 7 rfl) 12 rfl fd_C_Court_95_3 ?_
  refine kw_icmp_ge C (kdec dc_Court_assignReadings 8 rfl) 106 15 (by decide) rfl (fun hc12 => ?_) (fun hc12 => ?_)
  · rw [if_pos hc12] at h
    obtain rfl := Option.some.inj h
    exact kw_sub (L' := [some (kr 50), some (ki x1), none, none, none]) ⟨rfl, rfl, trivial⟩ (hX106 _ _ rfl)
  · rw [if_neg hc12] at h
    refine kw_aload_n C (kdec dc_Court_assignReadings 9 rfl) rfl 16 rfl rfl ?_
    refine kw_getR C (kdec dc_Court_assignReadings 10 rfl) 19 rfl fd_C_Court_24_50 ?_
    refine kw_iload_n C (kdec dc_Court_assignReadings 11 rfl) rfl 20 rfl rfl ?_
    refine kw_iconst C (kdec dc_Court_assignReadings 12 rfl) 21 rfl rfl ⟨by decide, by decide⟩ ?_
    obtain ⟨hc_1, h⟩ := kchk_h h
    obtain ⟨σ_2, eσ_2, h⟩ := klet_h h
    refine kw_iast C (kdec dc_Court_assignReadings 13 rfl) 22 rfl rfl hc_1.1 hc_1.2 ?_
    refine kw_sig eσ_2 ?_
    refine kw_aload_n C (kdec dc_Court_assignReadings 14 rfl) rfl 23 rfl rfl ?_
    refine kw_getR C (kdec dc_Court_assignReadings 15 rfl) 26 rfl fd_C_Court_27_50 ?_
    refine kw_iload_n C (kdec dc_Court_assignReadings 16 rfl) rfl 27 rfl rfl ?_
    refine kw_iconst C (kdec dc_Court_assignReadings 17 rfl) 28 rfl rfl ⟨by decide, by decide⟩ ?_
    obtain ⟨hc_3, h⟩ := kchk_h h
    obtain ⟨σ_4, eσ_4, h⟩ := klet_h h
    refine kw_iast C (kdec dc_Court_assignReadings 18 rfl) 29 rfl rfl hc_3.1 hc_3.2 ?_
    refine kw_sig eσ_4 ?_
    refine kw_iload_n C (kdec dc_Court_assignReadings 19 rfl) rfl 30 rfl rfl ?_
    refine kw_aload_n C (kdec dc_Court_assignReadings 20 rfl) rfl 31 rfl rfl ?_
    refine kw_iload_n C (kdec dc_Court_assignReadings 21 rfl) rfl 32 rfl rfl ?_
    obtain ⟨r_5, hg_19, h⟩ := kbind_h h
    refine kw_callV (As := [ki x2]) C (kdec dc_Court_assignReadings 22 rfl) 35 rfl cv_Court_98 rfl rfl (mt_pf_Court_sits_50 l0 hg_19) ⟨rfl, rfl⟩ ⟨Nat.le_of_ble_eq_true rfl, Nat.le_of_ble_eq_true rfl⟩ ⟨Nat.zero_le _, Nat.zero_le _⟩ rfl (Nat.le_of_ble_eq_true rfl) ?_
    change KW x 0 0 Q σ_4 35 [some (kr 50), some (ki x1), some (ki x2), none, none] [ki r_5, ki x1]
    refine kw_if_eq C (kdec dc_Court_assignReadings 23 rfl) 42 38 (by decide) rfl (fun hc35 => ?_) (fun hc35 => ?_)
    · rw [if_pos hc35] at h
      refine kw_iconst C (kdec dc_Court_assignReadings 26 rfl) 43 rfl rfl ⟨by decide, by decide⟩ ?_
      exact kw_sub (L' := [some (kr 50), none, some (ki x2), none, none]) ⟨rfl, rfl, trivial⟩ (bd_pf_Court_assignReadings_50_l4_j43 C σ_4 x2 1 x1 h hC hX106)
    · rw [if_neg hc35] at h
      refine kw_iconst C (kdec dc_Court_assignReadings 24 rfl) 39 rfl rfl ⟨by decide, by decide⟩ ?_
      refine kw_goto C (kdec dc_Court_assignReadings 25 rfl) 43 (by decide) ?_
      exact kw_sub (L' := [some (kr 50), none, some (ki x2), none, none]) ⟨rfl, rfl, trivial⟩ (bd_pf_Court_assignReadings_50_l4_j43 C σ_4 x2 0 x1 h hC hX106)
theorem lp_pf_Court_assignReadings_50_l4 {x : kX} {l0 : Launch} {Q : State → Prop} (C : kCx x prog_3_method_10_code "PoetFines$Court" none kcl yC 5 l0 R0_pf_Court_assignReadings_50) {ex : (kM × Int)} (hX106 : ∀ (σ' : kM) (x1' : Int), ex = (σ', x1') → KW x 0 0 Q σ' 106 [some (kr 50), some (ki x1'), none, none, none] []) (n : Nat) (σ : kM) (x1 : Int) (x2 : Int) (h : kloop (fun st => pf_Court_assignReadings_50_l4 st.1 st.2.1 st.2.2) n (σ, x1, x2) = some ex) : KW x 0 0 Q σ 4 [some (kr 50), some (ki x1), some (ki x2), none, none] [] :=
  kloop_ind (P := (fun st : kM × Int × Int => KW x 0 0 Q st.1 4 [some (kr 50), some (ki (st.2.1)), some (ki (st.2.2)), none, none] [])) (fun st out hb hc hx => bd_pf_Court_assignReadings_50_l4 C st.1 st.2.1 st.2.2 hb (fun a0 a1 a2 e => hc _ e) (fun a0 a1 e => hX106 _ _ ((hx _ e).symm))) n (σ, x1, x2) h
def pf_Court_assignReadings_50 (σ : kM) : Option (kM) :=
  (kloop (fun st => pf_Court_assignReadings_50_l4 st.1 st.2.1 st.2.2) kFuel (σ, 0, 0)).bind fun (σ_22, x1_23) =>
  klet (kst σ_22 50 (kup (σ_22 50) 8 ((-1)))) fun σ_24 =>
  (pf_gA 8 0 σ_24 0 0 (max (w32 (x1_23 - (σ_24 3 1))) 0) 0).bind fun σ_25 =>
  some σ_25
set_option maxHeartbeats 4000000 in
theorem bd_pf_Court_assignReadings_50 {x : kX} {l0 : Launch} {Q : State → Prop} (C : kCx x prog_3_method_10_code "PoetFines$Court" none kcl yC 5 l0 R0_pf_Court_assignReadings_50) (σ : kM) {out : kM} (h : pf_Court_assignReadings_50 σ = some out) (hR : ∀ (τ : kM), out = τ → Q = kQ x none τ 0 0) : KW x 0 0 Q σ 0 [some (kr 50), none, none, none, none] [] := by
  unfold pf_Court_assignReadings_50 at h
  refine kw_iconst C (kdec dc_Court_assignReadings 0 rfl) 1 rfl rfl ⟨by decide, by decide⟩ ?_
  refine kw_istore_n (L' := [some (kr 50), some (ki 0), none, none, none]) C (kdec dc_Court_assignReadings 1 rfl) rfl 2 rfl (by decide) rfl rfl ?_
  refine kw_iconst C (kdec dc_Court_assignReadings 2 rfl) 3 rfl rfl ⟨by decide, by decide⟩ ?_
  refine kw_istore_n (L' := [some (kr 50), some (ki 0), some (ki 0), none, none]) C (kdec dc_Court_assignReadings 3 rfl) rfl 4 rfl (by decide) rfl rfl ?_
  obtain ⟨ex_20, hl_21, h⟩ := kbind_h h
  refine lp_pf_Court_assignReadings_50_l4 C ?_ kFuel σ 0 0 hl_21
  · intro σ_22 x1_23 e
    subst ex_20
    try dsimp only at h
    refine kw_aload_n C (kdec dc_Court_assignReadings 62 rfl) rfl 107 rfl rfl ?_
    refine kw_iconst C (kdec dc_Court_assignReadings 63 rfl) 108 rfl rfl ⟨by decide, by decide⟩ ?_
    obtain ⟨σ_24, eσ_24, h⟩ := klet_h h
    refine kw_putI C (kdec dc_Court_assignReadings 64 rfl) 111 rfl fp_C_Court_30_50 ?_
    refine kw_sig eσ_24 ?_
    refine kw_aload_n C (kdec dc_Court_assignReadings 65 rfl) rfl 112 rfl rfl ?_
    refine kw_iconst C (kdec dc_Court_assignReadings 66 rfl) 113 rfl rfl ⟨by decide, by decide⟩ ?_
    refine kw_iconst C (kdec dc_Court_assignReadings 67 rfl) 114 rfl rfl ⟨by decide, by decide⟩ ?_
    refine kw_iload_n C (kdec dc_Court_assignReadings 68 rfl) rfl 115 rfl rfl ?_
    refine kw_aload_n C (kdec dc_Court_assignReadings 69 rfl) rfl 116 rfl rfl ?_
    refine kw_getR C (kdec dc_Court_assignReadings 70 rfl) 119 rfl fd_C_Court_34_50 ?_
    refine kw_getI C (kdec dc_Court_assignReadings 71 rfl) 122 rfl fd_C_Court_53_3 ?_
    refine kw_isub C (kdec dc_Court_assignReadings 72 rfl) 123 rfl ?_
    refine kw_iconst C (kdec dc_Court_assignReadings 73 rfl) 124 rfl rfl ⟨by decide, by decide⟩ ?_
    refine kw_max C (kdec dc_Court_assignReadings 74 rfl) 127 rfl cm_Court_102 ⟨Nat.le_of_ble_eq_true rfl, Nat.le_of_ble_eq_true rfl⟩ ⟨Nat.zero_le _, Nat.zero_le _⟩ (Nat.le_of_ble_eq_true rfl) ?_
    refine kw_iconst C (kdec dc_Court_assignReadings 75 rfl) 128 rfl rfl ⟨by decide, by decide⟩ ?_
    obtain ⟨σ_25, hg_26, h⟩ := kbind_h h
    refine kw_callV (As := [ki 0, ki 0, ki (max (w32 (x1_23 - (σ_24 3 1))) 0), ki 0]) C (kdec dc_Court_assignReadings 76 rfl) 131 rfl cv_Court_107 rfl rfl (mt_gA_0 l0 hg_26) ⟨rfl, rfl⟩ ⟨Nat.le_of_ble_eq_true rfl, Nat.le_of_ble_eq_true rfl⟩ ⟨Nat.zero_le _, Nat.zero_le _⟩ rfl (Nat.le_of_ble_eq_true rfl) ?_
    change KW x 0 0 Q σ_25 131 [some (kr 50), some (ki x1_23), none, none, none] []
    obtain rfl := Option.some.inj h
    exact kw_Q (hR _ rfl) (kw_return C (kdec dc_Court_assignReadings 77 rfl))
theorem mt_pf_Court_assignReadings_50 (l0 : Launch) {σ : kM} {τ : kM} (h : pf_Court_assignReadings_50 σ = some τ) : kMet l0 ky_Court_assignReadings prog_3_method_10_code 5 none R0_pf_Court_assignReadings_50 kcl yC σ [kr 50] none τ := kMet.of' [some (kr 50), none, none, none, none] (by decide) (Nat.le_of_ble_eq_true rfl) ⟨rfl, trivial⟩ (fun x C => bd_pf_Court_assignReadings_50 C σ h (fun τ e => by subst e; rfl))

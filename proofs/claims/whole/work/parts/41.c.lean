def R0_pf_P_putBytes_0 : Room := ({ frames := 0, cells := 0, slots := 0, locals := 0 } : Room)
def pf_P_putBytes_0_l3 (σ : kM) (x1 : Int) (x2 : Int) : Option ((kM × Int) ⊕ ((kM))) :=
  if x2 < 0 then
    some (Sum.inr σ)
  else
    if 700 ≤ (σ 0 1) then
      some (Sum.inr σ)
    else
      kchk (0 ≤ (σ 0 1) ∧ (σ 0 1) < 700) <|
      klet (kst σ 1 (kup (σ 1) ((σ 0 1).toNat) (kb8s (kb8 (kushr x1 x2))))) fun σ_2 =>
      klet (kst σ_2 0 (kup (σ_2 0) 1 (w32 ((σ_2 0 1) + 1)))) fun σ_3 =>
      klet (w32 (x2 + (-8))) fun x2_4 =>
      some (Sum.inl (σ_3, x2_4))
set_option maxHeartbeats 4000000 in
theorem bd_pf_P_putBytes_0_l3 {x : kX} {l0 : Launch} {Q : State → Prop} (C : kCx x prog_1_method_40_code "PoetFines" none kcl yC 3 l0 R0_pf_P_putBytes_0) (σ : kM) (x1 : Int) (x2 : Int) {out : (kM × Int) ⊕ ((kM))} (h : pf_P_putBytes_0_l3 σ x1 x2 = some out) (hC : ∀ (σ' : kM) (x2' : Int), out = Sum.inl (σ', x2') → KW x 0 0 Q σ' 3 [some (kr 0), some (ki x1), some (ki x2')] []) (hX46 : ∀ (σ' : kM), out = Sum.inr σ' → KW x 0 0 Q σ' 46 [none, none, none] []) : KW x 0 0 Q σ 3 [some (kr 0), some (ki x1), some (ki x2)] [] := by
  unfold pf_P_putBytes_0_l3 at h
  refine kw_iload_n C (kdec dc_P_putBytes 2 rfl) rfl 4 rfl rfl ?_
  refine kw_if_lt C (kdec dc_P_putBytes 3 rfl) 46 7 (by decide) rfl (fun hc4 => ?_) (fun hc4 => ?_)
  · rw [if_pos hc4] at h
    obtain rfl := Option.some.inj h
    exact kw_sub (L' := [none, none, none]) trivial (hX46 _ rfl)
  · rw [if_neg hc4] at h
    refine kw_aload_n C (kdec dc_P_putBytes 4 rfl) rfl 8 rfl rfl ?_
    refine kw_getI C (kdec dc_P_putBytes 5 rfl) 11 rfl fd_C_P_13_0 ?_
    refine kw_sipush (v := 700) C (kdec dc_P_putBytes 6 rfl) 14 rfl (by decide) ⟨by decide, by decide⟩ ?_
    refine kw_icmp_ge C (kdec dc_P_putBytes 7 rfl) 46 17 (by decide) rfl (fun hc14 => ?_) (fun hc14 => ?_)
    · rw [if_pos hc14] at h
      obtain rfl := Option.some.inj h
      exact kw_sub (L' := [none, none, none]) trivial (hX46 _ rfl)
    · rw [if_neg hc14] at h
      refine kw_aload_n C (kdec dc_P_putBytes 8 rfl) rfl 18 rfl rfl ?_
      refine kw_getR C (kdec dc_P_putBytes 9 rfl) 21 rfl fd_C_P_9_0 ?_
      refine kw_aload_n C (kdec dc_P_putBytes 10 rfl) rfl 22 rfl rfl ?_
      refine kw_getI C (kdec dc_P_putBytes 11 rfl) 25 rfl fd_C_P_13_0 ?_
      refine kw_iload_n C (kdec dc_P_putBytes 12 rfl) rfl 26 rfl rfl ?_
      refine kw_iload_n C (kdec dc_P_putBytes 13 rfl) rfl 27 rfl rfl ?_
      refine kw_iushr C (kdec dc_P_putBytes 14 rfl) 28 rfl ?_
      refine kw_i2b C (kdec dc_P_putBytes 15 rfl) 29 rfl ?_
      obtain ⟨hc_1, h⟩ := kchk_h h
      obtain ⟨σ_2, eσ_2, h⟩ := klet_h h
      refine kw_bast C (kdec dc_P_putBytes 16 rfl) 30 rfl rfl hc_1.1 hc_1.2 ?_
      refine kw_sig eσ_2 ?_
      refine kw_aload_n C (kdec dc_P_putBytes 17 rfl) rfl 31 rfl rfl ?_
      refine kw_dup C (kdec dc_P_putBytes 18 rfl) 32 rfl rfl ?_
      refine kw_getI C (kdec dc_P_putBytes 19 rfl) 35 rfl fd_C_P_13_0 ?_
      refine kw_iconst C (kdec dc_P_putBytes 20 rfl) 36 rfl rfl ⟨by decide, by decide⟩ ?_
      refine kw_iadd C (kdec dc_P_putBytes 21 rfl) 37 rfl ?_
      obtain ⟨σ_3, eσ_3, h⟩ := klet_h h
      refine kw_putI C (kdec dc_P_putBytes 22 rfl) 40 rfl fp_C_P_13_0 ?_
      refine kw_sig eσ_3 ?_
      obtain ⟨x2_4, ex2_4, h⟩ := klet_h h
      refine kw_iinc (L' := [some (kr 0), some (ki x1), some (ki x2_4)]) C (kdec dc_P_putBytes 23 rfl) 43 rfl rfl (by decide) rfl (by rw [ex2_4]; rfl) ?_
      refine kw_goto C (kdec dc_P_putBytes 24 rfl) 3 (by decide) ?_
      obtain rfl := Option.some.inj h
      exact (hC _ _ rfl)
theorem lp_pf_P_putBytes_0_l3 {x : kX} {l0 : Launch} {Q : State → Prop} (C : kCx x prog_1_method_40_code "PoetFines" none kcl yC 3 l0 R0_pf_P_putBytes_0) (x1 : Int) {ex : (kM)} (hX46 : ∀ (σ' : kM), ex = σ' → KW x 0 0 Q σ' 46 [none, none, none] []) (n : Nat) (σ : kM) (x2 : Int) (h : kloop (fun st => pf_P_putBytes_0_l3 st.1 x1 st.2) n (σ, x2) = some ex) : KW x 0 0 Q σ 3 [some (kr 0), some (ki x1), some (ki x2)] [] :=
  kloop_ind (P := (fun st : kM × Int => KW x 0 0 Q st.1 3 [some (kr 0), some (ki x1), some (ki (st.2))] [])) (fun st out hb hc hx => bd_pf_P_putBytes_0_l3 C st.1 x1 st.2 hb (fun a0 a1 e => hc _ e) (fun a0 e => hX46 _ ((hx _ e).symm))) n (σ, x2) h
def pf_P_putBytes_0 (σ : kM) (x1 : Int) : Option (kM) :=
  (kloop (fun st => pf_P_putBytes_0_l3 st.1 x1 st.2) kFuel (σ, 24)).bind fun σ_7 =>
  some σ_7
set_option maxHeartbeats 4000000 in
theorem bd_pf_P_putBytes_0 {x : kX} {l0 : Launch} {Q : State → Prop} (C : kCx x prog_1_method_40_code "PoetFines" none kcl yC 3 l0 R0_pf_P_putBytes_0) (σ : kM) (x1 : Int) {out : kM} (h : pf_P_putBytes_0 σ x1 = some out) (hR : ∀ (τ : kM), out = τ → Q = kQ x none τ 0 0) : KW x 0 0 Q σ 0 [some (kr 0), some (ki x1), none] [] := by
  unfold pf_P_putBytes_0 at h
  refine kw_bipush (v := 24) C (kdec dc_P_putBytes 0 rfl) 2 rfl (by decide) ⟨by decide, by decide⟩ ?_
  refine kw_istore_n (L' := [some (kr 0), some (ki x1), some (ki 24)]) C (kdec dc_P_putBytes 1 rfl) rfl 3 rfl (by decide) rfl rfl ?_
  obtain ⟨ex_5, hl_6, h⟩ := kbind_h h
  refine lp_pf_P_putBytes_0_l3 C x1 ?_ kFuel σ 24 hl_6
  · intro σ_7 e
    subst ex_5
    try dsimp only at h
    obtain rfl := Option.some.inj h
    exact kw_Q (hR _ rfl) (kw_return C (kdec dc_P_putBytes 25 rfl))
theorem mt_pf_P_putBytes_0 (l0 : Launch) {σ : kM} {x1 : Int} {τ : kM} (h : pf_P_putBytes_0 σ x1 = some τ) : kMet l0 ky_P_putBytes prog_1_method_40_code 3 none R0_pf_P_putBytes_0 kcl yC σ [kr 0, ki x1] none τ := kMet.of' [some (kr 0), some (ki x1), none] (by decide) (Nat.le_of_ble_eq_true rfl) ⟨rfl, rfl, trivial⟩ (fun x C => bd_pf_P_putBytes_0 C σ x1 h (fun τ e => by subst e; rfl))
def R0_pf_P_feed_0 : Room := ({ frames := 1, cells := 0, slots := 0, locals := 22 } : Room)
def pf_P_feed_0 (σ : kM) (x1 : Int) (x2 : Int) (x3 : Int) (x4 : Int) (x5 : Int) : Option (Int × kM) :=
  if (w32 ((σ 0 1) + 20)) ≤ 700 then
    (pf_P_putBytes_0 σ x1).bind fun σ_1 =>
    (pf_P_putBytes_0 σ_1 x2).bind fun σ_2 =>
    (pf_P_putBytes_0 σ_2 x3).bind fun σ_3 =>
    (pf_P_putBytes_0 σ_3 x4).bind fun σ_4 =>
    (pf_P_putBytes_0 σ_4 x5).bind fun σ_5 =>
    some ((σ_5 0 1, σ_5))
  else
    some (((-1), σ))
set_option maxHeartbeats 4000000 in
theorem bd_pf_P_feed_0 {x : kX} {l0 : Launch} {Q : State → Prop} (C : kCx x prog_1_method_2_code "PoetFines" (some .int) kcl yC 6 l0 R0_pf_P_feed_0) (σ : kM) (x1 : Int) (x2 : Int) (x3 : Int) (x4 : Int) (x5 : Int) {out : Int × kM} (h : pf_P_feed_0 σ x1 x2 x3 x4 x5 = some out) (hR : ∀ (r : Int) (τ : kM), out = (r, τ) → Q = kQ x (some (ki r)) τ 0 0) : KW x 0 0 Q σ 0 [some (kr 0), some (ki x1), some (ki x2), some (ki x3), some (ki x4), some (ki x5)] [] := by
  unfold pf_P_feed_0 at h
  refine kw_aload_n C (kdec dc_P_feed 0 rfl) rfl 1 rfl rfl ?_
  refine kw_getI C (kdec dc_P_feed 1 rfl) 4 rfl fd_C_P_13_0 ?_
  refine kw_bipush (v := 20) C (kdec dc_P_feed 2 rfl) 6 rfl (by decide) ⟨by decide, by decide⟩ ?_
  refine kw_iadd C (kdec dc_P_feed 3 rfl) 7 rfl ?_
  refine kw_sipush (v := 700) C (kdec dc_P_feed 4 rfl) 10 rfl (by decide) ⟨by decide, by decide⟩ ?_
  refine kw_icmp_le C (kdec dc_P_feed 5 rfl) 15 13 (by decide) rfl (fun hc10 => ?_) (fun hc10 => ?_)
  · rw [if_pos hc10] at h
    refine kw_aload_n C (kdec dc_P_feed 8 rfl) rfl 16 rfl rfl ?_
    refine kw_iload_n C (kdec dc_P_feed 9 rfl) rfl 17 rfl rfl ?_
    obtain ⟨σ_1, hg_10, h⟩ := kbind_h h
    refine kw_callV (As := [ki x1]) C (kdec dc_P_feed 10 rfl) 20 rfl cv_P_85 rfl rfl (mt_pf_P_putBytes_0 l0 hg_10) ⟨rfl, rfl⟩ ⟨Nat.le_of_ble_eq_true rfl, Nat.le_of_ble_eq_true rfl⟩ ⟨Nat.zero_le _, Nat.zero_le _⟩ rfl (Nat.le_of_ble_eq_true rfl) ?_
    change KW x 0 0 Q σ_1 20 [some (kr 0), some (ki x1), some (ki x2), some (ki x3), some (ki x4), some (ki x5)] []
    refine kw_aload_n C (kdec dc_P_feed 11 rfl) rfl 21 rfl rfl ?_
    refine kw_iload_n C (kdec dc_P_feed 12 rfl) rfl 22 rfl rfl ?_
    obtain ⟨σ_2, hg_9, h⟩ := kbind_h h
    refine kw_callV (As := [ki x2]) C (kdec dc_P_feed 13 rfl) 25 rfl cv_P_85 rfl rfl (mt_pf_P_putBytes_0 l0 hg_9) ⟨rfl, rfl⟩ ⟨Nat.le_of_ble_eq_true rfl, Nat.le_of_ble_eq_true rfl⟩ ⟨Nat.zero_le _, Nat.zero_le _⟩ rfl (Nat.le_of_ble_eq_true rfl) ?_
    change KW x 0 0 Q σ_2 25 [some (kr 0), some (ki x1), some (ki x2), some (ki x3), some (ki x4), some (ki x5)] []
    refine kw_aload_n C (kdec dc_P_feed 14 rfl) rfl 26 rfl rfl ?_
    refine kw_iload_n C (kdec dc_P_feed 15 rfl) rfl 27 rfl rfl ?_
    obtain ⟨σ_3, hg_8, h⟩ := kbind_h h
    refine kw_callV (As := [ki x3]) C (kdec dc_P_feed 16 rfl) 30 rfl cv_P_85 rfl rfl (mt_pf_P_putBytes_0 l0 hg_8) ⟨rfl, rfl⟩ ⟨Nat.le_of_ble_eq_true rfl, Nat.le_of_ble_eq_true rfl⟩ ⟨Nat.zero_le _, Nat.zero_le _⟩ rfl (Nat.le_of_ble_eq_true rfl) ?_
    change KW x 0 0 Q σ_3 30 [some (kr 0), some (ki x1), some (ki x2), some (ki x3), some (ki x4), some (ki x5)] []
    refine kw_aload_n C (kdec dc_P_feed 17 rfl) rfl 31 rfl rfl ?_
    refine kw_iload C (kdec dc_P_feed 18 rfl) 33 rfl rfl ?_
    obtain ⟨σ_4, hg_7, h⟩ := kbind_h h
    refine kw_callV (As := [ki x4]) C (kdec dc_P_feed 19 rfl) 36 rfl cv_P_85 rfl rfl (mt_pf_P_putBytes_0 l0 hg_7) ⟨rfl, rfl⟩ ⟨Nat.le_of_ble_eq_true rfl, Nat.le_of_ble_eq_true rfl⟩ ⟨Nat.zero_le _, Nat.zero_le _⟩ rfl (Nat.le_of_ble_eq_true rfl) ?_
    change KW x 0 0 Q σ_4 36 [some (kr 0), some (ki x1), some (ki x2), some (ki x3), some (ki x4), some (ki x5)] []
    refine kw_aload_n C (kdec dc_P_feed 20 rfl) rfl 37 rfl rfl ?_
    refine kw_iload C (kdec dc_P_feed 21 rfl) 39 rfl rfl ?_
    obtain ⟨σ_5, hg_6, h⟩ := kbind_h h
    refine kw_callV (As := [ki x5]) C (kdec dc_P_feed 22 rfl) 42 rfl cv_P_85 rfl rfl (mt_pf_P_putBytes_0 l0 hg_6) ⟨rfl, rfl⟩ ⟨Nat.le_of_ble_eq_true rfl, Nat.le_of_ble_eq_true rfl⟩ ⟨Nat.zero_le _, Nat.zero_le _⟩ rfl (Nat.le_of_ble_eq_true rfl) ?_
    change KW x 0 0 Q σ_5 42 [some (kr 0), some (ki x1), some (ki x2), some (ki x3), some (ki x4), some (ki x5)] []
    refine kw_aload_n C (kdec dc_P_feed 23 rfl) rfl 43 rfl rfl ?_
    refine kw_getI C (kdec dc_P_feed 24 rfl) 46 rfl fd_C_P_13_0 ?_
    obtain rfl := Option.some.inj h
    exact kw_Q (hR _ _ rfl) (kw_ireturn C (kdec dc_P_feed 25 rfl))
  · rw [if_neg hc10] at h
    refine kw_iconst C (kdec dc_P_feed 6 rfl) 14 rfl rfl ⟨by decide, by decide⟩ ?_
    obtain rfl := Option.some.inj h
    exact kw_Q (hR _ _ rfl) (kw_ireturn C (kdec dc_P_feed 7 rfl))
theorem mt_pf_P_feed_0 (l0 : Launch) {σ : kM} {x1 : Int} {x2 : Int} {x3 : Int} {x4 : Int} {x5 : Int} {r : Int} {τ : kM} (h : pf_P_feed_0 σ x1 x2 x3 x4 x5 = some (r, τ)) : kMet l0 ky_P_feed prog_1_method_2_code 6 (some .int) R0_pf_P_feed_0 kcl yC σ [kr 0, ki x1, ki x2, ki x3, ki x4, ki x5] (some (ki r)) τ := kMet.of' [some (kr 0), some (ki x1), some (ki x2), some (ki x3), some (ki x4), some (ki x5)] (by decide) (Nat.le_of_ble_eq_true rfl) ⟨rfl, rfl, rfl, rfl, rfl, rfl, trivial⟩ (fun x C => bd_pf_P_feed_0 C σ x1 x2 x3 x4 x5 h (fun r τ e => by cases e; rfl))
def R0_pf_Rules_clear_17 : Room := ({ frames := 0, cells := 0, slots := 0, locals := 0 } : Room)
def pf_Rules_clear_17_l7 (σ : kM) (x1 : Int) : Option ((kM × Int) ⊕ ((kM))) :=
  if 3 ≤ x1 then
    some (Sum.inr σ)
  else
    kchk (0 ≤ x1 ∧ x1 < 3) <|
    klet (kst σ 19 (kup (σ 19) x1.toNat 0)) fun σ_3 =>
    kchk (0 ≤ x1 ∧ x1 < 3) <|
    klet (kst σ_3 20 (kup (σ_3 20) x1.toNat 0)) fun σ_5 =>
    klet (w32 (x1 + 1)) fun x1_6 =>
    some (Sum.inl (σ_5, x1_6))
set_option maxHeartbeats 4000000 in
theorem bd_pf_Rules_clear_17_l7 {x : kX} {l0 : Launch} {Q : State → Prop} (C : kCx x prog_7_method_2_code "PoetFines$Rules" none kcl yC 2 l0 R0_pf_Rules_clear_17) (σ : kM) (x1 : Int) {out : (kM × Int) ⊕ ((kM))} (h : pf_Rules_clear_17_l7 σ x1 = some out) (hC : ∀ (σ' : kM) (x1' : Int), out = Sum.inl (σ', x1') → KW x 0 0 Q σ' 7 [some (kr 17), some (ki x1')] []) (hX32 : ∀ (σ' : kM), out = Sum.inr σ' → KW x 0 0 Q σ' 32 [none, none] []) : KW x 0 0 Q σ 7 [some (kr 17), some (ki x1)] [] := by
  unfold pf_Rules_clear_17_l7 at h
  refine kw_iload_n C (kdec dc_Rules_clear 5 rfl) rfl 8 rfl rfl ?_
  refine kw_iconst C (kdec dc_Rules_clear 6 rfl) 9 rfl rfl ⟨by decide, by decide⟩ ?_
  refine kw_icmp_ge C (kdec dc_Rules_clear 7 rfl) 32 12 (by decide) rfl (fun hc9 => ?_) (fun hc9 => ?_)
  · rw [if_pos hc9] at h
    obtain rfl := Option.some.inj h
    exact kw_sub (L' := [none, none]) trivial (hX32 _ rfl)
  · rw [if_neg hc9] at h
    refine kw_aload_n C (kdec dc_Rules_clear 8 rfl) rfl 13 rfl rfl ?_
    refine kw_getR C (kdec dc_Rules_clear 9 rfl) 16 rfl fd_C_Rules_19_17 ?_
    refine kw_iload_n C (kdec dc_Rules_clear 10 rfl) rfl 17 rfl rfl ?_
    refine kw_iconst C (kdec dc_Rules_clear 11 rfl) 18 rfl rfl ⟨by decide, by decide⟩ ?_
    obtain ⟨hc_2, h⟩ := kchk_h h
    obtain ⟨σ_3, eσ_3, h⟩ := klet_h h
    refine kw_iast C (kdec dc_Rules_clear 12 rfl) 19 rfl rfl hc_2.1 hc_2.2 ?_
    refine kw_sig eσ_3 ?_
    refine kw_aload_n C (kdec dc_Rules_clear 13 rfl) rfl 20 rfl rfl ?_
    refine kw_getR C (kdec dc_Rules_clear 14 rfl) 23 rfl fd_C_Rules_22_17 ?_
    refine kw_iload_n C (kdec dc_Rules_clear 15 rfl) rfl 24 rfl rfl ?_
    refine kw_iconst C (kdec dc_Rules_clear 16 rfl) 25 rfl rfl ⟨by decide, by decide⟩ ?_
    obtain ⟨hc_4, h⟩ := kchk_h h
    obtain ⟨σ_5, eσ_5, h⟩ := klet_h h
    refine kw_iast C (kdec dc_Rules_clear 17 rfl) 26 rfl rfl hc_4.1 hc_4.2 ?_
    refine kw_sig eσ_5 ?_
    obtain ⟨x1_6, ex1_6, h⟩ := klet_h h
    refine kw_iinc (L' := [some (kr 17), some (ki x1_6)]) C (kdec dc_Rules_clear 18 rfl) 29 rfl rfl (by decide) rfl (by rw [ex1_6]; rfl) ?_
    refine kw_goto C (kdec dc_Rules_clear 19 rfl) 7 (by decide) ?_
    obtain rfl := Option.some.inj h
    exact (hC _ _ rfl)
theorem lp_pf_Rules_clear_17_l7 {x : kX} {l0 : Launch} {Q : State → Prop} (C : kCx x prog_7_method_2_code "PoetFines$Rules" none kcl yC 2 l0 R0_pf_Rules_clear_17) {ex : (kM)} (hX32 : ∀ (σ' : kM), ex = σ' → KW x 0 0 Q σ' 32 [none, none] []) (n : Nat) (σ : kM) (x1 : Int) (h : kloop (fun st => pf_Rules_clear_17_l7 st.1 st.2) n (σ, x1) = some ex) : KW x 0 0 Q σ 7 [some (kr 17), some (ki x1)] [] :=
  kloop_ind (P := (fun st : kM × Int => KW x 0 0 Q st.1 7 [some (kr 17), some (ki (st.2))] [])) (fun st out hb hc hx => bd_pf_Rules_clear_17_l7 C st.1 st.2 hb (fun a0 a1 e => hc _ e) (fun a0 e => hX32 _ ((hx _ e).symm))) n (σ, x1) h
def pf_Rules_clear_17 (σ : kM) : Option (kM) :=
  klet (kst σ 17 (kup (σ 17) 1 0)) fun σ_1 =>
  (kloop (fun st => pf_Rules_clear_17_l7 st.1 st.2) kFuel (σ_1, 0)).bind fun σ_9 =>
  some σ_9
set_option maxHeartbeats 4000000 in
theorem bd_pf_Rules_clear_17 {x : kX} {l0 : Launch} {Q : State → Prop} (C : kCx x prog_7_method_2_code "PoetFines$Rules" none kcl yC 2 l0 R0_pf_Rules_clear_17) (σ : kM) {out : kM} (h : pf_Rules_clear_17 σ = some out) (hR : ∀ (τ : kM), out = τ → Q = kQ x none τ 0 0) : KW x 0 0 Q σ 0 [some (kr 17), none] [] := by
  unfold pf_Rules_clear_17 at h
  refine kw_aload_n C (kdec dc_Rules_clear 0 rfl) rfl 1 rfl rfl ?_
  refine kw_iconst C (kdec dc_Rules_clear 1 rfl) 2 rfl rfl ⟨by decide, by decide⟩ ?_
  obtain ⟨σ_1, eσ_1, h⟩ := klet_h h
  refine kw_putI C (kdec dc_Rules_clear 2 rfl) 5 rfl fp_C_Rules_15_17 ?_
  refine kw_sig eσ_1 ?_
  refine kw_iconst C (kdec dc_Rules_clear 3 rfl) 6 rfl rfl ⟨by decide, by decide⟩ ?_
  refine kw_istore_n (L' := [some (kr 17), some (ki 0)]) C (kdec dc_Rules_clear 4 rfl) rfl 7 rfl (by decide) rfl rfl ?_
  obtain ⟨ex_7, hl_8, h⟩ := kbind_h h
  refine lp_pf_Rules_clear_17_l7 C ?_ kFuel σ_1 0 hl_8
  · intro σ_9 e
    subst ex_7
    try dsimp only at h
    obtain rfl := Option.some.inj h
    exact kw_Q (hR _ rfl) (kw_return C (kdec dc_Rules_clear 20 rfl))
theorem mt_pf_Rules_clear_17 (l0 : Launch) {σ : kM} {τ : kM} (h : pf_Rules_clear_17 σ = some τ) : kMet l0 ky_Rules_clear prog_7_method_2_code 2 none R0_pf_Rules_clear_17 kcl yC σ [kr 17] none τ := kMet.of' [some (kr 17), none] (by decide) (Nat.le_of_ble_eq_true rfl) ⟨rfl, trivial⟩ (fun x C => bd_pf_Rules_clear_17 C σ h (fun τ e => by subst e; rfl))
def R0_pf_Law_clear_13 : Room := ({ frames := 1, cells := 0, slots := 0, locals := 21 } : Room)
def pf_Law_clear_13_l17 (σ : kM) (x1 : Int) : Option ((kM × Int) ⊕ ((kM))) :=
  if 4 ≤ x1 then
    some (Sum.inr σ)
  else
    kchk (0 ≤ x1 ∧ x1 < 4) <|
    klet (kst σ 14 (kup (σ 14) x1.toNat 0)) fun σ_5 =>
    klet (w32 (x1 + 1)) fun x1_6 =>
    some (Sum.inl (σ_5, x1_6))
set_option maxHeartbeats 4000000 in
theorem bd_pf_Law_clear_13_l17 {x : kX} {l0 : Launch} {Q : State → Prop} (C : kCx x prog_4_method_2_code "PoetFines$Law" none kcl yC 2 l0 R0_pf_Law_clear_13) (σ : kM) (x1 : Int) {out : (kM × Int) ⊕ ((kM))} (h : pf_Law_clear_13_l17 σ x1 = some out) (hC : ∀ (σ' : kM) (x1' : Int), out = Sum.inl (σ', x1') → KW x 0 0 Q σ' 17 [some (kr 13), some (ki x1')] []) (hX35 : ∀ (σ' : kM), out = Sum.inr σ' → KW x 0 0 Q σ' 35 [some (kr 13), none] []) : KW x 0 0 Q σ 17 [some (kr 13), some (ki x1)] [] := by
  unfold pf_Law_clear_13_l17 at h
  refine kw_iload_n C (kdec dc_Law_clear 11 rfl) rfl 18 rfl rfl ?_
  refine kw_iconst C (kdec dc_Law_clear 12 rfl) 19 rfl rfl ⟨by decide, by decide⟩ ?_
  refine kw_icmp_ge C (kdec dc_Law_clear 13 rfl) 35 22 (by decide) rfl (fun hc19 => ?_) (fun hc19 => ?_)
  · rw [if_pos hc19] at h
    obtain rfl := Option.some.inj h
    exact kw_sub (L' := [some (kr 13), none]) ⟨rfl, trivial⟩ (hX35 _ rfl)
  · rw [if_neg hc19] at h
    refine kw_aload_n C (kdec dc_Law_clear 14 rfl) rfl 23 rfl rfl ?_
    refine kw_getR C (kdec dc_Law_clear 15 rfl) 26 rfl fd_C_Law_21_13 ?_
    refine kw_iload_n C (kdec dc_Law_clear 16 rfl) rfl 27 rfl rfl ?_
    refine kw_iconst C (kdec dc_Law_clear 17 rfl) 28 rfl rfl ⟨by decide, by decide⟩ ?_
    obtain ⟨hc_4, h⟩ := kchk_h h
    obtain ⟨σ_5, eσ_5, h⟩ := klet_h h
    refine kw_iast C (kdec dc_Law_clear 18 rfl) 29 rfl rfl hc_4.1 hc_4.2 ?_
    refine kw_sig eσ_5 ?_
    obtain ⟨x1_6, ex1_6, h⟩ := klet_h h
    refine kw_iinc (L' := [some (kr 13), some (ki x1_6)]) C (kdec dc_Law_clear 19 rfl) 32 rfl rfl (by decide) rfl (by rw [ex1_6]; rfl) ?_
    refine kw_goto C (kdec dc_Law_clear 20 rfl) 17 (by decide) ?_
    obtain rfl := Option.some.inj h
    exact (hC _ _ rfl)
theorem lp_pf_Law_clear_13_l17 {x : kX} {l0 : Launch} {Q : State → Prop} (C : kCx x prog_4_method_2_code "PoetFines$Law" none kcl yC 2 l0 R0_pf_Law_clear_13) {ex : (kM)} (hX35 : ∀ (σ' : kM), ex = σ' → KW x 0 0 Q σ' 35 [some (kr 13), none] []) (n : Nat) (σ : kM) (x1 : Int) (h : kloop (fun st => pf_Law_clear_13_l17 st.1 st.2) n (σ, x1) = some ex) : KW x 0 0 Q σ 17 [some (kr 13), some (ki x1)] [] :=
  kloop_ind (P := (fun st : kM × Int => KW x 0 0 Q st.1 17 [some (kr 13), some (ki (st.2))] [])) (fun st out hb hc hx => bd_pf_Law_clear_13_l17 C st.1 st.2 hb (fun a0 a1 e => hc _ e) (fun a0 e => hX35 _ ((hx _ e).symm))) n (σ, x1) h
def pf_Law_clear_13 (σ : kM) : Option (kM) :=
  klet (kst σ 13 (kup (σ 13) 0 3)) fun σ_1 =>
  klet (kst σ_1 13 (kup (σ_1 13) 1 0)) fun σ_2 =>
  klet (kst σ_2 13 (kup (σ_2 13) 2 0)) fun σ_3 =>
  (kloop (fun st => pf_Law_clear_13_l17 st.1 st.2) kFuel (σ_3, 0)).bind fun σ_9 =>
  (pf_Rules_clear_17 σ_9).bind fun σ_10 =>
  some σ_10
set_option maxHeartbeats 4000000 in
theorem bd_pf_Law_clear_13 {x : kX} {l0 : Launch} {Q : State → Prop} (C : kCx x prog_4_method_2_code "PoetFines$Law" none kcl yC 2 l0 R0_pf_Law_clear_13) (σ : kM) {out : kM} (h : pf_Law_clear_13 σ = some out) (hR : ∀ (τ : kM), out = τ → Q = kQ x none τ 0 0) : KW x 0 0 Q σ 0 [some (kr 13), none] [] := by
  unfold pf_Law_clear_13 at h
  refine kw_aload_n C (kdec dc_Law_clear 0 rfl) rfl 1 rfl rfl ?_
  refine kw_iconst C (kdec dc_Law_clear 1 rfl) 2 rfl rfl ⟨by decide, by decide⟩ ?_
  obtain ⟨σ_1, eσ_1, h⟩ := klet_h h
  refine kw_putI C (kdec dc_Law_clear 2 rfl) 5 rfl fp_C_Law_11_13 ?_
  refine kw_sig eσ_1 ?_
  refine kw_aload_n C (kdec dc_Law_clear 3 rfl) rfl 6 rfl rfl ?_
  refine kw_iconst C (kdec dc_Law_clear 4 rfl) 7 rfl rfl ⟨by decide, by decide⟩ ?_
  obtain ⟨σ_2, eσ_2, h⟩ := klet_h h
  refine kw_putI C (kdec dc_Law_clear 5 rfl) 10 rfl fp_C_Law_15_13 ?_
  refine kw_sig eσ_2 ?_
  refine kw_aload_n C (kdec dc_Law_clear 6 rfl) rfl 11 rfl rfl ?_
  refine kw_iconst C (kdec dc_Law_clear 7 rfl) 12 rfl rfl ⟨by decide, by decide⟩ ?_
  obtain ⟨σ_3, eσ_3, h⟩ := klet_h h
  refine kw_putI C (kdec dc_Law_clear 8 rfl) 15 rfl fp_C_Law_18_13 ?_
  refine kw_sig eσ_3 ?_
  refine kw_iconst C (kdec dc_Law_clear 9 rfl) 16 rfl rfl ⟨by decide, by decide⟩ ?_
  refine kw_istore_n (L' := [some (kr 13), some (ki 0)]) C (kdec dc_Law_clear 10 rfl) rfl 17 rfl (by decide) rfl rfl ?_
  obtain ⟨ex_7, hl_8, h⟩ := kbind_h h
  refine lp_pf_Law_clear_13_l17 C ?_ kFuel σ_3 0 hl_8
  · intro σ_9 e
    subst ex_7
    try dsimp only at h
    refine kw_aload_n C (kdec dc_Law_clear 21 rfl) rfl 36 rfl rfl ?_
    refine kw_getR C (kdec dc_Law_clear 22 rfl) 39 rfl fd_C_Law_34_13 ?_
    obtain ⟨σ_10, hg_11, h⟩ := kbind_h h
    refine kw_callV (As := []) C (kdec dc_Law_clear 23 rfl) 42 rfl cv_Law_38 rfl rfl (mt_pf_Rules_clear_17 l0 hg_11) ⟨rfl, rfl⟩ ⟨Nat.le_of_ble_eq_true rfl, Nat.le_of_ble_eq_true rfl⟩ ⟨Nat.zero_le _, Nat.zero_le _⟩ rfl (Nat.le_of_ble_eq_true rfl) ?_
    change KW x 0 0 Q σ_10 42 [some (kr 13), none] []
    obtain rfl := Option.some.inj h
    exact kw_Q (hR _ rfl) (kw_return C (kdec dc_Law_clear 24 rfl))
theorem mt_pf_Law_clear_13 (l0 : Launch) {σ : kM} {τ : kM} (h : pf_Law_clear_13 σ = some τ) : kMet l0 ky_Law_clear prog_4_method_2_code 2 none R0_pf_Law_clear_13 kcl yC σ [kr 13] none τ := kMet.of' [some (kr 13), none] (by decide) (Nat.le_of_ble_eq_true rfl) ⟨rfl, trivial⟩ (fun x C => bd_pf_Law_clear_13 C σ h (fun τ e => by subst e; rfl))
def R0_pf_World_clear_22 : Room := ({ frames := 0, cells := 0, slots := 0, locals := 0 } : Room)
def pf_World_clear_22_l2 (σ : kM) (x1 : Int) : Option ((kM × Int) ⊕ ((kM))) :=
  if 85 ≤ x1 then
    some (Sum.inr σ)
  else
    kchk (0 ≤ x1 ∧ x1 < 85) <|
    klet (kst σ 23 (kup (σ 23) x1.toNat 0)) fun σ_2 =>
    klet (w32 (x1 + 1)) fun x1_3 =>
    some (Sum.inl (σ_2, x1_3))
set_option maxHeartbeats 4000000 in
theorem bd_pf_World_clear_22_l2 {x : kX} {l0 : Launch} {Q : State → Prop} (C : kCx x prog_12_method_2_code "PoetFines$World" none kcl yC 2 l0 R0_pf_World_clear_22) (σ : kM) (x1 : Int) {out : (kM × Int) ⊕ ((kM))} (h : pf_World_clear_22_l2 σ x1 = some out) (hC : ∀ (σ' : kM) (x1' : Int), out = Sum.inl (σ', x1') → KW x 0 0 Q σ' 2 [some (kr 22), some (ki x1')] []) (hX21 : ∀ (σ' : kM), out = Sum.inr σ' → KW x 0 0 Q σ' 21 [none, none] []) : KW x 0 0 Q σ 2 [some (kr 22), some (ki x1)] [] := by
  unfold pf_World_clear_22_l2 at h
  refine kw_iload_n C (kdec dc_World_clear 2 rfl) rfl 3 rfl rfl ?_
  refine kw_bipush (v := 85) C (kdec dc_World_clear 3 rfl) 5 rfl (by decide) ⟨by decide, by decide⟩ ?_
  refine kw_icmp_ge C (kdec dc_World_clear 4 rfl) 21 8 (by decide) rfl (fun hc5 => ?_) (fun hc5 => ?_)
  · rw [if_pos hc5] at h
    obtain rfl := Option.some.inj h
    exact kw_sub (L' := [none, none]) trivial (hX21 _ rfl)
  · rw [if_neg hc5] at h
    refine kw_aload_n C (kdec dc_World_clear 5 rfl) rfl 9 rfl rfl ?_
    refine kw_getR C (kdec dc_World_clear 6 rfl) 12 rfl fd_C_World_11_22 ?_
    refine kw_iload_n C (kdec dc_World_clear 7 rfl) rfl 13 rfl rfl ?_
    refine kw_iconst C (kdec dc_World_clear 8 rfl) 14 rfl rfl ⟨by decide, by decide⟩ ?_
    obtain ⟨hc_1, h⟩ := kchk_h h
    obtain ⟨σ_2, eσ_2, h⟩ := klet_h h
    refine kw_iast C (kdec dc_World_clear 9 rfl) 15 rfl rfl hc_1.1 hc_1.2 ?_
    refine kw_sig eσ_2 ?_
    obtain ⟨x1_3, ex1_3, h⟩ := klet_h h
    refine kw_iinc (L' := [some (kr 22), some (ki x1_3)]) C (kdec dc_World_clear 10 rfl) 18 rfl rfl (by decide) rfl (by rw [ex1_3]; rfl) ?_
    refine kw_goto C (kdec dc_World_clear 11 rfl) 2 (by decide) ?_
    obtain rfl := Option.some.inj h
    exact (hC _ _ rfl)
theorem lp_pf_World_clear_22_l2 {x : kX} {l0 : Launch} {Q : State → Prop} (C : kCx x prog_12_method_2_code "PoetFines$World" none kcl yC 2 l0 R0_pf_World_clear_22) {ex : (kM)} (hX21 : ∀ (σ' : kM), ex = σ' → KW x 0 0 Q σ' 21 [none, none] []) (n : Nat) (σ : kM) (x1 : Int) (h : kloop (fun st => pf_World_clear_22_l2 st.1 st.2) n (σ, x1) = some ex) : KW x 0 0 Q σ 2 [some (kr 22), some (ki x1)] [] :=
  kloop_ind (P := (fun st : kM × Int => KW x 0 0 Q st.1 2 [some (kr 22), some (ki (st.2))] [])) (fun st out hb hc hx => bd_pf_World_clear_22_l2 C st.1 st.2 hb (fun a0 a1 e => hc _ e) (fun a0 e => hX21 _ ((hx _ e).symm))) n (σ, x1) h
def pf_World_clear_22 (σ : kM) : Option (kM) :=
  (kloop (fun st => pf_World_clear_22_l2 st.1 st.2) kFuel (σ, 0)).bind fun σ_6 =>
  some σ_6
set_option maxHeartbeats 4000000 in
theorem bd_pf_World_clear_22 {x : kX} {l0 : Launch} {Q : State → Prop} (C : kCx x prog_12_method_2_code "PoetFines$World" none kcl yC 2 l0 R0_pf_World_clear_22) (σ : kM) {out : kM} (h : pf_World_clear_22 σ = some out) (hR : ∀ (τ : kM), out = τ → Q = kQ x none τ 0 0) : KW x 0 0 Q σ 0 [some (kr 22), none] [] := by
  unfold pf_World_clear_22 at h
  refine kw_iconst C (kdec dc_World_clear 0 rfl) 1 rfl rfl ⟨by decide, by decide⟩ ?_
  refine kw_istore_n (L' := [some (kr 22), some (ki 0)]) C (kdec dc_World_clear 1 rfl) rfl 2 rfl (by decide) rfl rfl ?_
  obtain ⟨ex_4, hl_5, h⟩ := kbind_h h
  refine lp_pf_World_clear_22_l2 C ?_ kFuel σ 0 hl_5
  · intro σ_6 e
    subst ex_4
    try dsimp only at h
    obtain rfl := Option.some.inj h
    exact kw_Q (hR _ rfl) (kw_return C (kdec dc_World_clear 12 rfl))
theorem mt_pf_World_clear_22 (l0 : Launch) {σ : kM} {τ : kM} (h : pf_World_clear_22 σ = some τ) : kMet l0 ky_World_clear prog_12_method_2_code 2 none R0_pf_World_clear_22 kcl yC σ [kr 22] none τ := kMet.of' [some (kr 22), none] (by decide) (Nat.le_of_ble_eq_true rfl) ⟨rfl, trivial⟩ (fun x C => bd_pf_World_clear_22 C σ h (fun τ e => by subst e; rfl))
def R0_pf_Tokens_isLetter : Room := ({ frames := 0, cells := 0, slots := 0, locals := 0 } : Room)
def pf_Tokens_isLetter (σ : kM) (x0 : Int) : Option (Int) :=
  if x0 < 97 then
    some 0
  else
    if 122 < x0 then
      some 0
    else
      some 1
set_option maxHeartbeats 4000000 in
theorem bd_pf_Tokens_isLetter {x : kX} {l0 : Launch} {Q : State → Prop} (C : kCx x prog_10_method_15_code "PoetFines$Tokens" (some .boolean) kcl yC 1 l0 R0_pf_Tokens_isLetter) (σ : kM) (x0 : Int) {out : Int} (h : pf_Tokens_isLetter σ x0 = some out) (hR : ∀ (r : Int), out = r → Q = kQ x (some (ki r)) σ 0 0) : KW x 0 0 Q σ 0 [some (ki x0)] [] := by
  unfold pf_Tokens_isLetter at h
  refine kw_iload_n C (kdec dc_Tokens_isLetter 0 rfl) rfl 1 rfl rfl ?_
  refine kw_bipush (v := 97) C (kdec dc_Tokens_isLetter 1 rfl) 3 rfl (by decide) ⟨by decide, by decide⟩ ?_
  refine kw_icmp_lt C (kdec dc_Tokens_isLetter 2 rfl) 16 6 (by decide) rfl (fun hc3 => ?_) (fun hc3 => ?_)
  · rw [if_pos hc3] at h
    refine kw_iconst C (kdec dc_Tokens_isLetter 8 rfl) 17 rfl rfl ⟨by decide, by decide⟩ ?_
    obtain rfl := Option.some.inj h
    exact kw_Q (hR _ rfl) (kw_zreturn C (kdec dc_Tokens_isLetter 9 rfl) (by decide))
  · rw [if_neg hc3] at h
    refine kw_iload_n C (kdec dc_Tokens_isLetter 3 rfl) rfl 7 rfl rfl ?_
    refine kw_bipush (v := 122) C (kdec dc_Tokens_isLetter 4 rfl) 9 rfl (by decide) ⟨by decide, by decide⟩ ?_
    refine kw_icmp_gt C (kdec dc_Tokens_isLetter 5 rfl) 16 12 (by decide) rfl (fun hc9 => ?_) (fun hc9 => ?_)
    · rw [if_pos hc9] at h
      refine kw_iconst C (kdec dc_Tokens_isLetter 8 rfl) 17 rfl rfl ⟨by decide, by decide⟩ ?_
      obtain rfl := Option.some.inj h
      exact kw_Q (hR _ rfl) (kw_zreturn C (kdec dc_Tokens_isLetter 9 rfl) (by decide))
    · rw [if_neg hc9] at h
      refine kw_iconst C (kdec dc_Tokens_isLetter 6 rfl) 13 rfl rfl ⟨by decide, by decide⟩ ?_
      refine kw_goto C (kdec dc_Tokens_isLetter 7 rfl) 17 (by decide) ?_
      obtain rfl := Option.some.inj h
      exact kw_Q (hR _ rfl) (kw_zreturn C (kdec dc_Tokens_isLetter 9 rfl) (by decide))
theorem mt_pf_Tokens_isLetter (l0 : Launch) {σ : kM} {x0 : Int} {r : Int} (h : pf_Tokens_isLetter σ x0 = some r) : kMet l0 ky_Tokens_isLetter prog_10_method_15_code 1 (some .boolean) R0_pf_Tokens_isLetter kcl yC σ [ki x0] (some (ki r)) σ := kMet.of' [some (ki x0)] (by decide) (Nat.le_of_ble_eq_true rfl) ⟨rfl, trivial⟩ (fun x C => bd_pf_Tokens_isLetter C σ x0 h (fun r e => by subst e; rfl))
def R0_pf_Tokens_isDigit : Room := ({ frames := 0, cells := 0, slots := 0, locals := 0 } : Room)
def pf_Tokens_isDigit (σ : kM) (x0 : Int) : Option (Int) :=
  if x0 < 48 then
    some 0
  else
    if 57 < x0 then
      some 0
    else
      some 1
set_option maxHeartbeats 4000000 in
theorem bd_pf_Tokens_isDigit {x : kX} {l0 : Launch} {Q : State → Prop} (C : kCx x prog_10_method_16_code "PoetFines$Tokens" (some .boolean) kcl yC 1 l0 R0_pf_Tokens_isDigit) (σ : kM) (x0 : Int) {out : Int} (h : pf_Tokens_isDigit σ x0 = some out) (hR : ∀ (r : Int), out = r → Q = kQ x (some (ki r)) σ 0 0) : KW x 0 0 Q σ 0 [some (ki x0)] [] := by
  unfold pf_Tokens_isDigit at h
  refine kw_iload_n C (kdec dc_Tokens_isDigit 0 rfl) rfl 1 rfl rfl ?_
  refine kw_bipush (v := 48) C (kdec dc_Tokens_isDigit 1 rfl) 3 rfl (by decide) ⟨by decide, by decide⟩ ?_
  refine kw_icmp_lt C (kdec dc_Tokens_isDigit 2 rfl) 16 6 (by decide) rfl (fun hc3 => ?_) (fun hc3 => ?_)
  · rw [if_pos hc3] at h
    refine kw_iconst C (kdec dc_Tokens_isDigit 8 rfl) 17 rfl rfl ⟨by decide, by decide⟩ ?_
    obtain rfl := Option.some.inj h
    exact kw_Q (hR _ rfl) (kw_zreturn C (kdec dc_Tokens_isDigit 9 rfl) (by decide))
  · rw [if_neg hc3] at h
    refine kw_iload_n C (kdec dc_Tokens_isDigit 3 rfl) rfl 7 rfl rfl ?_
    refine kw_bipush (v := 57) C (kdec dc_Tokens_isDigit 4 rfl) 9 rfl (by decide) ⟨by decide, by decide⟩ ?_
    refine kw_icmp_gt C (kdec dc_Tokens_isDigit 5 rfl) 16 12 (by decide) rfl (fun hc9 => ?_) (fun hc9 => ?_)
    · rw [if_pos hc9] at h
      refine kw_iconst C (kdec dc_Tokens_isDigit 8 rfl) 17 rfl rfl ⟨by decide, by decide⟩ ?_
      obtain rfl := Option.some.inj h
      exact kw_Q (hR _ rfl) (kw_zreturn C (kdec dc_Tokens_isDigit 9 rfl) (by decide))
    · rw [if_neg hc9] at h
      refine kw_iconst C (kdec dc_Tokens_isDigit 6 rfl) 13 rfl rfl ⟨by decide, by decide⟩ ?_
      refine kw_goto C (kdec dc_Tokens_isDigit 7 rfl) 17 (by decide) ?_
      obtain rfl := Option.some.inj h
      exact kw_Q (hR _ rfl) (kw_zreturn C (kdec dc_Tokens_isDigit 9 rfl) (by decide))
theorem mt_pf_Tokens_isDigit (l0 : Launch) {σ : kM} {x0 : Int} {r : Int} (h : pf_Tokens_isDigit σ x0 = some r) : kMet l0 ky_Tokens_isDigit prog_10_method_16_code 1 (some .boolean) R0_pf_Tokens_isDigit kcl yC σ [ki x0] (some (ki r)) σ := kMet.of' [some (ki x0)] (by decide) (Nat.le_of_ble_eq_true rfl) ⟨rfl, trivial⟩ (fun x C => bd_pf_Tokens_isDigit C σ x0 h (fun r e => by subst e; rfl))
def R0_pf_Tokens_endOf_24 : Room := ({ frames := 1, cells := 0, slots := 0, locals := 20 } : Room)
def pf_Tokens_endOf_24_l51 (σ : kM) (x2 : Int) (x3 : Int) : Option ((Int) ⊕ ((Int))) :=
  if x2 ≤ x3 then
    some (Sum.inr x3)
  else
    kchk (0 ≤ x3 ∧ x3 < 700) <|
    (pf_Tokens_isDigit σ (σ 1 x3.toNat)).bind fun r_7 =>
    if r_7 = 0 then
      some (Sum.inr x3)
    else
      klet (w32 (x3 + 1)) fun x3_8 =>
      some (Sum.inl x3_8)
set_option maxHeartbeats 4000000 in
theorem bd_pf_Tokens_endOf_24_l51 {x : kX} {l0 : Launch} {Q : State → Prop} (C : kCx x prog_10_method_12_code "PoetFines$Tokens" (some .int) kcl yC 4 l0 R0_pf_Tokens_endOf_24) (σ : kM) (x2 : Int) (x3 : Int) {out : (Int) ⊕ ((Int))} (h : pf_Tokens_endOf_24_l51 σ x2 x3 = some out) (hC : ∀ (x3' : Int), out = Sum.inl x3' → KW x 0 0 Q σ 51 [some (kr 24), none, some (ki x2), some (ki x3')] []) (hX74 : ∀ (x3' : Int), out = Sum.inr x3' → KW x 0 0 Q σ 74 [none, none, none, some (ki x3')] []) : KW x 0 0 Q σ 51 [some (kr 24), none, some (ki x2), some (ki x3)] [] := by
  unfold pf_Tokens_endOf_24_l51 at h
  refine kw_iload_n C (kdec dc_Tokens_endOf 27 rfl) rfl 52 rfl rfl ?_
  refine kw_iload_n C (kdec dc_Tokens_endOf 28 rfl) rfl 53 rfl rfl ?_
  refine kw_icmp_ge C (kdec dc_Tokens_endOf 29 rfl) 74 56 (by decide) rfl (fun hc53 => ?_) (fun hc53 => ?_)
  · rw [if_pos hc53] at h
    obtain rfl := Option.some.inj h
    exact kw_sub (L' := [none, none, none, some (ki x3)]) ⟨rfl, trivial⟩ (hX74 _ rfl)
  · rw [if_neg hc53] at h
    refine kw_aload_n C (kdec dc_Tokens_endOf 30 rfl) rfl 57 rfl rfl ?_
    refine kw_getR C (kdec dc_Tokens_endOf 31 rfl) 60 rfl fd_C_Tokens_31_24 ?_
    refine kw_iload_n C (kdec dc_Tokens_endOf 32 rfl) rfl 61 rfl rfl ?_
    obtain ⟨hc_6, h⟩ := kchk_h h
    refine kw_bald C (kdec dc_Tokens_endOf 33 rfl) 62 rfl rfl hc_6.1 hc_6.2 ?_
    obtain ⟨r_7, hg_9, h⟩ := kbind_h h
    refine kw_callS (As := [ki (σ 1 x3.toNat)]) C (kdec dc_Tokens_endOf 34 rfl) 65 rfl cs_Tokens_62 (mt_pf_Tokens_isDigit l0 hg_9) ⟨rfl, rfl⟩ ⟨Nat.le_of_ble_eq_true rfl, Nat.le_of_ble_eq_true rfl⟩ ⟨Nat.zero_le _, Nat.zero_le _⟩ rfl (Nat.le_of_ble_eq_true rfl) ?_
    change KW x 0 0 Q σ 65 [some (kr 24), none, some (ki x2), some (ki x3)] [ki r_7]
    refine kw_if_eq C (kdec dc_Tokens_endOf 35 rfl) 74 68 (by decide) rfl (fun hc65 => ?_) (fun hc65 => ?_)
    · rw [if_pos hc65] at h
      obtain rfl := Option.some.inj h
      exact kw_sub (L' := [none, none, none, some (ki x3)]) ⟨rfl, trivial⟩ (hX74 _ rfl)
    · rw [if_neg hc65] at h
      obtain ⟨x3_8, ex3_8, h⟩ := klet_h h
      refine kw_iinc (L' := [some (kr 24), none, some (ki x2), some (ki x3_8)]) C (kdec dc_Tokens_endOf 36 rfl) 71 rfl rfl (by decide) rfl (by rw [ex3_8]; rfl) ?_
      refine kw_goto C (kdec dc_Tokens_endOf 37 rfl) 51 (by decide) ?_
      obtain rfl := Option.some.inj h
      exact (hC _ rfl)
theorem lp_pf_Tokens_endOf_24_l51 {x : kX} {l0 : Launch} {Q : State → Prop} (C : kCx x prog_10_method_12_code "PoetFines$Tokens" (some .int) kcl yC 4 l0 R0_pf_Tokens_endOf_24) (σ : kM) (x2 : Int) {ex : (Int)} (hX74 : ∀ (x3' : Int), ex = x3' → KW x 0 0 Q σ 74 [none, none, none, some (ki x3')] []) (n : Nat) (x3 : Int) (h : kloop (fun st => pf_Tokens_endOf_24_l51 σ x2 st) n x3 = some ex) : KW x 0 0 Q σ 51 [some (kr 24), none, some (ki x2), some (ki x3)] [] :=
  kloop_ind (P := (fun st : Int => KW x 0 0 Q σ 51 [some (kr 24), none, some (ki x2), some (ki st)] [])) (fun st out hb hc hx => bd_pf_Tokens_endOf_24_l51 C σ x2 st hb (fun a0 e => hc _ e) (fun a0 e => hX74 _ ((hx _ e).symm))) n x3 h
def pf_Tokens_endOf_24_l16 (σ : kM) (x2 : Int) (x3 : Int) : Option ((Int) ⊕ ((Int))) :=
  if x2 ≤ x3 then
    some (Sum.inr x3)
  else
    kchk (0 ≤ x3 ∧ x3 < 700) <|
    (pf_Tokens_isLetter σ (σ 1 x3.toNat)).bind fun r_15 =>
    if r_15 = 0 then
      some (Sum.inr x3)
    else
      klet (w32 (x3 + 1)) fun x3_16 =>
      some (Sum.inl x3_16)
set_option maxHeartbeats 4000000 in
theorem bd_pf_Tokens_endOf_24_l16 {x : kX} {l0 : Launch} {Q : State → Prop} (C : kCx x prog_10_method_12_code "PoetFines$Tokens" (some .int) kcl yC 4 l0 R0_pf_Tokens_endOf_24) (σ : kM) (x2 : Int) (x3 : Int) {out : (Int) ⊕ ((Int))} (h : pf_Tokens_endOf_24_l16 σ x2 x3 = some out) (hC : ∀ (x3' : Int), out = Sum.inl x3' → KW x 0 0 Q σ 16 [some (kr 24), none, some (ki x2), some (ki x3')] []) (hX74 : ∀ (x3' : Int), out = Sum.inr x3' → KW x 0 0 Q σ 74 [none, none, none, some (ki x3')] []) : KW x 0 0 Q σ 16 [some (kr 24), none, some (ki x2), some (ki x3)] [] := by
  unfold pf_Tokens_endOf_24_l16 at h
  refine kw_iload_n C (kdec dc_Tokens_endOf 10 rfl) rfl 17 rfl rfl ?_
  refine kw_iload_n C (kdec dc_Tokens_endOf 11 rfl) rfl 18 rfl rfl ?_
  refine kw_icmp_ge C (kdec dc_Tokens_endOf 12 rfl) 74 21 (by decide) rfl (fun hc18 => ?_) (fun hc18 => ?_)
  · rw [if_pos hc18] at h
    obtain rfl := Option.some.inj h
    exact kw_sub (L' := [none, none, none, some (ki x3)]) ⟨rfl, trivial⟩ (hX74 _ rfl)
  · rw [if_neg hc18] at h
    refine kw_aload_n C (kdec dc_Tokens_endOf 13 rfl) rfl 22 rfl rfl ?_
    refine kw_getR C (kdec dc_Tokens_endOf 14 rfl) 25 rfl fd_C_Tokens_31_24 ?_
    refine kw_iload_n C (kdec dc_Tokens_endOf 15 rfl) rfl 26 rfl rfl ?_
    obtain ⟨hc_14, h⟩ := kchk_h h
    refine kw_bald C (kdec dc_Tokens_endOf 16 rfl) 27 rfl rfl hc_14.1 hc_14.2 ?_
    obtain ⟨r_15, hg_17, h⟩ := kbind_h h
    refine kw_callS (As := [ki (σ 1 x3.toNat)]) C (kdec dc_Tokens_endOf 17 rfl) 30 rfl cs_Tokens_58 (mt_pf_Tokens_isLetter l0 hg_17) ⟨rfl, rfl⟩ ⟨Nat.le_of_ble_eq_true rfl, Nat.le_of_ble_eq_true rfl⟩ ⟨Nat.zero_le _, Nat.zero_le _⟩ rfl (Nat.le_of_ble_eq_true rfl) ?_
    change KW x 0 0 Q σ 30 [some (kr 24), none, some (ki x2), some (ki x3)] [ki r_15]
    refine kw_if_eq C (kdec dc_Tokens_endOf 18 rfl) 74 33 (by decide) rfl (fun hc30 => ?_) (fun hc30 => ?_)
    · rw [if_pos hc30] at h
      obtain rfl := Option.some.inj h
      exact kw_sub (L' := [none, none, none, some (ki x3)]) ⟨rfl, trivial⟩ (hX74 _ rfl)
    · rw [if_neg hc30] at h
      obtain ⟨x3_16, ex3_16, h⟩ := klet_h h
      refine kw_iinc (L' := [some (kr 24), none, some (ki x2), some (ki x3_16)]) C (kdec dc_Tokens_endOf 19 rfl) 36 rfl rfl (by decide) rfl (by rw [ex3_16]; rfl) ?_
      refine kw_goto C (kdec dc_Tokens_endOf 20 rfl) 16 (by decide) ?_
      obtain rfl := Option.some.inj h
      exact (hC _ rfl)
theorem lp_pf_Tokens_endOf_24_l16 {x : kX} {l0 : Launch} {Q : State → Prop} (C : kCx x prog_10_method_12_code "PoetFines$Tokens" (some .int) kcl yC 4 l0 R0_pf_Tokens_endOf_24) (σ : kM) (x2 : Int) {ex : (Int)} (hX74 : ∀ (x3' : Int), ex = x3' → KW x 0 0 Q σ 74 [none, none, none, some (ki x3')] []) (n : Nat) (x3 : Int) (h : kloop (fun st => pf_Tokens_endOf_24_l16 σ x2 st) n x3 = some ex) : KW x 0 0 Q σ 16 [some (kr 24), none, some (ki x2), some (ki x3)] [] :=
  kloop_ind (P := (fun st : Int => KW x 0 0 Q σ 16 [some (kr 24), none, some (ki x2), some (ki st)] [])) (fun st out hb hc hx => bd_pf_Tokens_endOf_24_l16 C σ x2 st hb (fun a0 e => hc _ e) (fun a0 e => hX74 _ ((hx _ e).symm))) n x3 h
def pf_Tokens_endOf_24 (σ : kM) (x1 : Int) (x2 : Int) : Option (Int) :=
  klet (w32 (x1 + 1)) fun x3_1 =>
  kchk (0 ≤ x1 ∧ x1 < 700) <|
  (pf_Tokens_isLetter σ (σ 1 x1.toNat)).bind fun r_3 =>
  if r_3 = 0 then
    kchk (0 ≤ x1 ∧ x1 < 700) <|
    (pf_Tokens_isDigit σ (σ 1 x1.toNat)).bind fun r_5 =>
    if r_5 = 0 then
      some x3_1
    else
      (kloop (fun st => pf_Tokens_endOf_24_l51 σ x2 st) kFuel x3_1).bind fun x3_12 =>
      some x3_12
  else
    (kloop (fun st => pf_Tokens_endOf_24_l16 σ x2 st) kFuel x3_1).bind fun x3_20 =>
    some x3_20
set_option maxHeartbeats 4000000 in
theorem bd_pf_Tokens_endOf_24 {x : kX} {l0 : Launch} {Q : State → Prop} (C : kCx x prog_10_method_12_code "PoetFines$Tokens" (some .int) kcl yC 4 l0 R0_pf_Tokens_endOf_24) (σ : kM) (x1 : Int) (x2 : Int) {out : Int} (h : pf_Tokens_endOf_24 σ x1 x2 = some out) (hR : ∀ (r : Int), out = r → Q = kQ x (some (ki r)) σ 0 0) : KW x 0 0 Q σ 0 [some (kr 24), some (ki x1), some (ki x2), none] [] := by
  unfold pf_Tokens_endOf_24 at h
  refine kw_iload_n C (kdec dc_Tokens_endOf 0 rfl) rfl 1 rfl rfl ?_
  refine kw_iconst C (kdec dc_Tokens_endOf 1 rfl) 2 rfl rfl ⟨by decide, by decide⟩ ?_
  refine kw_iadd C (kdec dc_Tokens_endOf 2 rfl) 3 rfl ?_
  obtain ⟨x3_1, ex3_1, h⟩ := klet_h h
  refine kw_top ex3_1 ?_
  refine kw_istore_n (L' := [some (kr 24), some (ki x1), some (ki x2), some (ki x3_1)]) C (kdec dc_Tokens_endOf 3 rfl) rfl 4 rfl (by decide) rfl rfl ?_
  refine kw_aload_n C (kdec dc_Tokens_endOf 4 rfl) rfl 5 rfl rfl ?_
  refine kw_getR C (kdec dc_Tokens_endOf 5 rfl) 8 rfl fd_C_Tokens_31_24 ?_
  refine kw_iload_n C (kdec dc_Tokens_endOf 6 rfl) rfl 9 rfl rfl ?_
  obtain ⟨hc_2, h⟩ := kchk_h h
  refine kw_bald C (kdec dc_Tokens_endOf 7 rfl) 10 rfl rfl hc_2.1 hc_2.2 ?_
  obtain ⟨r_3, hg_21, h⟩ := kbind_h h
  refine kw_callS (As := [ki (σ 1 x1.toNat)]) C (kdec dc_Tokens_endOf 8 rfl) 13 rfl cs_Tokens_58 (mt_pf_Tokens_isLetter l0 hg_21) ⟨rfl, rfl⟩ ⟨Nat.le_of_ble_eq_true rfl, Nat.le_of_ble_eq_true rfl⟩ ⟨Nat.zero_le _, Nat.zero_le _⟩ rfl (Nat.le_of_ble_eq_true rfl) ?_
  change KW x 0 0 Q σ 13 [some (kr 24), some (ki x1), some (ki x2), some (ki x3_1)] [ki r_3]
  refine kw_if_eq C (kdec dc_Tokens_endOf 9 rfl) 39 16 (by decide) rfl (fun hc13 => ?_) (fun hc13 => ?_)
  · rw [if_pos hc13] at h
    refine kw_aload_n C (kdec dc_Tokens_endOf 21 rfl) rfl 40 rfl rfl ?_
    refine kw_getR C (kdec dc_Tokens_endOf 22 rfl) 43 rfl fd_C_Tokens_31_24 ?_
    refine kw_iload_n C (kdec dc_Tokens_endOf 23 rfl) rfl 44 rfl rfl ?_
    obtain ⟨hc_4, h⟩ := kchk_h h
    refine kw_bald C (kdec dc_Tokens_endOf 24 rfl) 45 rfl rfl hc_4.1 hc_4.2 ?_
    obtain ⟨r_5, hg_13, h⟩ := kbind_h h
    refine kw_callS (As := [ki (σ 1 x1.toNat)]) C (kdec dc_Tokens_endOf 25 rfl) 48 rfl cs_Tokens_62 (mt_pf_Tokens_isDigit l0 hg_13) ⟨rfl, rfl⟩ ⟨Nat.le_of_ble_eq_true rfl, Nat.le_of_ble_eq_true rfl⟩ ⟨Nat.zero_le _, Nat.zero_le _⟩ rfl (Nat.le_of_ble_eq_true rfl) ?_
    change KW x 0 0 Q σ 48 [some (kr 24), some (ki x1), some (ki x2), some (ki x3_1)] [ki r_5]
    refine kw_if_eq C (kdec dc_Tokens_endOf 26 rfl) 74 51 (by decide) rfl (fun hc48 => ?_) (fun hc48 => ?_)
    · rw [if_pos hc48] at h
      refine kw_iload_n C (kdec dc_Tokens_endOf 38 rfl) rfl 75 rfl rfl ?_
      obtain rfl := Option.some.inj h
      exact kw_Q (hR _ rfl) (kw_ireturn C (kdec dc_Tokens_endOf 39 rfl))
    · rw [if_neg hc48] at h
      obtain ⟨ex_10, hl_11, h⟩ := kbind_h h
      refine kw_sub (L' := [some (kr 24), none, some (ki x2), some (ki x3_1)]) ⟨rfl, rfl, rfl, trivial⟩ (lp_pf_Tokens_endOf_24_l51 C σ x2 ?_ kFuel x3_1 hl_11)
      · intro x3_12 e
        subst ex_10
        try dsimp only at h
        refine kw_iload_n C (kdec dc_Tokens_endOf 38 rfl) rfl 75 rfl rfl ?_
        obtain rfl := Option.some.inj h
        exact kw_Q (hR _ rfl) (kw_ireturn C (kdec dc_Tokens_endOf 39 rfl))
  · rw [if_neg hc13] at h
    obtain ⟨ex_18, hl_19, h⟩ := kbind_h h
    refine kw_sub (L' := [some (kr 24), none, some (ki x2), some (ki x3_1)]) ⟨rfl, rfl, rfl, trivial⟩ (lp_pf_Tokens_endOf_24_l16 C σ x2 ?_ kFuel x3_1 hl_19)
    · intro x3_20 e
      subst ex_18
      try dsimp only at h
      refine kw_iload_n C (kdec dc_Tokens_endOf 38 rfl) rfl 75 rfl rfl ?_
      obtain rfl := Option.some.inj h
      exact kw_Q (hR _ rfl) (kw_ireturn C (kdec dc_Tokens_endOf 39 rfl))
theorem mt_pf_Tokens_endOf_24 (l0 : Launch) {σ : kM} {x1 : Int} {x2 : Int} {r : Int} (h : pf_Tokens_endOf_24 σ x1 x2 = some r) : kMet l0 ky_Tokens_endOf prog_10_method_12_code 4 (some .int) R0_pf_Tokens_endOf_24 kcl yC σ [kr 24, ki x1, ki x2] (some (ki r)) σ := kMet.of' [some (kr 24), some (ki x1), some (ki x2), none] (by decide) (Nat.le_of_ble_eq_true rfl) ⟨rfl, rfl, rfl, trivial⟩ (fun x C => bd_pf_Tokens_endOf_24 C σ x1 x2 h (fun r e => by subst e; rfl))
def R0_pf_String_isLatin1_aae02 : Room := ({ frames := 0, cells := 0, slots := 0, locals := 0 } : Room)
def pf_String_isLatin1_aae02 (σ : kM) (x0 : Int) : Option (Int) :=
  kchk (0 ≤ x0 ∧ x0 < 19) <|
  some 1
set_option maxHeartbeats 4000000 in
theorem bd_pf_String_isLatin1_aae02 {x : kX} {l0 : Launch} {Q : State → Prop} (C : kCx x prog_26_method_154_code "java/lang/String" (some .boolean) kcl yC 1 l0 R0_pf_String_isLatin1_aae02) (σ : kM) (x0 : Int) {out : Int} (h : pf_String_isLatin1_aae02 σ x0 = some out) (hR : ∀ (r : Int), out = r → Q = kQ x (some (ki r)) σ 0 0) : KW x 0 0 Q σ 0 [some (ke (4 * x0 + 1))] [] := by
  unfold pf_String_isLatin1_aae02 at h
  refine kw_gsC C (kdec dc_String_isLatin1_aae02 0 rfl) 3 rfl wd_806 ?_
  refine kw_if_eq C (kdec dc_String_isLatin1_aae02 1 rfl) 17 6 (by decide) rfl (fun hc3 => ?_) (fun hc3 => ?_)
  · exact absurd hc3 (by decide)
  · refine kw_eload_n C (kdec dc_String_isLatin1_aae02 2 rfl) rfl 7 rfl rfl ?_
    obtain ⟨hc_1, h⟩ := kchk_h h
    refine kw_getTc C (kdec dc_String_isLatin1_aae02 3 rfl) 10 rfl hc_1.1 hc_1.2 wd_2221 ?_
    refine kw_if_ne C (kdec dc_String_isLatin1_aae02 4 rfl) 17 13 (by decide) rfl (fun hc10 => ?_) (fun hc10 => ?_)
    · exact absurd hc10 (by decide)
    · refine kw_iconst C (kdec dc_String_isLatin1_aae02 5 rfl) 14 rfl rfl ⟨by decide, by decide⟩ ?_
      refine kw_goto C (kdec dc_String_isLatin1_aae02 6 rfl) 18 (by decide) ?_
      obtain rfl := Option.some.inj h
      exact kw_Q (hR _ rfl) (kw_zreturn C (kdec dc_String_isLatin1_aae02 8 rfl) (by decide))
theorem mt_pf_String_isLatin1_aae02 (l0 : Launch) {σ : kM} {x0 : Int} {r : Int} (h : pf_String_isLatin1_aae02 σ x0 = some r) : kMet l0 ky_String_isLatin1_aae02 prog_26_method_154_code 1 (some .boolean) R0_pf_String_isLatin1_aae02 kcl yC σ [ke (4 * x0 + 1)] (some (ki r)) σ := kMet.of' [some (ke (4 * x0 + 1))] (by decide) (Nat.le_of_ble_eq_true rfl) ⟨rfl, trivial⟩ (fun x C => bd_pf_String_isLatin1_aae02 C σ x0 h (fun r e => by subst e; rfl))
def R0_pf_String_coder_7d493 : Room := ({ frames := 0, cells := 0, slots := 0, locals := 0 } : Room)
def pf_String_coder_7d493 (σ : kM) (x0 : Int) : Option (Int) :=
  kchk (0 ≤ x0 ∧ x0 < 19) <|
  some 0
set_option maxHeartbeats 4000000 in
theorem bd_pf_String_coder_7d493 {x : kX} {l0 : Launch} {Q : State → Prop} (C : kCx x prog_26_method_152_code "java/lang/String" (some .byte) kcl yC 1 l0 R0_pf_String_coder_7d493) (σ : kM) (x0 : Int) {out : Int} (h : pf_String_coder_7d493 σ x0 = some out) (hR : ∀ (r : Int), out = r → Q = kQ x (some (ki r)) σ 0 0) : KW x 0 0 Q σ 0 [some (ke (4 * x0 + 1))] [] := by
  unfold pf_String_coder_7d493 at h
  refine kw_gsC C (kdec dc_String_coder_7d493 0 rfl) 3 rfl wd_806 ?_
  refine kw_if_eq C (kdec dc_String_coder_7d493 1 rfl) 13 6 (by decide) rfl (fun hc3 => ?_) (fun hc3 => ?_)
  · exact absurd hc3 (by decide)
  · refine kw_eload_n C (kdec dc_String_coder_7d493 2 rfl) rfl 7 rfl rfl ?_
    obtain ⟨hc_1, h⟩ := kchk_h h
    refine kw_getTc C (kdec dc_String_coder_7d493 3 rfl) 10 rfl hc_1.1 hc_1.2 wd_2221 ?_
    refine kw_goto C (kdec dc_String_coder_7d493 4 rfl) 14 (by decide) ?_
    obtain rfl := Option.some.inj h
    exact kw_Q (hR _ rfl) (kw_breturn C (kdec dc_String_coder_7d493 6 rfl))
theorem mt_pf_String_coder_7d493 (l0 : Launch) {σ : kM} {x0 : Int} {r : Int} (h : pf_String_coder_7d493 σ x0 = some r) : kMet l0 ky_String_coder_7d493 prog_26_method_152_code 1 (some .byte) R0_pf_String_coder_7d493 kcl yC σ [ke (4 * x0 + 1)] (some (ki r)) σ := kMet.of' [some (ke (4 * x0 + 1))] (by decide) (Nat.le_of_ble_eq_true rfl) ⟨rfl, trivial⟩ (fun x C => bd_pf_String_coder_7d493 C σ x0 h (fun r e => by subst e; rfl))
def R0_pf_String_length_8abf5 : Room := ({ frames := 1, cells := 0, slots := 0, locals := 20 } : Room)
def pf_String_length_8abf5 (σ : kM) (x0 : Int) : Option (Int) :=
  kchk (0 ≤ x0 ∧ x0 < 19) <|
  kchk (0 ≤ x0 ∧ x0 < 19) <|
  kchk (0 ≤ x0 ∧ x0 < 19) <|
  (pf_String_coder_7d493 σ x0).bind fun r_3 =>
  some (kshr (kLn x0) r_3)
set_option maxHeartbeats 4000000 in
theorem bd_pf_String_length_8abf5 {x : kX} {l0 : Launch} {Q : State → Prop} (C : kCx x prog_26_method_54_code "java/lang/String" (some .int) kcl yC 1 l0 R0_pf_String_length_8abf5) (σ : kM) (x0 : Int) {out : Int} (h : pf_String_length_8abf5 σ x0 = some out) (hR : ∀ (r : Int), out = r → Q = kQ x (some (ki r)) σ 0 0) : KW x 0 0 Q σ 0 [some (ke (4 * x0 + 1))] [] := by
  unfold pf_String_length_8abf5 at h
  refine kw_eload_n C (kdec dc_String_length_8abf5 0 rfl) rfl 1 rfl rfl ?_
  obtain ⟨hc_1, h⟩ := kchk_h h
  refine kw_getTv C (kdec dc_String_length_8abf5 1 rfl) 4 rfl hc_1.1 hc_1.2 wd_2220 ?_
  obtain ⟨hc_2, h⟩ := kchk_h h
  refine kw_alenV C (kdec dc_String_length_8abf5 2 rfl) 5 rfl hc_2.1 hc_2.2 ?_
  refine kw_eload_n C (kdec dc_String_length_8abf5 3 rfl) rfl 6 rfl rfl ?_
  obtain ⟨hc_5, h⟩ := kchk_h h
  obtain ⟨r_3, hg_4, h⟩ := kbind_h h
  refine kw_callT (As := []) C (kdec dc_String_length_8abf5 4 rfl) 9 rfl hc_5.1 hc_5.2 cv_String_335 (mt_pf_String_coder_7d493 l0 hg_4) ⟨rfl, rfl⟩ ⟨Nat.le_of_ble_eq_true rfl, Nat.le_of_ble_eq_true rfl⟩ ⟨Nat.zero_le _, Nat.zero_le _⟩ rfl (Nat.le_of_ble_eq_true rfl) ?_
  change KW x 0 0 Q σ 9 [some (ke (4 * x0 + 1))] [ki r_3, ki (kLn x0)]
  refine kw_ishr C (kdec dc_String_length_8abf5 5 rfl) 10 rfl ?_
  obtain rfl := Option.some.inj h
  exact kw_Q (hR _ rfl) (kw_ireturn C (kdec dc_String_length_8abf5 6 rfl))
theorem mt_pf_String_length_8abf5 (l0 : Launch) {σ : kM} {x0 : Int} {r : Int} (h : pf_String_length_8abf5 σ x0 = some r) : kMet l0 ky_String_length_8abf5 prog_26_method_54_code 1 (some .int) R0_pf_String_length_8abf5 kcl yC σ [ke (4 * x0 + 1)] (some (ki r)) σ := kMet.of' [some (ke (4 * x0 + 1))] (by decide) (Nat.le_of_ble_eq_true rfl) ⟨rfl, trivial⟩ (fun x C => bd_pf_String_length_8abf5 C σ x0 h (fun r e => by subst e; rfl))
def R0_pf_StringLatin1_canEncode_9a6ad : Room := ({ frames := 0, cells := 0, slots := 0, locals := 0 } : Room)
def pf_StringLatin1_canEncode_9a6ad (σ : kM) (x0 : Int) : Option (Int) :=
  if x0 < 0 then
    some 0
  else
    if 255 < x0 then
      some 0
    else
      some 1
set_option maxHeartbeats 4000000 in
theorem bd_pf_StringLatin1_canEncode_9a6ad {x : kX} {l0 : Launch} {Q : State → Prop} (C : kCx x prog_27_method_4_code "java/lang/StringLatin1" (some .boolean) kcl yC 1 l0 R0_pf_StringLatin1_canEncode_9a6ad) (σ : kM) (x0 : Int) {out : Int} (h : pf_StringLatin1_canEncode_9a6ad σ x0 = some out) (hR : ∀ (r : Int), out = r → Q = kQ x (some (ki r)) σ 0 0) : KW x 0 0 Q σ 0 [some (ki x0)] [] := by
  unfold pf_StringLatin1_canEncode_9a6ad at h
  refine kw_iload_n C (kdec dc_StringLatin1_canEncode_9a6ad 0 rfl) rfl 1 rfl rfl ?_
  refine kw_if_lt C (kdec dc_StringLatin1_canEncode_9a6ad 1 rfl) 15 4 (by decide) rfl (fun hc1 => ?_) (fun hc1 => ?_)
  · rw [if_pos hc1] at h
    refine kw_iconst C (kdec dc_StringLatin1_canEncode_9a6ad 7 rfl) 16 rfl rfl ⟨by decide, by decide⟩ ?_
    obtain rfl := Option.some.inj h
    exact kw_Q (hR _ rfl) (kw_zreturn C (kdec dc_StringLatin1_canEncode_9a6ad 8 rfl) (by decide))
  · rw [if_neg hc1] at h
    refine kw_iload_n C (kdec dc_StringLatin1_canEncode_9a6ad 2 rfl) rfl 5 rfl rfl ?_
    refine kw_sipush (v := 255) C (kdec dc_StringLatin1_canEncode_9a6ad 3 rfl) 8 rfl (by decide) ⟨by decide, by decide⟩ ?_
    refine kw_icmp_gt C (kdec dc_StringLatin1_canEncode_9a6ad 4 rfl) 15 11 (by decide) rfl (fun hc8 => ?_) (fun hc8 => ?_)
    · rw [if_pos hc8] at h
      refine kw_iconst C (kdec dc_StringLatin1_canEncode_9a6ad 7 rfl) 16 rfl rfl ⟨by decide, by decide⟩ ?_
      obtain rfl := Option.some.inj h
      exact kw_Q (hR _ rfl) (kw_zreturn C (kdec dc_StringLatin1_canEncode_9a6ad 8 rfl) (by decide))
    · rw [if_neg hc8] at h
      refine kw_iconst C (kdec dc_StringLatin1_canEncode_9a6ad 5 rfl) 12 rfl rfl ⟨by decide, by decide⟩ ?_
      refine kw_goto C (kdec dc_StringLatin1_canEncode_9a6ad 6 rfl) 16 (by decide) ?_
      obtain rfl := Option.some.inj h
      exact kw_Q (hR _ rfl) (kw_zreturn C (kdec dc_StringLatin1_canEncode_9a6ad 8 rfl) (by decide))
theorem mt_pf_StringLatin1_canEncode_9a6ad (l0 : Launch) {σ : kM} {x0 : Int} {r : Int} (h : pf_StringLatin1_canEncode_9a6ad σ x0 = some r) : kMet l0 ky_StringLatin1_canEncode_9a6ad prog_27_method_4_code 1 (some .boolean) R0_pf_StringLatin1_canEncode_9a6ad kcl yC σ [ki x0] (some (ki r)) σ := kMet.of' [some (ki x0)] (by decide) (Nat.le_of_ble_eq_true rfl) ⟨rfl, trivial⟩ (fun x C => bd_pf_StringLatin1_canEncode_9a6ad C σ x0 h (fun r e => by subst e; rfl))
def R0_pf_StringLatin1_indexOfChar_4cfef : Room := ({ frames := 0, cells := 0, slots := 0, locals := 0 } : Room)
def pf_StringLatin1_indexOfChar_4cfef_l7 (σ : kM) (x0 : Int) (x3 : Int) (x4 : Int) (x5 : Int) : Option ((Int) ⊕ ((Int) ⊕ (Unit))) :=
  if x3 ≤ x5 then
    some (Sum.inr (Sum.inr ()))
  else
    kchk (0 ≤ x5 ∧ x5 < kLn x0) <|
    kchk (0 ≤ x0 ∧ x0 < 19) <|
    if (kBt x0 x5) = x4 then
      some (Sum.inr (Sum.inl x5))
    else
      klet (w32 (x5 + 1)) fun x5_4 =>
      some (Sum.inl x5_4)
set_option maxHeartbeats 4000000 in
theorem bd_pf_StringLatin1_indexOfChar_4cfef_l7 {x : kX} {l0 : Launch} {Q : State → Prop} (C : kCx x prog_27_method_23_code "java/lang/StringLatin1" (some .int) kcl yC 6 l0 R0_pf_StringLatin1_indexOfChar_4cfef) (σ : kM) (x0 : Int) (x3 : Int) (x4 : Int) (x5 : Int) {out : (Int) ⊕ ((Int) ⊕ (Unit))} (h : pf_StringLatin1_indexOfChar_4cfef_l7 σ x0 x3 x4 x5 = some out) (hC : ∀ (x5' : Int), out = Sum.inl x5' → KW x 0 0 Q σ 7 [some (ke (4 * x0 + 2)), none, none, some (ki x3), some (ki x4), some (ki x5')] []) (hX22 : ∀ (x5' : Int), out = Sum.inr (Sum.inl x5') → KW x 0 0 Q σ 22 [none, none, none, none, none, some (ki x5')] []) (hX31 : out = Sum.inr (Sum.inr ()) → KW x 0 0 Q σ 31 [none, none, none, none, none, none] []) : KW x 0 0 Q σ 7 [some (ke (4 * x0 + 2)), none, none, some (ki x3), some (ki x4), some (ki x5)] [] := by
  unfold pf_StringLatin1_indexOfChar_4cfef_l7 at h
  refine kw_iload C (kdec dc_StringLatin1_indexOfChar_4cfef 5 rfl) 9 rfl rfl ?_
  refine kw_iload_n C (kdec dc_StringLatin1_indexOfChar_4cfef 6 rfl) rfl 10 rfl rfl ?_
  refine kw_icmp_ge C (kdec dc_StringLatin1_indexOfChar_4cfef 7 rfl) 31 13 (by decide) rfl (fun hc10 => ?_) (fun hc10 => ?_)
  · rw [if_pos hc10] at h
    obtain rfl := Option.some.inj h
    exact kw_sub (L' := [none, none, none, none, none, none]) trivial (hX31 rfl)
  · rw [if_neg hc10] at h
    refine kw_eload_n C (kdec dc_StringLatin1_indexOfChar_4cfef 8 rfl) rfl 14 rfl rfl ?_
    refine kw_iload C (kdec dc_StringLatin1_indexOfChar_4cfef 9 rfl) 16 rfl rfl ?_
    obtain ⟨hc_2, h⟩ := kchk_h h
    obtain ⟨hc_3, h⟩ := kchk_h h
    refine kw_baldV C (kdec dc_StringLatin1_indexOfChar_4cfef 10 rfl) 17 rfl hc_3.1 hc_3.2 hc_2.1 hc_2.2 ?_
    refine kw_iload C (kdec dc_StringLatin1_indexOfChar_4cfef 11 rfl) 19 rfl rfl ?_
    refine kw_icmp_ne C (kdec dc_StringLatin1_indexOfChar_4cfef 12 rfl) 25 22 (by decide) rfl (fun hc19 => ?_) (fun hc19 => ?_)
    · rw [if_neg hc19] at h
      obtain ⟨x5_4, ex5_4, h⟩ := klet_h h
      refine kw_iinc (L' := [some (ke (4 * x0 + 2)), none, none, some (ki x3), some (ki x4), some (ki x5_4)]) C (kdec dc_StringLatin1_indexOfChar_4cfef 15 rfl) 28 rfl rfl (by decide) rfl (by rw [ex5_4]; rfl) ?_
      refine kw_goto C (kdec dc_StringLatin1_indexOfChar_4cfef 16 rfl) 7 (by decide) ?_
      obtain rfl := Option.some.inj h
      exact (hC _ rfl)
    · rw [if_pos hc19] at h
      obtain rfl := Option.some.inj h
      exact kw_sub (L' := [none, none, none, none, none, some (ki x5)]) ⟨rfl, trivial⟩ (hX22 _ rfl)
theorem lp_pf_StringLatin1_indexOfChar_4cfef_l7 {x : kX} {l0 : Launch} {Q : State → Prop} (C : kCx x prog_27_method_23_code "java/lang/StringLatin1" (some .int) kcl yC 6 l0 R0_pf_StringLatin1_indexOfChar_4cfef) (σ : kM) (x0 : Int) (x3 : Int) (x4 : Int) {ex : (Int) ⊕ (Unit)} (hX22 : ∀ (x5' : Int), ex = (Sum.inl x5') → KW x 0 0 Q σ 22 [none, none, none, none, none, some (ki x5')] []) (hX31 : ex = (Sum.inr ()) → KW x 0 0 Q σ 31 [none, none, none, none, none, none] []) (n : Nat) (x5 : Int) (h : kloop (fun st => pf_StringLatin1_indexOfChar_4cfef_l7 σ x0 x3 x4 st) n x5 = some ex) : KW x 0 0 Q σ 7 [some (ke (4 * x0 + 2)), none, none, some (ki x3), some (ki x4), some (ki x5)] [] :=
  kloop_ind (P := (fun st : Int => KW x 0 0 Q σ 7 [some (ke (4 * x0 + 2)), none, none, some (ki x3), some (ki x4), some (ki st)] [])) (fun st out hb hc hx => bd_pf_StringLatin1_indexOfChar_4cfef_l7 C σ x0 x3 x4 st hb (fun a0 e => hc _ e) (fun a0 e => hX22 _ ((hx _ e).symm)) (fun e => hX31 ((hx _ e).symm))) n x5 h
def pf_StringLatin1_indexOfChar_4cfef (σ : kM) (x0 : Int) (x1 : Int) (x2 : Int) (x3 : Int) : Option (Int) :=
  klet (kb8 x1) fun x4_1 =>
  (kloop (fun st => pf_StringLatin1_indexOfChar_4cfef_l7 σ x0 x3 x4_1 st) kFuel x2).bind fun ex_5 => match ex_5 with
    | (Sum.inl x5_7) =>
      some x5_7
    | (Sum.inr ()) =>
      some ((-1))
set_option maxHeartbeats 4000000 in
theorem bd_pf_StringLatin1_indexOfChar_4cfef {x : kX} {l0 : Launch} {Q : State → Prop} (C : kCx x prog_27_method_23_code "java/lang/StringLatin1" (some .int) kcl yC 6 l0 R0_pf_StringLatin1_indexOfChar_4cfef) (σ : kM) (x0 : Int) (x1 : Int) (x2 : Int) (x3 : Int) {out : Int} (h : pf_StringLatin1_indexOfChar_4cfef σ x0 x1 x2 x3 = some out) (hR : ∀ (r : Int), out = r → Q = kQ x (some (ki r)) σ 0 0) : KW x 0 0 Q σ 0 [some (ke (4 * x0 + 2)), some (ki x1), some (ki x2), some (ki x3), none, none] [] := by
  unfold pf_StringLatin1_indexOfChar_4cfef at h
  refine kw_iload_n C (kdec dc_StringLatin1_indexOfChar_4cfef 0 rfl) rfl 1 rfl rfl ?_
  refine kw_i2b C (kdec dc_StringLatin1_indexOfChar_4cfef 1 rfl) 2 rfl ?_
  obtain ⟨x4_1, ex4_1, h⟩ := klet_h h
  refine kw_top ex4_1 ?_
  refine kw_istore (L' := [some (ke (4 * x0 + 2)), some (ki x1), some (ki x2), some (ki x3), some (ki x4_1), none]) C (kdec dc_StringLatin1_indexOfChar_4cfef 2 rfl) 4 rfl (by decide) rfl rfl ?_
  refine kw_iload_n C (kdec dc_StringLatin1_indexOfChar_4cfef 3 rfl) rfl 5 rfl rfl ?_
  refine kw_istore (L' := [some (ke (4 * x0 + 2)), some (ki x1), some (ki x2), some (ki x3), some (ki x4_1), some (ki x2)]) C (kdec dc_StringLatin1_indexOfChar_4cfef 4 rfl) 7 rfl (by decide) rfl rfl ?_
  obtain ⟨ex_5, hl_6, h⟩ := kbind_h h
  refine kw_sub (L' := [some (ke (4 * x0 + 2)), none, none, some (ki x3), some (ki x4_1), some (ki x2)]) ⟨rfl, rfl, rfl, rfl, trivial⟩ (lp_pf_StringLatin1_indexOfChar_4cfef_l7 C σ x0 x3 x4_1 ?_ ?_ kFuel x2 hl_6)
  · intro x5_7 e
    subst ex_5
    try dsimp only at h
    refine kw_iload C (kdec dc_StringLatin1_indexOfChar_4cfef 13 rfl) 24 rfl rfl ?_
    obtain rfl := Option.some.inj h
    exact kw_Q (hR _ rfl) (kw_ireturn C (kdec dc_StringLatin1_indexOfChar_4cfef 14 rfl))
  · intro e
    subst ex_5
    try dsimp only at h
    refine kw_iconst C (kdec dc_StringLatin1_indexOfChar_4cfef 17 rfl) 32 rfl rfl ⟨by decide, by decide⟩ ?_
    obtain rfl := Option.some.inj h
    exact kw_Q (hR _ rfl) (kw_ireturn C (kdec dc_StringLatin1_indexOfChar_4cfef 18 rfl))
theorem mt_pf_StringLatin1_indexOfChar_4cfef (l0 : Launch) {σ : kM} {x0 : Int} {x1 : Int} {x2 : Int} {x3 : Int} {r : Int} (h : pf_StringLatin1_indexOfChar_4cfef σ x0 x1 x2 x3 = some r) : kMet l0 ky_StringLatin1_indexOfChar_4cfef prog_27_method_23_code 6 (some .int) R0_pf_StringLatin1_indexOfChar_4cfef kcl yC σ [ke (4 * x0 + 2), ki x1, ki x2, ki x3] (some (ki r)) σ := kMet.of' [some (ke (4 * x0 + 2)), some (ki x1), some (ki x2), some (ki x3), none, none] (by decide) (Nat.le_of_ble_eq_true rfl) ⟨rfl, rfl, rfl, rfl, trivial⟩ (fun x C => bd_pf_StringLatin1_indexOfChar_4cfef C σ x0 x1 x2 x3 h (fun r e => by subst e; rfl))
def R0_pf_StringLatin1_indexOf_4cfef : Room := ({ frames := 1, cells := 0, slots := 0, locals := 25 } : Room)
def pf_StringLatin1_indexOf_4cfef (σ : kM) (x0 : Int) (x1 : Int) (x2 : Int) (x3 : Int) : Option (Int) :=
  (pf_StringLatin1_canEncode_9a6ad σ x1).bind fun r_1 =>
  if r_1 = 0 then
    some ((-1))
  else
    klet (max x2 0) fun x2_2 =>
    kchk (0 ≤ x0 ∧ x0 < 19) <|
    klet (min x3 (kLn x0)) fun x3_4 =>
    if x2_2 < x3_4 then
      (pf_StringLatin1_indexOfChar_4cfef σ x0 x1 x2_2 x3_4).bind fun r_5 =>
      some r_5
    else
      some ((-1))
set_option maxHeartbeats 4000000 in
theorem bd_pf_StringLatin1_indexOf_4cfef {x : kX} {l0 : Launch} {Q : State → Prop} (C : kCx x prog_27_method_22_code "java/lang/StringLatin1" (some .int) kcl yC 4 l0 R0_pf_StringLatin1_indexOf_4cfef) (σ : kM) (x0 : Int) (x1 : Int) (x2 : Int) (x3 : Int) {out : Int} (h : pf_StringLatin1_indexOf_4cfef σ x0 x1 x2 x3 = some out) (hR : ∀ (r : Int), out = r → Q = kQ x (some (ki r)) σ 0 0) : KW x 0 0 Q σ 0 [some (ke (4 * x0 + 2)), some (ki x1), some (ki x2), some (ki x3)] [] := by
  unfold pf_StringLatin1_indexOf_4cfef at h
  refine kw_iload_n C (kdec dc_StringLatin1_indexOf_4cfef 0 rfl) rfl 1 rfl rfl ?_
  obtain ⟨r_1, hg_7, h⟩ := kbind_h h
  refine kw_callS (As := [ki x1]) C (kdec dc_StringLatin1_indexOf_4cfef 1 rfl) 4 rfl cs_StringLatin1_88 (mt_pf_StringLatin1_canEncode_9a6ad l0 hg_7) ⟨rfl, rfl⟩ ⟨Nat.le_of_ble_eq_true rfl, Nat.le_of_ble_eq_true rfl⟩ ⟨Nat.zero_le _, Nat.zero_le _⟩ rfl (Nat.le_of_ble_eq_true rfl) ?_
  change KW x 0 0 Q σ 4 [some (ke (4 * x0 + 2)), some (ki x1), some (ki x2), some (ki x3)] [ki r_1]
  refine kw_if_ne C (kdec dc_StringLatin1_indexOf_4cfef 2 rfl) 9 7 (by decide) rfl (fun hc4 => ?_) (fun hc4 => ?_)
  · rw [if_neg hc4] at h
    refine kw_iload_n C (kdec dc_StringLatin1_indexOf_4cfef 5 rfl) rfl 10 rfl rfl ?_
    refine kw_iconst C (kdec dc_StringLatin1_indexOf_4cfef 6 rfl) 11 rfl rfl ⟨by decide, by decide⟩ ?_
    refine kw_max C (kdec dc_StringLatin1_indexOf_4cfef 7 rfl) 14 rfl cm_StringLatin1_92 ⟨Nat.le_of_ble_eq_true rfl, Nat.le_of_ble_eq_true rfl⟩ ⟨Nat.zero_le _, Nat.zero_le _⟩ (Nat.le_of_ble_eq_true rfl) ?_
    obtain ⟨x2_2, ex2_2, h⟩ := klet_h h
    refine kw_top ex2_2 ?_
    refine kw_istore_n (L' := [some (ke (4 * x0 + 2)), some (ki x1), some (ki x2_2), some (ki x3)]) C (kdec dc_StringLatin1_indexOf_4cfef 8 rfl) rfl 15 rfl (by decide) rfl rfl ?_
    refine kw_iload_n C (kdec dc_StringLatin1_indexOf_4cfef 9 rfl) rfl 16 rfl rfl ?_
    refine kw_eload_n C (kdec dc_StringLatin1_indexOf_4cfef 10 rfl) rfl 17 rfl rfl ?_
    obtain ⟨hc_3, h⟩ := kchk_h h
    refine kw_alenV C (kdec dc_StringLatin1_indexOf_4cfef 11 rfl) 18 rfl hc_3.1 hc_3.2 ?_
    refine kw_min C (kdec dc_StringLatin1_indexOf_4cfef 12 rfl) 21 rfl cm_StringLatin1_38 ⟨Nat.le_of_ble_eq_true rfl, Nat.le_of_ble_eq_true rfl⟩ ⟨Nat.zero_le _, Nat.zero_le _⟩ (Nat.le_of_ble_eq_true rfl) ?_
    obtain ⟨x3_4, ex3_4, h⟩ := klet_h h
    refine kw_top ex3_4 ?_
    refine kw_istore_n (L' := [some (ke (4 * x0 + 2)), some (ki x1), some (ki x2_2), some (ki x3_4)]) C (kdec dc_StringLatin1_indexOf_4cfef 13 rfl) rfl 22 rfl (by decide) rfl rfl ?_
    refine kw_iload_n C (kdec dc_StringLatin1_indexOf_4cfef 14 rfl) rfl 23 rfl rfl ?_
    refine kw_iload_n C (kdec dc_StringLatin1_indexOf_4cfef 15 rfl) rfl 24 rfl rfl ?_
    refine kw_icmp_lt C (kdec dc_StringLatin1_indexOf_4cfef 16 rfl) 29 27 (by decide) rfl (fun hc24 => ?_) (fun hc24 => ?_)
    · rw [if_pos hc24] at h
      refine kw_eload_n C (kdec dc_StringLatin1_indexOf_4cfef 19 rfl) rfl 30 rfl rfl ?_
      refine kw_iload_n C (kdec dc_StringLatin1_indexOf_4cfef 20 rfl) rfl 31 rfl rfl ?_
      refine kw_iload_n C (kdec dc_StringLatin1_indexOf_4cfef 21 rfl) rfl 32 rfl rfl ?_
      refine kw_iload_n C (kdec dc_StringLatin1_indexOf_4cfef 22 rfl) rfl 33 rfl rfl ?_
      obtain ⟨r_5, hg_6, h⟩ := kbind_h h
      refine kw_callS (As := [ke (4 * x0 + 2), ki x1, ki x2_2, ki x3_4]) C (kdec dc_StringLatin1_indexOf_4cfef 23 rfl) 36 rfl cs_StringLatin1_95 (mt_pf_StringLatin1_indexOfChar_4cfef l0 hg_6) ⟨rfl, rfl⟩ ⟨Nat.le_of_ble_eq_true rfl, Nat.le_of_ble_eq_true rfl⟩ ⟨Nat.zero_le _, Nat.zero_le _⟩ rfl (Nat.le_of_ble_eq_true rfl) ?_
      change KW x 0 0 Q σ 36 [some (ke (4 * x0 + 2)), some (ki x1), some (ki x2_2), some (ki x3_4)] [ki r_5]
      obtain rfl := Option.some.inj h
      exact kw_Q (hR _ rfl) (kw_ireturn C (kdec dc_StringLatin1_indexOf_4cfef 24 rfl))
    · rw [if_neg hc24] at h
      refine kw_iconst C (kdec dc_StringLatin1_indexOf_4cfef 17 rfl) 28 rfl rfl ⟨by decide, by decide⟩ ?_
      obtain rfl := Option.some.inj h
      exact kw_Q (hR _ rfl) (kw_ireturn C (kdec dc_StringLatin1_indexOf_4cfef 18 rfl))
  · rw [if_pos hc4] at h
    refine kw_iconst C (kdec dc_StringLatin1_indexOf_4cfef 3 rfl) 8 rfl rfl ⟨by decide, by decide⟩ ?_
    obtain rfl := Option.some.inj h
    exact kw_Q (hR _ rfl) (kw_ireturn C (kdec dc_StringLatin1_indexOf_4cfef 4 rfl))
theorem mt_pf_StringLatin1_indexOf_4cfef (l0 : Launch) {σ : kM} {x0 : Int} {x1 : Int} {x2 : Int} {x3 : Int} {r : Int} (h : pf_StringLatin1_indexOf_4cfef σ x0 x1 x2 x3 = some r) : kMet l0 ky_StringLatin1_indexOf_4cfef prog_27_method_22_code 4 (some .int) R0_pf_StringLatin1_indexOf_4cfef kcl yC σ [ke (4 * x0 + 2), ki x1, ki x2, ki x3] (some (ki r)) σ := kMet.of' [some (ke (4 * x0 + 2)), some (ki x1), some (ki x2), some (ki x3)] (by decide) (Nat.le_of_ble_eq_true rfl) ⟨rfl, rfl, rfl, rfl, trivial⟩ (fun x C => bd_pf_StringLatin1_indexOf_4cfef C σ x0 x1 x2 x3 h (fun r e => by subst e; rfl))
def R0_pf_String_indexOf_7cf53 : Room := ({ frames := 2, cells := 0, slots := 0, locals := 48 } : Room)
def pf_String_indexOf_7cf53 (σ : kM) (x0 : Int) (x1 : Int) (x2 : Int) : Option (Int) :=
  kchk (0 ≤ x0 ∧ x0 < 19) <|
  (pf_String_isLatin1_aae02 σ x0).bind fun r_1 =>
  if r_1 = 0 then
    kchk (0 ≤ x0 ∧ x0 < 19) <|
    kchk (0 ≤ x0 ∧ x0 < 19) <|
    (pf_String_length_8abf5 σ x0).bind fun r_3 =>
    none
  else
    kchk (0 ≤ x0 ∧ x0 < 19) <|
    kchk (0 ≤ x0 ∧ x0 < 19) <|
    (pf_String_length_8abf5 σ x0).bind fun r_7 =>
    (pf_StringLatin1_indexOf_4cfef σ x0 x1 x2 r_7).bind fun r_8 =>
    some r_8
set_option maxHeartbeats 4000000 in
theorem bd_pf_String_indexOf_7cf53 {x : kX} {l0 : Launch} {Q : State → Prop} (C : kCx x prog_26_method_80_code "java/lang/String" (some .int) kcl yC 3 l0 R0_pf_String_indexOf_7cf53) (σ : kM) (x0 : Int) (x1 : Int) (x2 : Int) {out : Int} (h : pf_String_indexOf_7cf53 σ x0 x1 x2 = some out) (hR : ∀ (r : Int), out = r → Q = kQ x (some (ki r)) σ 0 0) : KW x 0 0 Q σ 0 [some (ke (4 * x0 + 1)), some (ki x1), some (ki x2)] [] := by
  unfold pf_String_indexOf_7cf53 at h
  refine kw_eload_n C (kdec dc_String_indexOf_7cf53 0 rfl) rfl 1 rfl rfl ?_
  obtain ⟨hc_13, h⟩ := kchk_h h
  obtain ⟨r_1, hg_12, h⟩ := kbind_h h
  refine kw_callT (As := []) C (kdec dc_String_indexOf_7cf53 1 rfl) 4 rfl hc_13.1 hc_13.2 cv_String_492 (mt_pf_String_isLatin1_aae02 l0 hg_12) ⟨rfl, rfl⟩ ⟨Nat.le_of_ble_eq_true rfl, Nat.le_of_ble_eq_true rfl⟩ ⟨Nat.zero_le _, Nat.zero_le _⟩ rfl (Nat.le_of_ble_eq_true rfl) ?_
  change KW x 0 0 Q σ 4 [some (ke (4 * x0 + 1)), some (ki x1), some (ki x2)] [ki r_1]
  refine kw_if_eq C (kdec dc_String_indexOf_7cf53 2 rfl) 23 7 (by decide) rfl (fun hc4 => ?_) (fun hc4 => ?_)
  · rw [if_pos hc4] at h
    refine kw_eload_n C (kdec dc_String_indexOf_7cf53 11 rfl) rfl 24 rfl rfl ?_
    obtain ⟨hc_2, h⟩ := kchk_h h
    refine kw_getTv C (kdec dc_String_indexOf_7cf53 12 rfl) 27 rfl hc_2.1 hc_2.2 wd_2220 ?_
    refine kw_iload_n C (kdec dc_String_indexOf_7cf53 13 rfl) rfl 28 rfl rfl ?_
    refine kw_iload_n C (kdec dc_String_indexOf_7cf53 14 rfl) rfl 29 rfl rfl ?_
    refine kw_eload_n C (kdec dc_String_indexOf_7cf53 15 rfl) rfl 30 rfl rfl ?_
    obtain ⟨hc_5, h⟩ := kchk_h h
    obtain ⟨r_3, hg_4, h⟩ := kbind_h h
    refine kw_callT (As := []) C (kdec dc_String_indexOf_7cf53 16 rfl) 33 rfl hc_5.1 hc_5.2 cv_String_505 (mt_pf_String_length_8abf5 l0 hg_4) ⟨rfl, rfl⟩ ⟨Nat.le_of_ble_eq_true rfl, Nat.le_of_ble_eq_true rfl⟩ ⟨Nat.zero_le _, Nat.zero_le _⟩ rfl (Nat.le_of_ble_eq_true rfl) ?_
    change KW x 0 0 Q σ 33 [some (ke (4 * x0 + 1)), some (ki x1), some (ki x2)] [ki r_3, ki x2, ki x1, ke (4 * x0 + 2)]
    cases h
  · rw [if_neg hc4] at h
    refine kw_eload_n C (kdec dc_String_indexOf_7cf53 3 rfl) rfl 8 rfl rfl ?_
    obtain ⟨hc_6, h⟩ := kchk_h h
    refine kw_getTv C (kdec dc_String_indexOf_7cf53 4 rfl) 11 rfl hc_6.1 hc_6.2 wd_2220 ?_
    refine kw_iload_n C (kdec dc_String_indexOf_7cf53 5 rfl) rfl 12 rfl rfl ?_
    refine kw_iload_n C (kdec dc_String_indexOf_7cf53 6 rfl) rfl 13 rfl rfl ?_
    refine kw_eload_n C (kdec dc_String_indexOf_7cf53 7 rfl) rfl 14 rfl rfl ?_
    obtain ⟨hc_11, h⟩ := kchk_h h
    obtain ⟨r_7, hg_10, h⟩ := kbind_h h
    refine kw_callT (As := []) C (kdec dc_String_indexOf_7cf53 8 rfl) 17 rfl hc_11.1 hc_11.2 cv_String_505 (mt_pf_String_length_8abf5 l0 hg_10) ⟨rfl, rfl⟩ ⟨Nat.le_of_ble_eq_true rfl, Nat.le_of_ble_eq_true rfl⟩ ⟨Nat.zero_le _, Nat.zero_le _⟩ rfl (Nat.le_of_ble_eq_true rfl) ?_
    change KW x 0 0 Q σ 17 [some (ke (4 * x0 + 1)), some (ki x1), some (ki x2)] [ki r_7, ki x2, ki x1, ke (4 * x0 + 2)]
    obtain ⟨r_8, hg_9, h⟩ := kbind_h h
    refine kw_callS (As := [ke (4 * x0 + 2), ki x1, ki x2, ki r_7]) C (kdec dc_String_indexOf_7cf53 9 rfl) 20 rfl cs_String_637 (mt_pf_StringLatin1_indexOf_4cfef l0 hg_9) ⟨rfl, rfl⟩ ⟨Nat.le_of_ble_eq_true rfl, Nat.le_of_ble_eq_true rfl⟩ ⟨Nat.zero_le _, Nat.zero_le _⟩ rfl (Nat.le_of_ble_eq_true rfl) ?_
    change KW x 0 0 Q σ 20 [some (ke (4 * x0 + 1)), some (ki x1), some (ki x2)] [ki r_8]
    refine kw_goto C (kdec dc_String_indexOf_7cf53 10 rfl) 36 (by decide) ?_
    obtain rfl := Option.some.inj h
    exact kw_Q (hR _ rfl) (kw_ireturn C (kdec dc_String_indexOf_7cf53 18 rfl))
theorem mt_pf_String_indexOf_7cf53 (l0 : Launch) {σ : kM} {x0 : Int} {x1 : Int} {x2 : Int} {r : Int} (h : pf_String_indexOf_7cf53 σ x0 x1 x2 = some r) : kMet l0 ky_String_indexOf_7cf53 prog_26_method_80_code 3 (some .int) R0_pf_String_indexOf_7cf53 kcl yC σ [ke (4 * x0 + 1), ki x1, ki x2] (some (ki r)) σ := kMet.of' [some (ke (4 * x0 + 1)), some (ki x1), some (ki x2)] (by decide) (Nat.le_of_ble_eq_true rfl) ⟨rfl, rfl, rfl, trivial⟩ (fun x C => bd_pf_String_indexOf_7cf53 C σ x0 x1 x2 h (fun r e => by subst e; rfl))
def R0_pf_String_indexOf_0f7a4 : Room := ({ frames := 3, cells := 0, slots := 0, locals := 70 } : Room)
def pf_String_indexOf_0f7a4 (σ : kM) (x0 : Int) (x1 : Int) : Option (Int) :=
  kchk (0 ≤ x0 ∧ x0 < 19) <|
  (pf_String_indexOf_7cf53 σ x0 x1 0).bind fun r_1 =>
  some r_1
set_option maxHeartbeats 4000000 in
theorem bd_pf_String_indexOf_0f7a4 {x : kX} {l0 : Launch} {Q : State → Prop} (C : kCx x prog_26_method_79_code "java/lang/String" (some .int) kcl yC 2 l0 R0_pf_String_indexOf_0f7a4) (σ : kM) (x0 : Int) (x1 : Int) {out : Int} (h : pf_String_indexOf_0f7a4 σ x0 x1 = some out) (hR : ∀ (r : Int), out = r → Q = kQ x (some (ki r)) σ 0 0) : KW x 0 0 Q σ 0 [some (ke (4 * x0 + 1)), some (ki x1)] [] := by
  unfold pf_String_indexOf_0f7a4 at h
  refine kw_eload_n C (kdec dc_String_indexOf_0f7a4 0 rfl) rfl 1 rfl rfl ?_
  refine kw_iload_n C (kdec dc_String_indexOf_0f7a4 1 rfl) rfl 2 rfl rfl ?_
  refine kw_iconst C (kdec dc_String_indexOf_0f7a4 2 rfl) 3 rfl rfl ⟨by decide, by decide⟩ ?_
  obtain ⟨hc_3, h⟩ := kchk_h h
  obtain ⟨r_1, hg_2, h⟩ := kbind_h h
  refine kw_callT (As := [ki x1, ki 0]) C (kdec dc_String_indexOf_0f7a4 3 rfl) 6 rfl hc_3.1 hc_3.2 cv_String_633 (mt_pf_String_indexOf_7cf53 l0 hg_2) ⟨rfl, rfl⟩ ⟨Nat.le_of_ble_eq_true rfl, Nat.le_of_ble_eq_true rfl⟩ ⟨Nat.zero_le _, Nat.zero_le _⟩ rfl (Nat.le_of_ble_eq_true rfl) ?_
  change KW x 0 0 Q σ 6 [some (ke (4 * x0 + 1)), some (ki x1)] [ki r_1]
  obtain rfl := Option.some.inj h
  exact kw_Q (hR _ rfl) (kw_ireturn C (kdec dc_String_indexOf_0f7a4 4 rfl))
theorem mt_pf_String_indexOf_0f7a4 (l0 : Launch) {σ : kM} {x0 : Int} {x1 : Int} {r : Int} (h : pf_String_indexOf_0f7a4 σ x0 x1 = some r) : kMet l0 ky_String_indexOf_0f7a4 prog_26_method_79_code 2 (some .int) R0_pf_String_indexOf_0f7a4 kcl yC σ [ke (4 * x0 + 1), ki x1] (some (ki r)) σ := kMet.of' [some (ke (4 * x0 + 1)), some (ki x1)] (by decide) (Nat.le_of_ble_eq_true rfl) ⟨rfl, rfl, trivial⟩ (fun x C => bd_pf_String_indexOf_0f7a4 C σ x0 x1 h (fun r e => by subst e; rfl))
def R0_pf_Tokens_valueOf_24 : Room := ({ frames := 1, cells := 0, slots := 0, locals := 21 } : Room)
def pf_Tokens_valueOf_24_l5 (σ : kM) (x2 : Int) (x3 : Int) (x4 : Int) : Option ((Int × Int) ⊕ ((Int))) :=
  if x2 ≤ x4 then
    some (Sum.inr x3)
  else
    kchk (0 ≤ x4 ∧ x4 < 700) <|
    klet (min (w32 ((w32 ((w32 (x3 * 10)) + (σ 1 x4.toNat))) - 48)) 10000) fun x3_2 =>
    klet (w32 (x4 + 1)) fun x4_3 =>
    some (Sum.inl (x3_2, x4_3))
set_option maxHeartbeats 4000000 in
theorem bd_pf_Tokens_valueOf_24_l5 {x : kX} {l0 : Launch} {Q : State → Prop} (C : kCx x prog_10_method_14_code "PoetFines$Tokens" (some .int) kcl yC 5 l0 R0_pf_Tokens_valueOf_24) (σ : kM) (x2 : Int) (x3 : Int) (x4 : Int) {out : (Int × Int) ⊕ ((Int))} (h : pf_Tokens_valueOf_24_l5 σ x2 x3 x4 = some out) (hC : ∀ (x3' : Int) (x4' : Int), out = Sum.inl (x3', x4') → KW x 0 0 Q σ 5 [some (kr 24), none, some (ki x2), some (ki x3'), some (ki x4')] []) (hX39 : ∀ (x3' : Int), out = Sum.inr x3' → KW x 0 0 Q σ 39 [none, none, none, some (ki x3'), none] []) : KW x 0 0 Q σ 5 [some (kr 24), none, some (ki x2), some (ki x3), some (ki x4)] [] := by
  unfold pf_Tokens_valueOf_24_l5 at h
  refine kw_iload C (kdec dc_Tokens_valueOf 4 rfl) 7 rfl rfl ?_
  refine kw_iload_n C (kdec dc_Tokens_valueOf 5 rfl) rfl 8 rfl rfl ?_
  refine kw_icmp_ge C (kdec dc_Tokens_valueOf 6 rfl) 39 11 (by decide) rfl (fun hc8 => ?_) (fun hc8 => ?_)
  · rw [if_pos hc8] at h
    obtain rfl := Option.some.inj h
    exact kw_sub (L' := [none, none, none, some (ki x3), none]) ⟨rfl, trivial⟩ (hX39 _ rfl)
  · rw [if_neg hc8] at h
    refine kw_iload_n C (kdec dc_Tokens_valueOf 7 rfl) rfl 12 rfl rfl ?_
    refine kw_bipush (v := 10) C (kdec dc_Tokens_valueOf 8 rfl) 14 rfl (by decide) ⟨by decide, by decide⟩ ?_
    refine kw_imul C (kdec dc_Tokens_valueOf 9 rfl) 15 rfl ?_
    refine kw_aload_n C (kdec dc_Tokens_valueOf 10 rfl) rfl 16 rfl rfl ?_
    refine kw_getR C (kdec dc_Tokens_valueOf 11 rfl) 19 rfl fd_C_Tokens_31_24 ?_
    refine kw_iload C (kdec dc_Tokens_valueOf 12 rfl) 21 rfl rfl ?_
    obtain ⟨hc_1, h⟩ := kchk_h h
    refine kw_bald C (kdec dc_Tokens_valueOf 13 rfl) 22 rfl rfl hc_1.1 hc_1.2 ?_
    refine kw_iadd C (kdec dc_Tokens_valueOf 14 rfl) 23 rfl ?_
    refine kw_bipush (v := 48) C (kdec dc_Tokens_valueOf 15 rfl) 25 rfl (by decide) ⟨by decide, by decide⟩ ?_
    refine kw_isub C (kdec dc_Tokens_valueOf 16 rfl) 26 rfl ?_
    refine kw_sipush (v := 10000) C (kdec dc_Tokens_valueOf 17 rfl) 29 rfl (by decide) ⟨by decide, by decide⟩ ?_
    refine kw_min C (kdec dc_Tokens_valueOf 18 rfl) 32 rfl cm_Tokens_35 ⟨Nat.le_of_ble_eq_true rfl, Nat.le_of_ble_eq_true rfl⟩ ⟨Nat.zero_le _, Nat.zero_le _⟩ (Nat.le_of_ble_eq_true rfl) ?_
    obtain ⟨x3_2, ex3_2, h⟩ := klet_h h
    refine kw_top ex3_2 ?_
    refine kw_istore_n (L' := [some (kr 24), none, some (ki x2), some (ki x3_2), some (ki x4)]) C (kdec dc_Tokens_valueOf 19 rfl) rfl 33 rfl (by decide) rfl rfl ?_
    obtain ⟨x4_3, ex4_3, h⟩ := klet_h h
    refine kw_iinc (L' := [some (kr 24), none, some (ki x2), some (ki x3_2), some (ki x4_3)]) C (kdec dc_Tokens_valueOf 20 rfl) 36 rfl rfl (by decide) rfl (by rw [ex4_3]; rfl) ?_
    refine kw_goto C (kdec dc_Tokens_valueOf 21 rfl) 5 (by decide) ?_
    obtain rfl := Option.some.inj h
    exact (hC _ _ rfl)
theorem lp_pf_Tokens_valueOf_24_l5 {x : kX} {l0 : Launch} {Q : State → Prop} (C : kCx x prog_10_method_14_code "PoetFines$Tokens" (some .int) kcl yC 5 l0 R0_pf_Tokens_valueOf_24) (σ : kM) (x2 : Int) {ex : (Int)} (hX39 : ∀ (x3' : Int), ex = x3' → KW x 0 0 Q σ 39 [none, none, none, some (ki x3'), none] []) (n : Nat) (x3 : Int) (x4 : Int) (h : kloop (fun st => pf_Tokens_valueOf_24_l5 σ x2 st.1 st.2) n (x3, x4) = some ex) : KW x 0 0 Q σ 5 [some (kr 24), none, some (ki x2), some (ki x3), some (ki x4)] [] :=
  kloop_ind (P := (fun st : Int × Int => KW x 0 0 Q σ 5 [some (kr 24), none, some (ki x2), some (ki (st.1)), some (ki (st.2))] [])) (fun st out hb hc hx => bd_pf_Tokens_valueOf_24_l5 C σ x2 st.1 st.2 hb (fun a0 a1 e => hc _ e) (fun a0 e => hX39 _ ((hx _ e).symm))) n (x3, x4) h
def pf_Tokens_valueOf_24 (σ : kM) (x1 : Int) (x2 : Int) : Option (Int) :=
  (kloop (fun st => pf_Tokens_valueOf_24_l5 σ x2 st.1 st.2) kFuel (0, x1)).bind fun x3_6 =>
  some x3_6
set_option maxHeartbeats 4000000 in
theorem bd_pf_Tokens_valueOf_24 {x : kX} {l0 : Launch} {Q : State → Prop} (C : kCx x prog_10_method_14_code "PoetFines$Tokens" (some .int) kcl yC 5 l0 R0_pf_Tokens_valueOf_24) (σ : kM) (x1 : Int) (x2 : Int) {out : Int} (h : pf_Tokens_valueOf_24 σ x1 x2 = some out) (hR : ∀ (r : Int), out = r → Q = kQ x (some (ki r)) σ 0 0) : KW x 0 0 Q σ 0 [some (kr 24), some (ki x1), some (ki x2), none, none] [] := by
  unfold pf_Tokens_valueOf_24 at h
  refine kw_iconst C (kdec dc_Tokens_valueOf 0 rfl) 1 rfl rfl ⟨by decide, by decide⟩ ?_
  refine kw_istore_n (L' := [some (kr 24), some (ki x1), some (ki x2), some (ki 0), none]) C (kdec dc_Tokens_valueOf 1 rfl) rfl 2 rfl (by decide) rfl rfl ?_
  refine kw_iload_n C (kdec dc_Tokens_valueOf 2 rfl) rfl 3 rfl rfl ?_
  refine kw_istore (L' := [some (kr 24), some (ki x1), some (ki x2), some (ki 0), some (ki x1)]) C (kdec dc_Tokens_valueOf 3 rfl) 5 rfl (by decide) rfl rfl ?_
  obtain ⟨ex_4, hl_5, h⟩ := kbind_h h
  refine kw_sub (L' := [some (kr 24), none, some (ki x2), some (ki 0), some (ki x1)]) ⟨rfl, rfl, rfl, rfl, trivial⟩ (lp_pf_Tokens_valueOf_24_l5 C σ x2 ?_ kFuel 0 x1 hl_5)
  · intro x3_6 e
    subst ex_4
    try dsimp only at h
    refine kw_iload_n C (kdec dc_Tokens_valueOf 22 rfl) rfl 40 rfl rfl ?_
    obtain rfl := Option.some.inj h
    exact kw_Q (hR _ rfl) (kw_ireturn C (kdec dc_Tokens_valueOf 23 rfl))
theorem mt_pf_Tokens_valueOf_24 (l0 : Launch) {σ : kM} {x1 : Int} {x2 : Int} {r : Int} (h : pf_Tokens_valueOf_24 σ x1 x2 = some r) : kMet l0 ky_Tokens_valueOf prog_10_method_14_code 5 (some .int) R0_pf_Tokens_valueOf_24 kcl yC σ [kr 24, ki x1, ki x2] (some (ki r)) σ := kMet.of' [some (kr 24), some (ki x1), some (ki x2), none, none] (by decide) (Nat.le_of_ble_eq_true rfl) ⟨rfl, rfl, rfl, trivial⟩ (fun x C => bd_pf_Tokens_valueOf_24 C σ x1 x2 h (fun r e => by subst e; rfl))
def R0_pf_Preconditions_checkIndex_8e157 : Room := ({ frames := 0, cells := 0, slots := 0, locals := 0 } : Room)
def pf_Preconditions_checkIndex_8e157 (σ : kM) (x0 : Int) (x1 : Int) : Option (Int) :=
  if x0 < 0 then
    none
  else
    if x0 < x1 then
      some x0
    else
      none
set_option maxHeartbeats 4000000 in
theorem bd_pf_Preconditions_checkIndex_8e157 {x : kX} {l0 : Launch} {Q : State → Prop} {x2 : Int} (C : kCx x prog_34_method_11_code "jdk/internal/util/Preconditions" (some .int) kcl yC 3 l0 R0_pf_Preconditions_checkIndex_8e157) (σ : kM) (x0 : Int) (x1 : Int) {out : Int} (h : pf_Preconditions_checkIndex_8e157 σ x0 x1 = some out) (hR : ∀ (r : Int), out = r → Q = kQ x (some (ki r)) σ 0 0) : KW x 0 0 Q σ 0 [some (ki x0), some (ki x1), some (ke x2)] [] := by
  unfold pf_Preconditions_checkIndex_8e157 at h
  refine kw_iload_n C (kdec dc_Preconditions_checkIndex_8e157 0 rfl) rfl 1 rfl rfl ?_
  refine kw_if_lt C (kdec dc_Preconditions_checkIndex_8e157 1 rfl) 9 4 (by decide) rfl (fun hc1 => ?_) (fun hc1 => ?_)
  · rw [if_pos hc1] at h
    refine kw_eload_n C (kdec dc_Preconditions_checkIndex_8e157 5 rfl) rfl 10 rfl rfl ?_
    refine kw_iload_n C (kdec dc_Preconditions_checkIndex_8e157 6 rfl) rfl 11 rfl rfl ?_
    refine kw_iload_n C (kdec dc_Preconditions_checkIndex_8e157 7 rfl) rfl 12 rfl rfl ?_
    cases h
  · rw [if_neg hc1] at h
    refine kw_iload_n C (kdec dc_Preconditions_checkIndex_8e157 2 rfl) rfl 5 rfl rfl ?_
    refine kw_iload_n C (kdec dc_Preconditions_checkIndex_8e157 3 rfl) rfl 6 rfl rfl ?_
    refine kw_icmp_lt C (kdec dc_Preconditions_checkIndex_8e157 4 rfl) 16 9 (by decide) rfl (fun hc6 => ?_) (fun hc6 => ?_)
    · rw [if_pos hc6] at h
      refine kw_iload_n C (kdec dc_Preconditions_checkIndex_8e157 10 rfl) rfl 17 rfl rfl ?_
      obtain rfl := Option.some.inj h
      exact kw_Q (hR _ rfl) (kw_ireturn C (kdec dc_Preconditions_checkIndex_8e157 11 rfl))
    · rw [if_neg hc6] at h
      refine kw_eload_n C (kdec dc_Preconditions_checkIndex_8e157 5 rfl) rfl 10 rfl rfl ?_
      refine kw_iload_n C (kdec dc_Preconditions_checkIndex_8e157 6 rfl) rfl 11 rfl rfl ?_
      refine kw_iload_n C (kdec dc_Preconditions_checkIndex_8e157 7 rfl) rfl 12 rfl rfl ?_
      cases h
theorem mt_pf_Preconditions_checkIndex_8e157 (l0 : Launch) {x2 : Int} {σ : kM} {x0 : Int} {x1 : Int} {r : Int} (h : pf_Preconditions_checkIndex_8e157 σ x0 x1 = some r) : kMet l0 ky_Preconditions_checkIndex_8e157 prog_34_method_11_code 3 (some .int) R0_pf_Preconditions_checkIndex_8e157 kcl yC σ [ki x0, ki x1, ke x2] (some (ki r)) σ := kMet.of' [some (ki x0), some (ki x1), some (ke x2)] (by decide) (Nat.le_of_ble_eq_true rfl) ⟨rfl, rfl, rfl, trivial⟩ (fun x C => bd_pf_Preconditions_checkIndex_8e157 C σ x0 x1 h (fun r e => by subst e; rfl))
def R0_pf_String_checkIndex_df160 : Room := ({ frames := 1, cells := 0, slots := 0, locals := 22 } : Room)
def pf_String_checkIndex_df160 (σ : kM) (x0 : Int) (x1 : Int) : Option (Unit) :=
  (pf_Preconditions_checkIndex_8e157 σ x0 x1).bind fun r_2 =>
  some (())
set_option maxHeartbeats 4000000 in
theorem bd_pf_String_checkIndex_df160 {x : kX} {l0 : Launch} {Q : State → Prop} (C : kCx x prog_26_method_155_code "java/lang/String" none kcl yC 2 l0 R0_pf_String_checkIndex_df160) (σ : kM) (x0 : Int) (x1 : Int) {out : Unit} (h : pf_String_checkIndex_df160 σ x0 x1 = some out) (hR : out = () → Q = kQ x none σ 0 0) : KW x 0 0 Q σ 0 [some (ki x0), some (ki x1)] [] := by
  unfold pf_String_checkIndex_df160 at h
  refine kw_iload_n C (kdec dc_String_checkIndex_df160 0 rfl) rfl 1 rfl rfl ?_
  refine kw_iload_n C (kdec dc_String_checkIndex_df160 1 rfl) rfl 2 rfl rfl ?_
  refine kw_gsU C (kdec dc_String_checkIndex_df160 2 rfl) 5 rfl wd_822 (fun u_1 => ?_)
  obtain ⟨r_2, hg_3, h⟩ := kbind_h h
  refine kw_callS (As := [ki x0, ki x1, ke u_1]) C (kdec dc_String_checkIndex_df160 3 rfl) 8 rfl cs_String_1059 (mt_pf_Preconditions_checkIndex_8e157 l0 hg_3) ⟨rfl, rfl⟩ ⟨Nat.le_of_ble_eq_true rfl, Nat.le_of_ble_eq_true rfl⟩ ⟨Nat.zero_le _, Nat.zero_le _⟩ rfl (Nat.le_of_ble_eq_true rfl) ?_
  change KW x 0 0 Q σ 8 [some (ki x0), some (ki x1)] [ki r_2]
  refine kw_pop C (kdec dc_String_checkIndex_df160 4 rfl) 9 rfl rfl ?_
  obtain rfl := Option.some.inj h
  exact kw_Q (hR rfl) (kw_return C (kdec dc_String_checkIndex_df160 5 rfl))
theorem mt_pf_String_checkIndex_df160 (l0 : Launch) {σ : kM} {x0 : Int} {x1 : Int} (h : pf_String_checkIndex_df160 σ x0 x1 = some ()) : kMet l0 ky_String_checkIndex_df160 prog_26_method_155_code 2 none R0_pf_String_checkIndex_df160 kcl yC σ [ki x0, ki x1] none σ := kMet.of' [some (ki x0), some (ki x1)] (by decide) (Nat.le_of_ble_eq_true rfl) ⟨rfl, rfl, trivial⟩ (fun x C => bd_pf_String_checkIndex_df160 C σ x0 x1 h (fun _ => rfl))
def R0_pf_StringLatin1_charAt_3b067 : Room := ({ frames := 2, cells := 0, slots := 0, locals := 43 } : Room)
def pf_StringLatin1_charAt_3b067 (σ : kM) (x0 : Int) (x1 : Int) : Option (Int) :=
  kchk (0 ≤ x0 ∧ x0 < 19) <|
  (pf_String_checkIndex_df160 σ x1 (kLn x0)).bind fun _ =>
  kchk (0 ≤ x1 ∧ x1 < kLn x0) <|
  kchk (0 ≤ x0 ∧ x0 < 19) <|
  kchk (0 ≤ (kc16 (kand (kBt x0 x1) 255)) ∧ (kc16 (kand (kBt x0 x1) 255)) < 65536) <|
  some (kc16 (kand (kBt x0 x1) 255))
set_option maxHeartbeats 4000000 in
theorem bd_pf_StringLatin1_charAt_3b067 {x : kX} {l0 : Launch} {Q : State → Prop} (C : kCx x prog_27_method_2_code "java/lang/StringLatin1" (some .char) kcl yC 2 l0 R0_pf_StringLatin1_charAt_3b067) (σ : kM) (x0 : Int) (x1 : Int) {out : Int} (h : pf_StringLatin1_charAt_3b067 σ x0 x1 = some out) (hR : ∀ (r : Int), out = r → Q = kQ x (some (ki r)) σ 0 0) : KW x 0 0 Q σ 0 [some (ke (4 * x0 + 2)), some (ki x1)] [] := by
  unfold pf_StringLatin1_charAt_3b067 at h
  refine kw_iload_n C (kdec dc_StringLatin1_charAt_3b067 0 rfl) rfl 1 rfl rfl ?_
  refine kw_eload_n C (kdec dc_StringLatin1_charAt_3b067 1 rfl) rfl 2 rfl rfl ?_
  obtain ⟨hc_1, h⟩ := kchk_h h
  refine kw_alenV C (kdec dc_StringLatin1_charAt_3b067 2 rfl) 3 rfl hc_1.1 hc_1.2 ?_
  obtain ⟨⟨⟩, hg_5, h⟩ := kbind_h h
  refine kw_callS (As := [ki x1, ki (kLn x0)]) C (kdec dc_StringLatin1_charAt_3b067 3 rfl) 6 rfl cs_StringLatin1_9 (mt_pf_String_checkIndex_df160 l0 hg_5) ⟨rfl, rfl⟩ ⟨Nat.le_of_ble_eq_true rfl, Nat.le_of_ble_eq_true rfl⟩ ⟨Nat.zero_le _, Nat.zero_le _⟩ rfl (Nat.le_of_ble_eq_true rfl) ?_
  change KW x 0 0 Q σ 6 [some (ke (4 * x0 + 2)), some (ki x1)] []
  refine kw_eload_n C (kdec dc_StringLatin1_charAt_3b067 4 rfl) rfl 7 rfl rfl ?_
  refine kw_iload_n C (kdec dc_StringLatin1_charAt_3b067 5 rfl) rfl 8 rfl rfl ?_
  obtain ⟨hc_2, h⟩ := kchk_h h
  obtain ⟨hc_3, h⟩ := kchk_h h
  refine kw_baldV C (kdec dc_StringLatin1_charAt_3b067 6 rfl) 9 rfl hc_3.1 hc_3.2 hc_2.1 hc_2.2 ?_
  refine kw_sipush (v := 255) C (kdec dc_StringLatin1_charAt_3b067 7 rfl) 12 rfl (by decide) ⟨by decide, by decide⟩ ?_
  refine kw_iand C (kdec dc_StringLatin1_charAt_3b067 8 rfl) 13 rfl ?_
  refine kw_i2c C (kdec dc_StringLatin1_charAt_3b067 9 rfl) 14 rfl ?_
  obtain ⟨hc_4, h⟩ := kchk_h h
  obtain rfl := Option.some.inj h
  exact kw_Q (hR _ rfl) (kw_creturn C (kdec dc_StringLatin1_charAt_3b067 10 rfl) hc_4)
theorem mt_pf_StringLatin1_charAt_3b067 (l0 : Launch) {σ : kM} {x0 : Int} {x1 : Int} {r : Int} (h : pf_StringLatin1_charAt_3b067 σ x0 x1 = some r) : kMet l0 ky_StringLatin1_charAt_3b067 prog_27_method_2_code 2 (some .char) R0_pf_StringLatin1_charAt_3b067 kcl yC σ [ke (4 * x0 + 2), ki x1] (some (ki r)) σ := kMet.of' [some (ke (4 * x0 + 2)), some (ki x1)] (by decide) (Nat.le_of_ble_eq_true rfl) ⟨rfl, rfl, trivial⟩ (fun x C => bd_pf_StringLatin1_charAt_3b067 C σ x0 x1 h (fun r e => by subst e; rfl))
def R0_pf_String_charAt_5068e : Room := ({ frames := 3, cells := 0, slots := 0, locals := 64 } : Room)
def pf_String_charAt_5068e (σ : kM) (x0 : Int) (x1 : Int) : Option (Int) :=
  kchk (0 ≤ x0 ∧ x0 < 19) <|
  (pf_String_isLatin1_aae02 σ x0).bind fun r_1 =>
  if r_1 = 0 then
    kchk (0 ≤ x0 ∧ x0 < 19) <|
    none
  else
    kchk (0 ≤ x0 ∧ x0 < 19) <|
    (pf_StringLatin1_charAt_3b067 σ x0 x1).bind fun r_4 =>
    kchk (0 ≤ r_4 ∧ r_4 < 65536) <|
    some r_4
set_option maxHeartbeats 4000000 in
theorem bd_pf_String_charAt_5068e {x : kX} {l0 : Launch} {Q : State → Prop} (C : kCx x prog_26_method_56_code "java/lang/String" (some .char) kcl yC 2 l0 R0_pf_String_charAt_5068e) (σ : kM) (x0 : Int) (x1 : Int) {out : Int} (h : pf_String_charAt_5068e σ x0 x1 = some out) (hR : ∀ (r : Int), out = r → Q = kQ x (some (ki r)) σ 0 0) : KW x 0 0 Q σ 0 [some (ke (4 * x0 + 1)), some (ki x1)] [] := by
  unfold pf_String_charAt_5068e at h
  refine kw_eload_n C (kdec dc_String_charAt_5068e 0 rfl) rfl 1 rfl rfl ?_
  obtain ⟨hc_8, h⟩ := kchk_h h
  obtain ⟨r_1, hg_7, h⟩ := kbind_h h
  refine kw_callT (As := []) C (kdec dc_String_charAt_5068e 1 rfl) 4 rfl hc_8.1 hc_8.2 cv_String_492 (mt_pf_String_isLatin1_aae02 l0 hg_7) ⟨rfl, rfl⟩ ⟨Nat.le_of_ble_eq_true rfl, Nat.le_of_ble_eq_true rfl⟩ ⟨Nat.zero_le _, Nat.zero_le _⟩ rfl (Nat.le_of_ble_eq_true rfl) ?_
  change KW x 0 0 Q σ 4 [some (ke (4 * x0 + 1)), some (ki x1)] [ki r_1]
  refine kw_if_eq C (kdec dc_String_charAt_5068e 2 rfl) 16 7 (by decide) rfl (fun hc4 => ?_) (fun hc4 => ?_)
  · rw [if_pos hc4] at h
    refine kw_eload_n C (kdec dc_String_charAt_5068e 8 rfl) rfl 17 rfl rfl ?_
    obtain ⟨hc_2, h⟩ := kchk_h h
    refine kw_getTv C (kdec dc_String_charAt_5068e 9 rfl) 20 rfl hc_2.1 hc_2.2 wd_2220 ?_
    refine kw_iload_n C (kdec dc_String_charAt_5068e 10 rfl) rfl 21 rfl rfl ?_
    cases h
  · rw [if_neg hc4] at h
    refine kw_eload_n C (kdec dc_String_charAt_5068e 3 rfl) rfl 8 rfl rfl ?_
    obtain ⟨hc_3, h⟩ := kchk_h h
    refine kw_getTv C (kdec dc_String_charAt_5068e 4 rfl) 11 rfl hc_3.1 hc_3.2 wd_2220 ?_
    refine kw_iload_n C (kdec dc_String_charAt_5068e 5 rfl) rfl 12 rfl rfl ?_
    obtain ⟨r_4, hg_6, h⟩ := kbind_h h
    refine kw_callS (As := [ke (4 * x0 + 2), ki x1]) C (kdec dc_String_charAt_5068e 6 rfl) 15 rfl cs_String_495 (mt_pf_StringLatin1_charAt_3b067 l0 hg_6) ⟨rfl, rfl⟩ ⟨Nat.le_of_ble_eq_true rfl, Nat.le_of_ble_eq_true rfl⟩ ⟨Nat.zero_le _, Nat.zero_le _⟩ rfl (Nat.le_of_ble_eq_true rfl) ?_
    change KW x 0 0 Q σ 15 [some (ke (4 * x0 + 1)), some (ki x1)] [ki r_4]
    obtain ⟨hc_5, h⟩ := kchk_h h
    obtain rfl := Option.some.inj h
    exact kw_Q (hR _ rfl) (kw_creturn C (kdec dc_String_charAt_5068e 7 rfl) hc_5)
theorem mt_pf_String_charAt_5068e (l0 : Launch) {σ : kM} {x0 : Int} {x1 : Int} {r : Int} (h : pf_String_charAt_5068e σ x0 x1 = some r) : kMet l0 ky_String_charAt_5068e prog_26_method_56_code 2 (some .char) R0_pf_String_charAt_5068e kcl yC σ [ke (4 * x0 + 1), ki x1] (some (ki r)) σ := kMet.of' [some (ke (4 * x0 + 1)), some (ki x1)] (by decide) (Nat.le_of_ble_eq_true rfl) ⟨rfl, rfl, trivial⟩ (fun x C => bd_pf_String_charAt_5068e C σ x0 x1 h (fun r e => by subst e; rfl))
def R0_pf_Word_isSpelt_1 : Room := ({ frames := 4, cells := 0, slots := 0, locals := 85 } : Room)
def pf_Word_isSpelt_1_l18 (σ : kM) (x0 : Int) (x2 : Int) (x4 : Int) : Option ((Int) ⊕ ((Unit) ⊕ (Unit))) :=
  kchk (0 ≤ x0 ∧ x0 < 18) <|
  kchk (0 ≤ x0 ∧ x0 < 19) <|
  (pf_String_length_8abf5 σ x0).bind fun r_4 =>
  if r_4 ≤ x4 then
    some (Sum.inr (Sum.inr ()))
  else
    if 700 ≤ (w32 (x2 + x4)) then
      some (Sum.inr (Sum.inl ()))
    else
      kchk (0 ≤ (w32 (x2 + x4)) ∧ (w32 (x2 + x4)) < 700) <|
      kchk (0 ≤ x0 ∧ x0 < 18) <|
      kchk (0 ≤ x0 ∧ x0 < 19) <|
      (pf_String_charAt_5068e σ x0 x4).bind fun r_7 =>
      if (σ 1 (w32 (x2 + x4)).toNat) = r_7 then
        klet (w32 (x4 + 1)) fun x4_8 =>
        some (Sum.inl x4_8)
      else
        some (Sum.inr (Sum.inl ()))
set_option maxHeartbeats 4000000 in
theorem bd_pf_Word_isSpelt_1_l18 {x : kX} {l0 : Launch} {Q : State → Prop} (C : kCx x prog_11_method_6_code "PoetFines$Word" (some .boolean) kcl yC 5 l0 R0_pf_Word_isSpelt_1) (σ : kM) (x0 : Int) (x2 : Int) (x4 : Int) {out : (Int) ⊕ ((Unit) ⊕ (Unit))} (h : pf_Word_isSpelt_1_l18 σ x0 x2 x4 = some out) (hC : ∀ (x4' : Int), out = Sum.inl x4' → KW x 0 0 Q σ 18 [some (ke (4 * x0)), some (kr 1), some (ki x2), none, some (ki x4')] []) (hX57 : out = Sum.inr (Sum.inl ()) → KW x 0 0 Q σ 57 [none, none, none, none, none] []) (hX65 : out = Sum.inr (Sum.inr ()) → KW x 0 0 Q σ 65 [none, none, none, none, none] []) : KW x 0 0 Q σ 18 [some (ke (4 * x0)), some (kr 1), some (ki x2), none, some (ki x4)] [] := by
  unfold pf_Word_isSpelt_1_l18 at h
  refine kw_iload C (kdec dc_Word_isSpelt 11 rfl) 20 rfl rfl ?_
  refine kw_eload_n C (kdec dc_Word_isSpelt 12 rfl) rfl 21 rfl rfl ?_
  obtain ⟨hc_3, h⟩ := kchk_h h
  refine kw_getEt C (kdec dc_Word_isSpelt 13 rfl) 24 rfl hc_3.1 hc_3.2 wd_2219 ?_
  obtain ⟨hc_12, h⟩ := kchk_h h
  obtain ⟨r_4, hg_11, h⟩ := kbind_h h
  refine kw_callT (As := []) C (kdec dc_Word_isSpelt 14 rfl) 27 rfl hc_12.1 hc_12.2 cv_Word_97 (mt_pf_String_length_8abf5 l0 hg_11) ⟨rfl, rfl⟩ ⟨Nat.le_of_ble_eq_true rfl, Nat.le_of_ble_eq_true rfl⟩ ⟨Nat.zero_le _, Nat.zero_le _⟩ rfl (Nat.le_of_ble_eq_true rfl) ?_
  change KW x 0 0 Q σ 27 [some (ke (4 * x0)), some (kr 1), some (ki x2), none, some (ki x4)] [ki r_4, ki x4]
  refine kw_icmp_ge C (kdec dc_Word_isSpelt 15 rfl) 65 30 (by decide) rfl (fun hc27 => ?_) (fun hc27 => ?_)
  · rw [if_pos hc27] at h
    obtain rfl := Option.some.inj h
    exact kw_sub (L' := [none, none, none, none, none]) trivial (hX65 rfl)
  · rw [if_neg hc27] at h
    refine kw_iload_n C (kdec dc_Word_isSpelt 16 rfl) rfl 31 rfl rfl ?_
    refine kw_iload C (kdec dc_Word_isSpelt 17 rfl) 33 rfl rfl ?_
    refine kw_iadd C (kdec dc_Word_isSpelt 18 rfl) 34 rfl ?_
    refine kw_aload_n C (kdec dc_Word_isSpelt 19 rfl) rfl 35 rfl rfl ?_
    refine kw_alen (v := 700) C (kdec dc_Word_isSpelt 20 rfl) 36 rfl rfl (by decide) rfl ⟨by decide, by decide⟩ ?_
    refine kw_icmp_ge C (kdec dc_Word_isSpelt 21 rfl) 57 39 (by decide) rfl (fun hc36 => ?_) (fun hc36 => ?_)
    · rw [if_pos hc36] at h
      obtain rfl := Option.some.inj h
      exact kw_sub (L' := [none, none, none, none, none]) trivial (hX57 rfl)
    · rw [if_neg hc36] at h
      refine kw_aload_n C (kdec dc_Word_isSpelt 22 rfl) rfl 40 rfl rfl ?_
      refine kw_iload_n C (kdec dc_Word_isSpelt 23 rfl) rfl 41 rfl rfl ?_
      refine kw_iload C (kdec dc_Word_isSpelt 24 rfl) 43 rfl rfl ?_
      refine kw_iadd C (kdec dc_Word_isSpelt 25 rfl) 44 rfl ?_
      obtain ⟨hc_5, h⟩ := kchk_h h
      refine kw_bald C (kdec dc_Word_isSpelt 26 rfl) 45 rfl rfl hc_5.1 hc_5.2 ?_
      refine kw_eload_n C (kdec dc_Word_isSpelt 27 rfl) rfl 46 rfl rfl ?_
      obtain ⟨hc_6, h⟩ := kchk_h h
      refine kw_getEt C (kdec dc_Word_isSpelt 28 rfl) 49 rfl hc_6.1 hc_6.2 wd_2219 ?_
      refine kw_iload C (kdec dc_Word_isSpelt 29 rfl) 51 rfl rfl ?_
      obtain ⟨hc_10, h⟩ := kchk_h h
      obtain ⟨r_7, hg_9, h⟩ := kbind_h h
      refine kw_callT (As := [ki x4]) C (kdec dc_Word_isSpelt 30 rfl) 54 rfl hc_10.1 hc_10.2 cv_Word_103 (mt_pf_String_charAt_5068e l0 hg_9) ⟨rfl, rfl⟩ ⟨Nat.le_of_ble_eq_true rfl, Nat.le_of_ble_eq_true rfl⟩ ⟨Nat.zero_le _, Nat.zero_le _⟩ rfl (Nat.le_of_ble_eq_true rfl) ?_
      change KW x 0 0 Q σ 54 [some (ke (4 * x0)), some (kr 1), some (ki x2), none, some (ki x4)] [ki r_7, ki (σ 1 (w32 (x2 + x4)).toNat)]
      refine kw_icmp_eq C (kdec dc_Word_isSpelt 31 rfl) 59 57 (by decide) rfl (fun hc54 => ?_) (fun hc54 => ?_)
      · rw [if_pos hc54] at h
        obtain ⟨x4_8, ex4_8, h⟩ := klet_h h
        refine kw_iinc (L' := [some (ke (4 * x0)), some (kr 1), some (ki x2), none, some (ki x4_8)]) C (kdec dc_Word_isSpelt 34 rfl) 62 rfl rfl (by decide) rfl (by rw [ex4_8]; rfl) ?_
        refine kw_goto C (kdec dc_Word_isSpelt 35 rfl) 18 (by decide) ?_
        obtain rfl := Option.some.inj h
        exact (hC _ rfl)
      · rw [if_neg hc54] at h
        obtain rfl := Option.some.inj h
        exact kw_sub (L' := [none, none, none, none, none]) trivial (hX57 rfl)
theorem lp_pf_Word_isSpelt_1_l18 {x : kX} {l0 : Launch} {Q : State → Prop} (C : kCx x prog_11_method_6_code "PoetFines$Word" (some .boolean) kcl yC 5 l0 R0_pf_Word_isSpelt_1) (σ : kM) (x0 : Int) (x2 : Int) {ex : (Unit) ⊕ (Unit)} (hX57 : ex = (Sum.inl ()) → KW x 0 0 Q σ 57 [none, none, none, none, none] []) (hX65 : ex = (Sum.inr ()) → KW x 0 0 Q σ 65 [none, none, none, none, none] []) (n : Nat) (x4 : Int) (h : kloop (fun st => pf_Word_isSpelt_1_l18 σ x0 x2 st) n x4 = some ex) : KW x 0 0 Q σ 18 [some (ke (4 * x0)), some (kr 1), some (ki x2), none, some (ki x4)] [] :=
  kloop_ind (P := (fun st : Int => KW x 0 0 Q σ 18 [some (ke (4 * x0)), some (kr 1), some (ki x2), none, some (ki st)] [])) (fun st out hb hc hx => bd_pf_Word_isSpelt_1_l18 C σ x0 x2 st hb (fun a0 e => hc _ e) (fun e => hX57 ((hx _ e).symm)) (fun e => hX65 ((hx _ e).symm))) n x4 h
def pf_Word_isSpelt_1 (σ : kM) (x0 : Int) (x2 : Int) (x3 : Int) : Option (Int) :=
  kchk (0 ≤ x0 ∧ x0 < 18) <|
  kchk (0 ≤ x0 ∧ x0 < 19) <|
  (pf_String_length_8abf5 σ x0).bind fun r_2 =>
  if (w32 (x3 - x2)) = r_2 then
    (kloop (fun st => pf_Word_isSpelt_1_l18 σ x0 x2 st) kFuel 0).bind fun ex_13 => match ex_13 with
      | (Sum.inl ()) =>
        some 0
      | (Sum.inr ()) =>
        some 1
  else
    some 0
set_option maxHeartbeats 4000000 in
theorem bd_pf_Word_isSpelt_1 {x : kX} {l0 : Launch} {Q : State → Prop} (C : kCx x prog_11_method_6_code "PoetFines$Word" (some .boolean) kcl yC 5 l0 R0_pf_Word_isSpelt_1) (σ : kM) (x0 : Int) (x2 : Int) (x3 : Int) {out : Int} (h : pf_Word_isSpelt_1 σ x0 x2 x3 = some out) (hR : ∀ (r : Int), out = r → Q = kQ x (some (ki r)) σ 0 0) : KW x 0 0 Q σ 0 [some (ke (4 * x0)), some (kr 1), some (ki x2), some (ki x3), none] [] := by
  unfold pf_Word_isSpelt_1 at h
  refine kw_iload_n C (kdec dc_Word_isSpelt 0 rfl) rfl 1 rfl rfl ?_
  refine kw_iload_n C (kdec dc_Word_isSpelt 1 rfl) rfl 2 rfl rfl ?_
  refine kw_isub C (kdec dc_Word_isSpelt 2 rfl) 3 rfl ?_
  refine kw_eload_n C (kdec dc_Word_isSpelt 3 rfl) rfl 4 rfl rfl ?_
  obtain ⟨hc_1, h⟩ := kchk_h h
  refine kw_getEt C (kdec dc_Word_isSpelt 4 rfl) 7 rfl hc_1.1 hc_1.2 wd_2219 ?_
  obtain ⟨hc_16, h⟩ := kchk_h h
  obtain ⟨r_2, hg_15, h⟩ := kbind_h h
  refine kw_callT (As := []) C (kdec dc_Word_isSpelt 5 rfl) 10 rfl hc_16.1 hc_16.2 cv_Word_97 (mt_pf_String_length_8abf5 l0 hg_15) ⟨rfl, rfl⟩ ⟨Nat.le_of_ble_eq_true rfl, Nat.le_of_ble_eq_true rfl⟩ ⟨Nat.zero_le _, Nat.zero_le _⟩ rfl (Nat.le_of_ble_eq_true rfl) ?_
  change KW x 0 0 Q σ 10 [some (ke (4 * x0)), some (kr 1), some (ki x2), some (ki x3), none] [ki r_2, ki (w32 (x3 - x2))]
  refine kw_icmp_eq C (kdec dc_Word_isSpelt 6 rfl) 15 13 (by decide) rfl (fun hc10 => ?_) (fun hc10 => ?_)
  · rw [if_pos hc10] at h
    refine kw_iconst C (kdec dc_Word_isSpelt 9 rfl) 16 rfl rfl ⟨by decide, by decide⟩ ?_
    refine kw_istore (L' := [some (ke (4 * x0)), some (kr 1), some (ki x2), some (ki x3), some (ki 0)]) C (kdec dc_Word_isSpelt 10 rfl) 18 rfl (by decide) rfl rfl ?_
    obtain ⟨ex_13, hl_14, h⟩ := kbind_h h
    refine kw_sub (L' := [some (ke (4 * x0)), some (kr 1), some (ki x2), none, some (ki 0)]) ⟨rfl, rfl, rfl, rfl, trivial⟩ (lp_pf_Word_isSpelt_1_l18 C σ x0 x2 ?_ ?_ kFuel 0 hl_14)
    · intro e
      subst ex_13
      try dsimp only at h
      refine kw_iconst C (kdec dc_Word_isSpelt 32 rfl) 58 rfl rfl ⟨by decide, by decide⟩ ?_
      obtain rfl := Option.some.inj h
      exact kw_Q (hR _ rfl) (kw_zreturn C (kdec dc_Word_isSpelt 33 rfl) (by decide))
    · intro e
      subst ex_13
      try dsimp only at h
      refine kw_iconst C (kdec dc_Word_isSpelt 36 rfl) 66 rfl rfl ⟨by decide, by decide⟩ ?_
      obtain rfl := Option.some.inj h
      exact kw_Q (hR _ rfl) (kw_zreturn C (kdec dc_Word_isSpelt 37 rfl) (by decide))
  · rw [if_neg hc10] at h
    refine kw_iconst C (kdec dc_Word_isSpelt 7 rfl) 14 rfl rfl ⟨by decide, by decide⟩ ?_
    obtain rfl := Option.some.inj h
    exact kw_Q (hR _ rfl) (kw_zreturn C (kdec dc_Word_isSpelt 8 rfl) (by decide))
theorem mt_pf_Word_isSpelt_1 (l0 : Launch) {σ : kM} {x0 : Int} {x2 : Int} {x3 : Int} {r : Int} (h : pf_Word_isSpelt_1 σ x0 x2 x3 = some r) : kMet l0 ky_Word_isSpelt prog_11_method_6_code 5 (some .boolean) R0_pf_Word_isSpelt_1 kcl yC σ [ke (4 * x0), kr 1, ki x2, ki x3] (some (ki r)) σ := kMet.of' [some (ke (4 * x0)), some (kr 1), some (ki x2), some (ki x3), none] (by decide) (Nat.le_of_ble_eq_true rfl) ⟨rfl, rfl, rfl, rfl, trivial⟩ (fun x C => bd_pf_Word_isSpelt_1 C σ x0 x2 x3 h (fun r e => by subst e; rfl))
